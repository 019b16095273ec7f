/-! hidden -/
theorem bt_mask {C c : Nat} (hC : C ≤ 8) (hc : c < 32) : bt1 (((1 : Int32) <<< (iI (C : Int) &&& 31)) - 1) c = decide (c < C) :=
  (show ∀ C, C < 9 → ∀ c, c < 32 → bt1 (((1 : Int32) <<< (iI ((C : Nat) : Int) &&& 31)) - 1) c = decide (c < C) by decide +kernel) C (by omega) c hc
/-- the crates reached out of those of a set -/
def stP (T : Td) (r : Int32) (x : Nat) : Prop := if 0 < wN T 3 then x < tC T else if 0 < wN T 1 then (bt1 r x = true ∨ ∃ q, q < tC T ∧ bt1 r q = true ∧ (x = upC q ∨ x = dnC (tC T) q)) else bt1 r x = true
theorem c_reach {σ : St} {T : Td} (hT : TdOk T) (hC : TdC 0 σ T) (r : Int32) : ∃ r2, x_X8_reachedFrom r σ = some r2 ∧ ∀ x, x < 32 → (bt1 r2 x = true ↔ stP T r x) := by
  have hC8 := hT.1
  have w1 := (wN_eq hT (i := 1) (by omega)).2
  have w3 := (wN_eq hT (i := 3) (by omega)).2
  unfold x_X8_reachedFrom stP
  rw [show (3 : Int32) = iI ((3 : Nat) : Int) from rfl, c_weight hC hT (by omega), bd_some, show (1 : Int32) = iI ((1 : Nat) : Int) from rfl, c_weight hC hT (by omega), bd_some, show gI σ 0 = iI (tC T) from hC.1]
  simp (disch := omega) only [qm0]
  by_cases e3 : 0 < wN T 3
  · rw [if_neg (by omega)]
    simp only [if_pos e3]
    refine ⟨_, rfl, fun x hx => ?_⟩
    rw [show (iI ((1 : Nat) : Int) <<< (iI (tC T : Int) &&& 31)) - iI ((1 : Nat) : Int) = ((1 : Int32) <<< (iI (tC T : Int) &&& 31)) - 1 from rfl, bt_mask hC8 hx, decide_eq_true_eq]
  · rw [if_pos (by omega)]
    simp only [if_neg e3]
    by_cases e1 : 0 < wN T 1
    · rw [if_neg (by omega)]
      simp only [if_pos e1]
      have key := lp_inv (f := fun v : (Int32 × Int32) => x_X8_reachedFrom_L44 r σ v.1 v.2) (fun c v => v.2 = iI ((c : Nat) : Int) ∧ ∀ x, x < 32 → (bt1 v.1 x = true ↔ bt1 r x = true ∨ ∃ q, q < c ∧ bt1 r q = true ∧ (x = upC q ∨ x = dnC (tC T) q)))
        (fun v => ∀ x, x < 32 → (bt1 v.1 x = true ↔ bt1 r x = true ∨ ∃ q, q < tC T ∧ bt1 r q = true ∧ (x = upC q ∨ x = dnC (tC T) q))) (tC T) FU (by unfold FU; omega) (fun c v hc hv => ?_) (fun v hv => ?_) (r, 0) ⟨rfl, fun x hx => ⟨fun h => Or.inl h, fun h => by
          rcases h with h | ⟨q, hq, _⟩
          · exact h
          · omega⟩⟩
      · obtain ⟨⟨v1, v2⟩, k1, k2⟩ := key
        refine ⟨v1, ?_, k2⟩
        rw [k1]; rfl
      · obtain ⟨v1, v2⟩ := v
        obtain ⟨h2, h3⟩ := hv
        have h2 : v2 = iI ((c : Nat) : Int) := h2
        subst h2
        dsimp only at h3
        dsimp only
        have hu := upC_lt hc
        have hd := dnC_lt hc
        unfold x_X8_reachedFrom_L44
        rw [show gI σ 0 = iI (tC T) from hC.1]
        simp (disch := omega) only [iI_leD]
        rw [if_neg (by omega), c_hasBit (by omega), bd_some, (c_beside hC hT hc).1, (c_beside hC hT hc).2, bd_some, bd_some, qa1]
        by_cases e : bt1 r c = true
        · rw [if_pos e, if_neg (show ¬ (1 : Int32) = 0 by decide)]
          refine ⟨_, rfl, rfl, fun x hx => ?_⟩
          show bt1 (v1 ||| ((1 <<< (iI (upC c : Nat) &&& 31)) ||| (1 <<< (iI (dnC (tC T) c : Nat) &&& 31)))) x = true ↔ _
          rw [bt_or, bt_or, bt_shl (by omega) hx, bt_shl (by omega) hx, Bool.or_eq_true, Bool.or_eq_true, decide_eq_true_eq, decide_eq_true_eq, h3 x hx]
          constructor
          · rintro ((h | ⟨q, hq, h⟩) | h | h)
            · exact Or.inl h
            · exact Or.inr ⟨q, by omega, h⟩
            · exact Or.inr ⟨c, by omega, e, Or.inl h.symm⟩
            · exact Or.inr ⟨c, by omega, e, Or.inr h.symm⟩
          · rintro (h | ⟨q, hq, h, h'⟩)
            · exact Or.inl (Or.inl h)
            · by_cases z : q = c
              · subst z
                rcases h' with h' | h'
                · exact Or.inr (Or.inl h'.symm)
                · exact Or.inr (Or.inr h'.symm)
              · exact Or.inl (Or.inr ⟨q, by omega, h, h'⟩)
        · rw [if_neg e, if_pos rfl]
          refine ⟨_, rfl, rfl, fun x hx => ?_⟩
          show bt1 v1 x = true ↔ _
          rw [h3 x hx]
          constructor
          · rintro (h | ⟨q, hq, h⟩)
            · exact Or.inl h
            · exact Or.inr ⟨q, by omega, h⟩
          · rintro (h | ⟨q, hq, h, h'⟩)
            · exact Or.inl h
            · by_cases z : q = c
              · subst z; exact absurd h e
              · exact Or.inr ⟨q, by omega, h, h'⟩
      · obtain ⟨v1, v2⟩ := v
        obtain ⟨h2, h3⟩ := hv
        have h2 : v2 = iI ((tC T : Nat) : Int) := h2
        subst h2
        dsimp only
        unfold x_X8_reachedFrom_L44
        rw [show gI σ 0 = iI (tC T) from hC.1]
        simp (disch := omega) only [iI_leD]
        rw [if_pos (by omega)]
        exact ⟨_, rfl, h3⟩
    · rw [if_pos (by omega)]
      simp only [if_neg e1]
      exact ⟨_, rfl, fun x hx => Iff.rfl⟩
/-- one crate's part in the reference's step -/
def spP (T : Td) (q x : Nat) : Prop := (0 < wN T 1 ∧ (x = upC q ∨ x = dnC (tC T) q)) ∨ (0 < wN T 2 ∧ x = q) ∨ (0 < wN T 3 ∧ x < tC T)
theorem m_b92 {τ : St} {T : Td} (hT : TdOk T) (hM : TdM 0 τ T) {c : Nat} (hc : c < tC T) (r b : Int32) : ∃ b2, x_X10_stepped_b20_92 r b (iI c) τ = some (true, b2, iI ((c + 1 : Nat) : Int)) ∧ ∀ x, x < 32 → (bt1 b2 x = true ↔ bt1 b x = true ∨ (0 < wN T 2 ∧ x = c) ∨ (0 < wN T 3 ∧ x < tC T)) := by
  have hC8 := hT.1
  have w2 := (wN_eq hT (i := 2) (by omega)).2
  have w3 := (wN_eq hT (i := 3) (by omega)).2
  have e108 : ∀ b : Int32, ∃ b2, x_X10_stepped_b20_108 r b (iI c) τ = some (true, b2, iI ((c + 1 : Nat) : Int)) ∧ ∀ x, x < 32 → (bt1 b2 x = true ↔ bt1 b x = true ∨ (0 < wN T 3 ∧ x < tC T)) := by
    intro b
    unfold x_X10_stepped_b20_108
    rw [show (3 : Int32) = iI ((3 : Nat) : Int) from rfl, m_weight hM hT (by omega), bd_some, show gI τ 8 = iI (tC T) from hM.1, qa1]
    simp (disch := omega) only [qm0]
    by_cases e : 0 < wN T 3
    · rw [if_neg (by omega)]
      refine ⟨_, rfl, fun x hx => ?_⟩
      rw [bt_or, bt_mask hC8 hx, Bool.or_eq_true, decide_eq_true_eq]
      constructor
      · rintro (h | h)
        · exact Or.inl h
        · exact Or.inr ⟨e, h⟩
      · rintro (h | ⟨_, h⟩)
        · exact Or.inl h
        · exact Or.inr h
    · rw [if_pos (by omega)]
      refine ⟨_, rfl, fun x hx => ⟨fun h => Or.inl h, fun h => ?_⟩⟩
      rcases h with h | ⟨h, _⟩
      · exact h
      · exact absurd h e
  unfold x_X10_stepped_b20_92
  rw [show (2 : Int32) = iI ((2 : Nat) : Int) from rfl, m_weight hM hT (by omega), bd_some]
  simp (disch := omega) only [qm0]
  by_cases e : 0 < wN T 2
  · rw [if_neg (by omega)]
    obtain ⟨b2, k1, k2⟩ := e108 (b ||| (1 <<< (iI (c : Int) &&& 31)))
    refine ⟨b2, k1, fun x hx => ?_⟩
    rw [k2 x hx, bt_or, bt_shl (by omega) hx, Bool.or_eq_true, decide_eq_true_eq]
    constructor
    · rintro ((h | h) | h)
      · exact Or.inl h
      · exact Or.inr (Or.inl ⟨e, h.symm⟩)
      · exact Or.inr (Or.inr h)
    · rintro (h | ⟨_, h⟩ | h)
      · exact Or.inl (Or.inl h)
      · exact Or.inl (Or.inr h.symm)
      · exact Or.inr h
  · rw [if_pos (by omega)]
    obtain ⟨b2, k1, k2⟩ := e108 b
    refine ⟨b2, k1, fun x hx => ?_⟩
    rw [k2 x hx]
    constructor
    · rintro (h | h)
      · exact Or.inl h
      · exact Or.inr (Or.inr h)
    · rintro (h | ⟨h, _⟩ | h)
      · exact Or.inl h
      · exact absurd h e
      · exact Or.inr h
theorem m_stepped {τ : St} {T : Td} (hT : TdOk T) (hM : TdM 0 τ T) {own : Nat} (ho : own < tC T) (r : Int32) : ∃ b, x_X10_stepped r (iI own) τ = some b ∧ ∀ x, x < 32 → (bt1 b x = true ↔ (0 < wN T 0 ∧ x = own) ∨ ∃ q, q < tC T ∧ bt1 r q = true ∧ spP T q x) := by
  have hC8 := hT.1
  have w0 := (wN_eq hT (i := 0) (by omega)).2
  have w1 := (wN_eq hT (i := 1) (by omega)).2
  have e16 : ∀ b : Int32, ∃ b2, x_X10_stepped_b16 r b τ = some b2 ∧ ∀ x, x < 32 → (bt1 b2 x = true ↔ bt1 b x = true ∨ ∃ q, q < tC T ∧ bt1 r q = true ∧ spP T q x) := by
    intro b
    have key := lp_inv (f := fun v : (Int32 × Int32) => x_X10_stepped_L20 r τ v.1 v.2) (fun c v => v.2 = iI ((c : Nat) : Int) ∧ ∀ x, x < 32 → (bt1 v.1 x = true ↔ bt1 b x = true ∨ ∃ q, q < c ∧ bt1 r q = true ∧ spP T q x))
      (fun v => ∀ x, x < 32 → (bt1 v.1 x = true ↔ bt1 b x = true ∨ ∃ q, q < tC T ∧ bt1 r q = true ∧ spP T q x)) (tC T) FU (by unfold FU; omega) (fun c v hc hv => ?_) (fun v hv => ?_) (b, 0) ⟨rfl, fun x hx => ⟨fun h => Or.inl h, fun h => by
        rcases h with h | ⟨q, hq, _⟩
        · exact h
        · omega⟩⟩
    · obtain ⟨⟨v1, v2⟩, k1, k2⟩ := key
      refine ⟨v1, ?_, k2⟩
      unfold x_X10_stepped_b16
      rw [k1]; rfl
    · obtain ⟨v1, v2⟩ := v
      obtain ⟨h2, h3⟩ := hv
      have h2 : v2 = iI ((c : Nat) : Int) := h2
      subst h2
      dsimp only at h3
      dsimp only
      have hu := upC_lt hc
      have hd := dnC_lt hc
      unfold x_X10_stepped_L20
      rw [show gI τ 8 = iI (tC T) from hM.1]
      simp (disch := omega) only [iI_leD, qm0]
      rw [if_neg (by omega)]
      by_cases e : bt1 r c = true
      · rw [if_neg (fun z => by rw [(bitZ (by omega)).mp z] at e; exact absurd e (by decide)), show (1 : Int32) = iI ((1 : Nat) : Int) from rfl, m_weight hM hT (by omega), bd_some]
        simp (disch := omega) only [qm0]
        by_cases e1 : 0 < wN T 1
        · rw [if_neg (by omega)]
          obtain ⟨b2, k1, k2⟩ := m_b92 hT hM hc r (v1 ||| ((1 <<< (iI (upC c : Nat) &&& 31)) ||| (1 <<< (iI (dnC (tC T) c : Nat) &&& 31))))
          have e66 : x_X10_stepped_b20_66 r (iI c) v1 1 (iI (upC c : Nat)) τ = some (true, b2, iI ((c + 1 : Nat) : Int)) := by
            unfold x_X10_stepped_b20_66 x_X10_stepped_b20_88
            rw [show gI τ 8 = iI (tC T) from hM.1, qa1]
            simp (disch := omega) only [iI_leD]
            unfold dnC at k1
            by_cases z : c + 1 < tC T
            · rw [if_pos z] at k1
              rw [if_neg (by omega)]
              exact k1
            · rw [if_neg z] at k1
              rw [if_pos (by omega)]
              exact k1
          have hres : (if (c : Int) ≤ 0 then x_X10_stepped_b20_66 r (iI c) v1 (iI ((1 : Nat) : Int)) (iI c) τ else x_X10_stepped_b20_66 r (iI c) v1 (iI ((1 : Nat) : Int)) (iI (c : Int) - iI ((1 : Nat) : Int)) τ) = some (true, b2, iI ((c + 1 : Nat) : Int)) := by
            unfold upC at e66
            by_cases z : c = 0
            · rw [if_pos z] at e66
              rw [if_pos (by omega)]
              exact e66
            · rw [if_neg z] at e66
              rw [if_neg (by omega), iI_sub, show (c : Int) - ((1 : Nat) : Int) = ((c - 1 : Nat) : Int) from by omega]
              exact e66
          rw [hres]
          refine ⟨_, rfl, rfl, fun x hx => ?_⟩
          show bt1 b2 x = true ↔ _
          rw [k2 x hx, bt_or, bt_or, bt_shl (by omega) hx, bt_shl (by omega) hx, Bool.or_eq_true, Bool.or_eq_true, decide_eq_true_eq, decide_eq_true_eq, h3 x hx]
          constructor
          · rintro (((h | ⟨q, hq, h⟩) | h | h) | h)
            · exact Or.inl h
            · exact Or.inr ⟨q, by omega, h⟩
            · exact Or.inr ⟨c, by omega, e, Or.inl ⟨e1, Or.inl h.symm⟩⟩
            · exact Or.inr ⟨c, by omega, e, Or.inl ⟨e1, Or.inr h.symm⟩⟩
            · exact Or.inr ⟨c, by omega, e, Or.inr h⟩
          · rintro (h | ⟨q, hq, h, h'⟩)
            · exact Or.inl (Or.inl (Or.inl h))
            · by_cases z : q = c
              · subst z
                rcases h' with ⟨_, h' | h'⟩ | h'
                · exact Or.inl (Or.inr (Or.inl h'.symm))
                · exact Or.inl (Or.inr (Or.inr h'.symm))
                · exact Or.inr h'
              · exact Or.inl (Or.inl (Or.inr ⟨q, by omega, h, h'⟩))
        · rw [if_pos (by omega)]
          obtain ⟨b2, k1, k2⟩ := m_b92 hT hM hc r v1
          rw [k1]
          refine ⟨_, rfl, rfl, fun x hx => ?_⟩
          show bt1 b2 x = true ↔ _
          rw [k2 x hx, h3 x hx]
          constructor
          · rintro ((h | ⟨q, hq, h⟩) | h)
            · exact Or.inl h
            · exact Or.inr ⟨q, by omega, h⟩
            · exact Or.inr ⟨c, by omega, e, Or.inr h⟩
          · rintro (h | ⟨q, hq, h, h'⟩)
            · exact Or.inl (Or.inl h)
            · by_cases z : q = c
              · subst z
                rcases h' with ⟨h', _⟩ | h'
                · exact absurd h' e1
                · exact Or.inr h'
              · exact Or.inl (Or.inr ⟨q, by omega, h, h'⟩)
      · rw [if_pos ((bitZ (by omega)).mpr (by simpa using e)), qa1]
        refine ⟨_, rfl, rfl, fun x hx => ?_⟩
        show bt1 v1 x = true ↔ _
        rw [h3 x hx]
        constructor
        · rintro (h | ⟨q, hq, h⟩)
          · exact Or.inl h
          · exact Or.inr ⟨q, by omega, h⟩
        · rintro (h | ⟨q, hq, h, h'⟩)
          · exact Or.inl h
          · by_cases z : q = c
            · subst z; exact absurd h e
            · exact Or.inr ⟨q, by omega, h, h'⟩
    · obtain ⟨v1, v2⟩ := v
      obtain ⟨h2, h3⟩ := hv
      have h2 : v2 = iI ((tC T : Nat) : Int) := h2
      subst h2
      dsimp only
      unfold x_X10_stepped_L20
      rw [show gI τ 8 = iI (tC T) from hM.1]
      simp (disch := omega) only [iI_leD]
      rw [if_pos (by omega)]
      exact ⟨_, rfl, h3⟩
  unfold x_X10_stepped
  rw [show (0 : Int32) = iI ((0 : Nat) : Int) from rfl, m_weight hM hT (by omega), bd_some, show iI ((0 : Nat) : Int) = (0 : Int32) from rfl]
  simp (disch := omega) only [qm0]
  by_cases e : 0 < wN T 0
  · rw [if_neg (by omega)]
    obtain ⟨b2, k1, k2⟩ := e16 (1 <<< (iI (own : Int) &&& 31))
    refine ⟨b2, k1, fun x hx => ?_⟩
    rw [k2 x hx, bt_shl (by omega) hx, decide_eq_true_eq]
    constructor
    · rintro (h | h)
      · exact Or.inl ⟨e, h.symm⟩
      · exact Or.inr h
    · rintro (⟨_, h⟩ | h)
      · exact Or.inl h.symm
      · exact Or.inr h
  · rw [if_pos (by omega)]
    obtain ⟨b2, k1, k2⟩ := e16 0
    refine ⟨b2, k1, fun x hx => ?_⟩
    rw [k2 x hx, bt_zero]
    constructor
    · rintro (h | h)
      · exact absurd h (by decide)
      · exact Or.inr h
    · rintro (⟨h, _⟩ | h)
      · exact absurd h e
      · exact Or.inr h
/-- the class's step and the reference's give the same set -/
theorem both_reach {σ τ : St} {T : Td} (hT : TdOk T) (hC : TdC 0 σ T) (hM : TdM 0 τ T) {own : Nat} (ho : own < tC T) {r : Int32} (h1 : bt1 r own = true) (h2 : ∀ x, x < 32 → bt1 r x = true → x < tC T) : ∃ r2 b, x_X8_reachedFrom r σ = some r2 ∧ x_X10_stepped r (iI own) τ = some b ∧ r ||| b = r2 ∧ bt1 r2 own = true ∧ ∀ x, x < 32 → bt1 r2 x = true → x < tC T := by
  have hC8 := hT.1
  obtain ⟨r2, a1, a2⟩ := c_reach hT hC r
  obtain ⟨b, b1, b2⟩ := m_stepped hT hM ho r
  have hlt : ∀ x, x < 32 → stP T r x → x < tC T := by
    intro x hx h
    unfold stP at h
    by_cases e3 : 0 < wN T 3
    · rw [if_pos e3] at h; exact h
    · rw [if_neg e3] at h
      by_cases e1 : 0 < wN T 1
      · rw [if_pos e1] at h
        rcases h with h | ⟨q, hq, _, rfl | rfl⟩
        · exact h2 x hx h
        · exact upC_lt hq
        · exact dnC_lt hq
      · rw [if_neg e1] at h; exact h2 x hx h
  have hin : ∀ x, x < 32 → bt1 r x = true → stP T r x := by
    intro x hx h
    unfold stP
    by_cases e3 : 0 < wN T 3
    · rw [if_pos e3]; exact h2 x hx h
    · rw [if_neg e3]
      by_cases e1 : 0 < wN T 1
      · rw [if_pos e1]; exact Or.inl h
      · rw [if_neg e1]; exact h
  refine ⟨r2, b, a1, b1, bt_ext (fun x hx => ?_), (a2 own (by omega)).mpr (hin own (by omega) h1), fun x hx h => hlt x hx ((a2 x hx).mp h)⟩
  rw [bt_or]
  refine Bool.eq_iff_iff.mpr ?_
  rw [Bool.or_eq_true, b2 x hx, a2 x hx]
  constructor
  · rintro (h | ⟨_, rfl⟩ | ⟨q, hq, hb, h⟩)
    · exact hin x hx h
    · exact hin x hx h1
    · rcases h with ⟨e1, h⟩ | ⟨_, rfl⟩ | ⟨e3, h⟩
      · unfold stP
        by_cases e3 : 0 < wN T 3
        · rw [if_pos e3]
          rcases h with rfl | rfl
          · exact upC_lt hq
          · exact dnC_lt hq
        · rw [if_neg e3, if_pos e1]
          exact Or.inr ⟨q, hq, hb, h⟩
      · exact hin x hx hb
      · unfold stP
        rw [if_pos e3]; exact h
  · intro h
    unfold stP at h
    by_cases e3 : 0 < wN T 3
    · rw [if_pos e3] at h
      exact Or.inr (Or.inr ⟨own, ho, h1, Or.inr (Or.inr ⟨e3, h⟩)⟩)
    · rw [if_neg e3] at h
      by_cases e1 : 0 < wN T 1
      · rw [if_pos e1] at h
        rcases h with h | ⟨q, hq, hb, h⟩
        · exact Or.inl h
        · exact Or.inr (Or.inr ⟨q, hq, hb, Or.inl ⟨e1, h⟩⟩)
      · rw [if_neg e1] at h; exact Or.inl h
theorem both_canBe {σ τ : St} {T : Td} {s : Sk} {k lie times : Nat} {u : Int32} (hT : TdOk T) (hC : TdC 0 σ T) (hM : TdM 0 τ T) (hSC : SkC σ 0 s) (hk : k < tS T) (hlie : skW s k = lie) (hl : lie < tC T) (ht : times ≤ 8) : ∃ r z1, x_X8_canBe (iI k) (iI times) σ = some (if bt1 r lie = true then 1 else 0) ∧ lp (fun v : (Int32 × Int32) => x_X10_hidden_L60 (iI times) u (iI k) τ v.1 v.2) FU ((1 <<< (iI (tOwn T k : Nat) &&& 31)), 0) = some (r, z1) := by
  have hC8 := hT.1
  have hS24 := hT.2.1
  have ho := tOwn_lt hT hk
  have key := lp2_inv (f := fun v : (Int32 × Int32) => x_X8_canBe_L15 (iI k) (iI times) σ v.1 v.2) (g := fun v : (Int32 × Int32) => x_X10_hidden_L60 (iI times) u (iI k) τ v.1 v.2)
    (fun i v x => ∃ r, v = (r, iI ((i : Nat) : Int)) ∧ x = v ∧ bt1 r (tOwn T k) = true ∧ ∀ x, x < 32 → bt1 r x = true → x < tC T) (fun v x => v.1 = x.1) times FU FU (by unfold FU; omega) (by unfold FU; omega) (fun i v x hi hg => ?_) (fun v x hg => ?_) ((1 <<< (iI (tOwn T k : Nat) &&& 31)), 0) ((1 <<< (iI (tOwn T k : Nat) &&& 31)), 0) ⟨_, rfl, rfl, by rw [bt_shl (by omega) (by omega)]; simp, fun x hx h => by
      rw [bt_shl (by omega) hx, decide_eq_true_eq] at h
      omega⟩
  · obtain ⟨⟨v1, v2⟩, ⟨x1, x2⟩, k1, k2, k3⟩ := key
    have k3 : v1 = x1 := k3
    subst k3
    refine ⟨v1, x2, ?_, k2⟩
    unfold x_X8_canBe
    rw [c_own (by omega) hC hT hk, bd_some, k1, bd2_some, f_at, bd_some, atF_in (show k < lenN 15 from (show k < 24 by omega)) (by decide), show gA σ 15 k = _ from hSC.1 k (by omega), hlie]
    show bd (x_X9_hasBit v1 (iI (lie : Int))) _ = _
    rw [c_hasBit (by omega), bd_some]
    by_cases e : bt1 v1 lie = true
    · rw [if_pos e]; rfl
    · rw [if_neg e]; rfl
  · obtain ⟨r, rfl, rfl, h1, h2⟩ := hg
    obtain ⟨r2, b, a1, a2, a3, a4, a5⟩ := both_reach hT hC hM ho h1 h2
    dsimp only
    unfold x_X8_canBe_L15 x_X10_hidden_L60
    simp (disch := omega) only [iI_leD]
    rw [if_neg (by omega), if_neg (by omega), a1, bd_some, m_own hM hT hk, bd_some, a2, bd_some, a3, qa1]
    exact ⟨_, _, rfl, rfl, r2, rfl, rfl, a4, a5⟩
  · obtain ⟨r, rfl, rfl, h1, h2⟩ := hg
    dsimp only
    unfold x_X8_canBe_L15 x_X10_hidden_L60
    simp (disch := omega) only [iI_leD]
    rw [if_pos (by omega), if_pos (by omega)]
    exact ⟨_, _, rfl, rfl, rfl⟩
theorem op_hidden {σ τ : St} (h : Inv σ τ) (p1 : Int32) : StT [(3, 1)] (x_X9_hidden p1 σ) (x_X10_hidden p1 τ) := by
  obtain ⟨T, s, n, ims, h⟩ := h
  obtain ⟨z, hz, rfl⟩ := ex_iI p1
  obtain ⟨τ1, e1, h0, h1⟩ := h.st
  have hi : Inv σ τ1 := ⟨T, s, n, ims, h1⟩
  have hh := h1
  obtain ⟨hT, hs, hC, hM, hSC, hSM, hB, hI, hb⟩ := hh
  have hC8 := hT.1
  have hS24 := hT.2.1
  have hL6 := hT.2.2.1
  have d0 : ∀ a, x_X9_hidden_b16 a 0 σ = some (.inr (3, refC σ 2)) := fun a => by unfold x_X9_hidden_b16; rw [c_need0, bt_inr]
  have ex : x_X10_hidden (iI z) τ = x_X10_hidden (iI z) τ := rfl
  have ec : x_X9_hidden (iI z) σ = x_X9_hidden (iI z) σ := rfl
  conv at ex => rhs; unfold x_X10_hidden
  conv at ec => rhs; unfold x_X9_hidden x_X9_hidden_b15
  rw [bd_some, e1, m_wn 0 8 0 8 rfl rfl hz ⟨by omega, by omega⟩ ⟨by omega, by omega⟩, bd_some] at ex
  obtain ⟨z1, z2⟩ := hz
  simp (disch := omega) only [ql0, qg8, d0] at ec
  by_cases e : 0 ≤ z ∧ z ≤ 8
  · obtain ⟨t, rfl⟩ := Int.eq_ofNat_of_zero_le e.1
    have key := lp2_inv (f := fun v : (Int32 × Int32) => x_X9_hidden_L23 (iI t) σ v.1 v.2) (g := fun v : (Int32 × Int32) => x_X10_hidden_L27 (iI t) τ1 v.1 v.2)
      (fun i v x => v.2 = iI ((i : Nat) : Int) ∧ x = v) (fun v x => x.1 = v.1) (tS T) FU FU (by unfold FU; omega) (by unfold FU; omega) (fun i v x hi hg => ?_) (fun v x hg => ?_) (0, 0) (0, 0) ⟨rfl, rfl⟩
    · obtain ⟨⟨v1, v2⟩, ⟨x1, x2⟩, k1, k2, k3⟩ := key
      have k3 : x1 = v1 := k3
      subst k3
      rw [if_pos e, m_may1 h0 (by decide), bd2_some, if_neg (by decide), k2, bd2_some] at ex
      rw [if_neg (by omega), if_neg (by omega)] at ec
      unfold x_X9_hidden_b16 at ec
      rw [c_need1 (by decide), bt_inl, k1, bd2_some] at ec
      exact StT.inl ec ex h0 hi
    · obtain ⟨v1, v2⟩ := v
      obtain ⟨h2, rfl⟩ := hg
      have h2 : v2 = iI ((i : Nat) : Int) := h2
      subst h2
      have hwb := hs.wb hC8 (k := i) (by omega)
      dsimp only
      unfold x_X9_hidden_L23 x_X10_hidden_L27
      rw [show gI σ 1 = iI (tS T) from hC.2.1, show gI τ1 9 = iI (tS T) from hM.2.1]
      simp (disch := omega) only [iI_leD]
      rw [if_neg (by omega), if_neg (by omega), c_lies (by omega) hSC hs hC8 (by omega), bd_some, m_lies hSM hS24 hi, bd_some, m_own hM hT hi, bd_some, qa1]
      simp (disch := omega) only [qeM]
      by_cases el : skW s i = -1
      · rw [if_pos el, if_pos rfl, if_pos el]
        exact ⟨_, _, rfl, rfl, rfl, rfl⟩
      · obtain ⟨lie, hlie⟩ := Int.eq_ofNat_of_zero_le (a := skW s i) (by omega)
        have hll := hs.1 i hi
        obtain ⟨r, y1, b1, b2⟩ := both_canBe (k := i) (lie := lie) (times := t) (u := v1) hT hC hM hSC hi hlie (by omega) (by omega)
        rw [if_neg el, if_neg (show ¬ (1 : Int32) = 0 by decide), if_neg el, b1, bd_some, b2, bd2_some, bd_some, hlie]
        by_cases eb : bt1 r lie = true
        · rw [if_pos eb, if_neg (show ¬ (1 : Int32) = 0 by decide), if_neg (fun q => by rw [(bitZ (by omega)).mp q] at eb; exact absurd eb (by decide))]
          exact ⟨_, _, rfl, rfl, rfl, rfl⟩
        · rw [if_neg eb, if_pos rfl, if_pos ((bitZ (by omega)).mpr (by simpa using eb))]
          exact ⟨_, _, rfl, rfl, rfl, rfl⟩
    · obtain ⟨v1, v2⟩ := v
      obtain ⟨h2, rfl⟩ := hg
      have h2 : v2 = iI ((tS T : Nat) : Int) := h2
      subst h2
      dsimp only
      unfold x_X9_hidden_L23 x_X10_hidden_L27
      rw [show gI σ 1 = iI (tS T) from hC.2.1, show gI τ1 9 = iI (tS T) from hM.2.1]
      rw [if_pos (Int32.le_refl _), if_pos (Int32.le_refl _)]
      exact ⟨_, _, rfl, rfl, rfl⟩
  · rw [if_neg e, m_may0' h0, bd2_some, if_pos rfl] at ex
    refine StT.ref (c := 3) h1 (ec.trans ?_) ex List.mem_cons_self
    by_cases c0 : z < 0
    · rw [if_pos c0]
    · rw [if_neg c0, if_pos (by omega)]
