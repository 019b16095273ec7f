/-! the class's order; order and mean -/
theorem c_isAhead {σ : St} {T : Td} {s : Sk} {g : Nat → Nat} {f a b : Nat} (hT : TdOk T) (hs : SkOk (tC T) (tS T) s) (hSC : SkC σ 0 s) (hsh : Sh 8 σ 0 g) (hg : ∀ x, g x ≤ 4608 ^ 4) (hf : 1 ≤ f) (hf8 : f ≤ 8) (ha : a < 8) (hb : b < 8) : x_X8_isAhead (iI a) (iI b) (iI f) σ = some (if g a * secN s f b ≤ g b * secN s f a then 0 else 1) := by
  unfold x_X8_isAhead
  rw [c_share hsh ha, bd_some, c_seconds hSC hs hT.1 hb hf hf8, bd_some, c_share hsh hb, bd_some, c_seconds hSC hs hT.1 ha hf hf8, bd_some]
  by_cases e : g a * secN s f b ≤ g b * secN s f a
  · rw [if_pos ((ahead_iff hf hg).mpr e), if_pos e]
  · rw [if_neg (fun q => e ((ahead_iff hf hg).mp q)), if_neg e]
theorem c_best {σ : St} {T : Td} {s : Sk} {g S : Nat → Nat} {f i : Nat} {t : Int32} (hT : TdOk T) (hC : TdC 0 σ T) (hs : SkOk (tC T) (tS T) s) (hSC : SkC σ 0 s) (hsh : Sh 8 σ 0 g) (hg : ∀ x, g x ≤ 4608 ^ 4) (hf : 1 ≤ f) (hf8 : f ≤ 8) (hS : SortedN g s f (tC T) S) (hi : i < tC T) (ht : ∀ c, c < tC T → (bt1 t c = true ↔ ∃ j, j < i ∧ S j = c)) : x_X8_bestBut t (iI f) σ = some (iI (S i : Nat)) := by
  have hC8 := hT.1
  obtain ⟨hB, hP⟩ := hS
  have key := lp_inv (f := fun v : (Int32 × Int32) => x_X8_bestBut_L5 t (iI f) σ v.1 v.2) (fun q v => v.2 = iI ((q : Nat) : Int) ∧ ((v.1 = -1 ∧ ∀ c, c < q → bt1 t c = true) ∨ ∃ b, b < q ∧ v.1 = iI (b : Nat) ∧ ¬ bt1 t b = true ∧ ∀ c, c < q → ¬ bt1 t c = true → c ≠ b → preN g s f b c))
    (fun v => (v.1 = -1 ∧ ∀ c, c < tC T → bt1 t c = true) ∨ ∃ b, b < tC T ∧ v.1 = iI (b : Nat) ∧ ¬ bt1 t b = true ∧ ∀ c, c < tC T → ¬ bt1 t c = true → c ≠ b → preN g s f b c) (tC T) FU (by unfold FU; omega) (fun q v hq hv => ?_) (fun v hv => ?_) (-1, 0) ⟨rfl, Or.inl ⟨rfl, fun c hc => absurd hc (by omega)⟩⟩
  · obtain ⟨⟨v1, v2⟩, k1, k2⟩ := key
    have hSi := hB.1 i hi
    have hun : ¬ bt1 t (S i) = true := fun e => by
      obtain ⟨j, hj, e2⟩ := (ht _ hSi).mp e
      have := hB.2.1 j i (by omega) hi e2
      omega
    unfold x_X8_bestBut
    rw [k1]
    rcases k2 with ⟨-, k3⟩ | ⟨b, hb, rfl, k4, k5⟩
    · exact absurd (k3 _ hSi) hun
    · have : b = S i := by
        by_cases e : S i = b
        · exact e.symm
        · exfalso
          have h1 := k5 _ hSi hun e
          obtain ⟨j, hj, e2⟩ := hB.2.2 b hb
          have hji : i < j := by
            by_cases q1 : j < i
            · exact absurd ((ht b hb).mpr ⟨j, q1, e2⟩) k4
            · by_cases q2 : j = i
              · rw [q2] at e2; exact absurd e2 e
              · omega
          have h2 := hP i j hji hj
          rw [e2] at h2
          exact preN_asymm h1 h2
      rw [this]; rfl
  · obtain ⟨v1, v2⟩ := v
    obtain ⟨h2, h3⟩ := hv
    have h2 : v2 = iI ((q : Nat) : Int) := h2
    subst h2
    dsimp only at h3
    dsimp only
    unfold x_X8_bestBut_L5
    rw [show gI σ 0 = iI (tC T) from hC.1]
    simp (disch := omega) only [iI_leD]
    rw [if_neg (by omega), c_hasBit (by omega), bd_some, qa1]
    by_cases e : bt1 t q = true
    · rw [if_pos e, if_neg (show ¬ (1 : Int32) = 0 by decide)]
      refine ⟨_, rfl, rfl, ?_⟩
      rcases h3 with ⟨k1, k2⟩ | ⟨b, hb, k1, k2, k3⟩
      · refine Or.inl ⟨k1, fun c hc => ?_⟩
        by_cases z : c = q
        · rw [z]; exact e
        · exact k2 c (by omega)
      · refine Or.inr ⟨b, by omega, k1, k2, fun c hc hn hne => ?_⟩
        by_cases z : c = q
        · rw [z] at hn; exact absurd e hn
        · exact k3 c (by omega) hn hne
    · rw [if_neg e, if_pos rfl]
      rcases h3 with ⟨k1, k2⟩ | ⟨b, hb, k1, k2, k3⟩
      · rw [k1, if_pos rfl]
        refine ⟨_, rfl, rfl, Or.inr ⟨q, by omega, rfl, e, fun c hc hn hne => ?_⟩⟩
        exact absurd (k2 c (by omega)) hn
      · rw [k1]
        simp (disch := omega) only [qeM]
        rw [if_neg (by omega), c_isAhead hT hs hSC hsh hg hf hf8 (by omega) (by omega), bd_some]
        by_cases e2 : g q * secN s f b ≤ g b * secN s f q
        · rw [if_pos e2, if_pos rfl]
          refine ⟨_, rfl, rfl, Or.inr ⟨b, by omega, rfl, k2, fun c hc hn hne => ?_⟩⟩
          by_cases z : c = q
          · rw [z]; unfold preN; omega
          · exact k3 c (by omega) hn hne
        · rw [if_neg e2, if_neg (show ¬ (1 : Int32) = 0 by decide)]
          have hqb : preN g s f q b := Or.inl (by omega)
          refine ⟨_, rfl, rfl, Or.inr ⟨q, by omega, rfl, e, fun c hc hn hne => ?_⟩⟩
          by_cases z : c = b
          · rw [z]; exact hqb
          · exact preN_trans hf hqb (k3 c (by omega) hn z)
  · obtain ⟨v1, v2⟩ := v
    obtain ⟨h2, h3⟩ := hv
    have h2 : v2 = iI ((tC T : Nat) : Int) := h2
    subst h2
    dsimp only
    unfold x_X8_bestBut_L5
    rw [show gI σ 0 = iI (tC T) from hC.1]
    simp (disch := omega) only [iI_leD]
    rw [if_pos (by omega)]
    exact ⟨_, rfl, h3⟩
def RF (σ σ2 : St) : Prop := (∀ k, gI σ2 k = gI σ k) ∧ (∀ j, j ≠ 43 → gA σ2 j = gA σ j) ∧ gL σ2 = gL σ ∧ gJ σ2 = gJ σ
theorem RF.rfl {τ : St} : RF τ τ := ⟨fun _ => Eq.refl _, fun _ _ => Eq.refl _, Eq.refl _, Eq.refl _⟩
theorem RF.trans {a b c : St} (h : RF a b) (k : RF b c) : RF a c := ⟨fun i => (k.1 i).trans (h.1 i), fun i hi => (k.2.1 i hi).trans (h.2.1 i hi), k.2.2.1.trans h.2.2.1, k.2.2.2.trans h.2.2.2⟩
theorem RF.sA {τ : St} {f : Nat → Int32} : RF τ (sA τ 43 f) := ⟨fun _ => Eq.refl _, fun _ hj => gA_sAn _ hj _, Eq.refl _, Eq.refl _⟩
theorem c_order {σ : St} {T : Td} {s : Sk} {g S : Nat → Nat} {f : Nat} (hT : TdOk T) (hC : TdC 0 σ T) (hs : SkOk (tC T) (tS T) s) (hSC : SkC σ 0 s) (hsh : Sh 8 σ 0 g) (hg : ∀ x, g x ≤ 4608 ^ 4) (hf : 1 ≤ f) (hf8 : f ≤ 8) (hS : SortedN g s f (tC T) S) : ∃ z1 z2 σ2, lp (fun v : (Int32 × Int32 × St) => x_X8_rank_L12 (iI f) v.1 v.2.1 v.2.2) FU (0, 0, σ) = some (z1, z2, σ2) ∧ RF σ σ2 ∧ ∀ j, j < tC T → gA σ2 43 j = iI (S j) := by
  have hC8 := hT.1
  have hB := hS.1
  have key := lp_inv (f := fun v : (Int32 × Int32 × St) => x_X8_rank_L12 (iI f) v.1 v.2.1 v.2.2) (fun i v => ∃ t σ2, v = (t, iI ((i : Nat) : Int), σ2) ∧ RF σ σ2 ∧ (∀ j, j < i → gA σ2 43 j = iI (S j)) ∧ ∀ c, c < tC T → (bt1 t c = true ↔ ∃ j, j < i ∧ S j = c))
    (fun v => RF σ v.2.2 ∧ ∀ j, j < tC T → gA v.2.2 43 j = iI (S j)) (tC T) FU (by unfold FU; omega) (fun i v hi hv => ?_) (fun v hv => ?_) (0, iI ((0 : Nat) : Int), σ) ⟨0, σ, rfl, RF.rfl, fun j hj => absurd hj (by omega), fun c hc => ⟨fun e => by rw [bt_zero] at e; exact absurd e (by decide), fun ⟨j, hj, _⟩ => absurd hj (by omega)⟩⟩
  · obtain ⟨⟨z1, z2, σ2⟩, k1, k2, k3⟩ := key
    exact ⟨z1, z2, σ2, k1, k2, k3⟩
  · obtain ⟨t, σ2, rfl, k2, k3, k4⟩ := hv
    have hC2 : TdC 0 σ2 T := hC.eq (fun k _ _ => k2.1 k) (fun j _ _ => k2.2.1 j (by omega))
    have hSi := hB.1 i hi
    have hb := c_best hT hC2 hs (hSC.eq (fun j _ _ => k2.2.1 j (by omega))) (fun x hx => by rw [k2.2.2.2]; exact hsh x hx) hg hf hf8 hS hi k4
    dsimp only
    unfold x_X8_rank_L12
    rw [show gI σ2 0 = iI (tC T) from hC2.1]
    simp (disch := omega) only [iI_leD]
    rw [if_neg (by omega), hb, bd_some, f_put, bd_some, putF_in (show i < lenN 43 from (show i < 8 by omega)) (by decide), qa1]
    refine ⟨_, rfl, _, _, rfl, k2.trans RF.sA, fun j hj => ?_, fun c hc => ?_⟩
    · rw [gA_sA]; unfold upd
      by_cases e : j = i
      · rw [if_pos e, e]
      · rw [if_neg e]; exact k3 j (by omega)
    · rw [bt_or, bt_shl (by omega) (by omega), Bool.or_eq_true, k4 c hc, decide_eq_true_eq]
      constructor
      · rintro (⟨j, hj, e⟩ | e)
        · exact ⟨j, by omega, e⟩
        · exact ⟨i, by omega, e⟩
      · rintro ⟨j, hj, e⟩
        by_cases q : j = i
        · right; rw [← q]; exact e
        · left; exact ⟨j, by omega, e⟩
  · obtain ⟨t, σ2, rfl, k2, k3, k4⟩ := hv
    dsimp only
    unfold x_X8_rank_L12
    rw [k2.1 0, show gI σ 0 = iI (tC T) from hC.1]
    simp (disch := omega) only [iI_leD]
    rw [if_pos (by omega)]
    exact ⟨_, rfl, k2, k3⟩
/-- both put the crates in the same order -/
theorem both_rank {T : Td} {s : Sk} {n : Nat} {ims : List Sk} {σ τ : St} (h : InvX T s n ims σ τ) {k lie times f : Nat} (hk : k < tS T) (hlie : skW s k = lie) (hl : lie < tC T) (ht : times ≤ 4) (hf : 1 ≤ f) (hf8 : f ≤ 8) : ∃ σ2 τ2 S, x_X8_rank (iI k) (iI times) (iI f) σ = some σ2 ∧ x_X10_findOrder (iI k) (iI times) (iI f) τ = some τ2 ∧ (CEq σ σ2 ∧ MEq τ τ2) ∧ gI τ2 0 = gI τ 0 ∧ Bij (tC T) S ∧ (∀ j, j < tC T → gA σ2 43 j = iI (S j)) ∧ (∀ j, j < tC T → gA τ2 31 j = iI (S j)) ∧ Sh 8 σ2 0 (shN T (tOwn T k) lie times) ∧ Sh (tC T) τ2 0 (shN T (tOwn T k) lie times) ∧ gL σ2 0 = jJ (((2 * tC T * wSum T) ^ times : Nat) : Int) ∧ gL τ2 0 = jJ (((2 * tC T * wSum T) ^ times : Nat) : Int) := by
  have hh := h
  obtain ⟨hT, hs, hC, hM, hSC, hSM, hB, hI, hb⟩ := hh
  obtain ⟨σ1, a1, a2, a3, a4⟩ := c_putBack hC hT hSC hk hlie hl ht
  obtain ⟨τ1, b1, b2, b3, b4⟩ := m_findOdds hM hT hSM hk hlie hl ht
  have hsm := shN_small hT (tOwn T k) lie ht
  have hSM1 : SkM τ1 (tS T) s := hSM.eq (fun j _ => b2.2 j)
  have hSC1 : SkC σ1 0 s := hSC.eq (fun j _ _ => a2.2 j)
  obtain ⟨z, τ2, S, c1, c2, c3, c4⟩ := m_order hT (hM.jf b2) hSM1 b3 hsm hf hf8
  obtain ⟨z1, z2, σ2, d1, d2, d3⟩ := c_order hT (hC.jf a2) hs hSC1 a3 hsm hf hf8 c3
  refine ⟨σ2, τ2, S, ?_, ?_, ⟨a2.c.trans ⟨fun k _ => d2.1 k, fun j hj => d2.2.1 j (by omega), d2.2.1 35 (by omega)⟩, b2.m.trans ⟨fun k _ => c2.1 k, fun j hj => c2.2.1 j (by omega)⟩⟩, (c2.1 0).trans (b2.1 0), c3.1, d3, c4, fun x hx => by rw [d2.2.2.2]; exact a3 x hx, fun x hx => by rw [c2.2.2.2]; exact b3 x hx, by rw [d2.2.2.1]; exact a4, by rw [c2.2.2.1]; exact b4⟩
  · unfold x_X8_rank
    rw [a1, bd_some, d1]; rfl
  · unfold x_X10_findOrder
    rw [b1, bd_some, c1]; rfl
def tmN (s : Sk) (f : Nat) (S : Nat → Nat) : Nat → Nat
  | 0 => 0
  | i + 1 => tmN s f S i + secN s f (S i)
def smN (g : Nat → Nat) (s : Sk) (f : Nat) (S : Nat → Nat) : Nat → Nat
  | 0 => 0
  | i + 1 => smN g s f S i + g (S i) * (tmN s f S i + secN s f (S i))
theorem tmN_le {s : Sk} {f : Nat} (hf : 1 ≤ f) (S : Nat → Nat) (i : Nat) : tmN s f S i ≤ i * 25 := by
  induction i with
  | zero => exact Nat.le_refl _
  | succ i ih => have := (secN_ok s hf (S i)).2; unfold tmN; omega
theorem smN_le {g : Nat → Nat} {s : Sk} {f : Nat} (hf : 1 ≤ f) (hg : ∀ x, g x ≤ 4608 ^ 4) (S : Nat → Nat) : ∀ i, i ≤ 8 → smN g s f S i ≤ i * (4608 ^ 4 * 225) := by
  intro i
  induction i with
  | zero => intro _; exact Nat.zero_le _
  | succ i ih =>
    intro hi
    have h1 := (secN_ok s hf (S i)).2
    have h2 := tmN_le (s := s) hf S i
    have h3 : g (S i) * (tmN s f S i + secN s f (S i)) ≤ 4608 ^ 4 * 225 := Nat.mul_le_mul (hg _) (by omega)
    have h4 := ih (by omega)
    rw [Nat.succ_mul]
    show smN g s f S i + _ ≤ _
    omega
theorem c_shared {σ : St} {T : Td} {s : Sk} {g S : Nat → Nat} {f : Nat} (hT : TdOk T) (hC : TdC 0 σ T) (hs : SkOk (tC T) (tS T) s) (hSC : SkC σ 0 s) (hsh : Sh 8 σ 0 g) (hf : 1 ≤ f) (hf8 : f ≤ 8) (hB : Bij (tC T) S) (hA : ∀ j, j < tC T → gA σ 43 j = iI (S j)) : x_X8_sharedSeconds (iI f) σ = some (jJ (smN g s f S (tC T) : Nat)) := by
  have hC8 := hT.1
  have key := lp_run (f := fun v : (Int64 × Int64 × Int32) => x_X8_sharedSeconds_L8 (iI f) σ v.1 v.2.1 v.2.2) (fun i => (jJ (smN g s f S i : Nat), jJ (tmN s f S i : Nat), iI ((i : Nat) : Int))) (w := (jJ (smN g s f S (tC T) : Nat), jJ (tmN s f S (tC T) : Nat), iI ((tC T : Nat) : Int))) (tC T) FU (by unfold FU; omega) (fun i hi => ?_) ?_
  · unfold x_X8_sharedSeconds
    show bd3 (lp _ FU (jJ (smN g s f S 0 : Nat), jJ (tmN s f S 0 : Nat), iI ((0 : Nat) : Int))) _ = _
    rw [key]; rfl
  · have hSi := hB.1 i hi
    have h1 := (secN_ok s hf (S i)).2
    unfold x_X8_sharedSeconds_L8
    rw [show gI σ 0 = iI (tC T) from hC.1]
    simp (disch := omega) only [iI_leD]
    rw [if_neg (by omega), f_at, bd_some, atF_in (show i < lenN 43 from (show i < 8 by omega)) (by decide), hA i hi, c_seconds hSC hs hC8 (by omega) hf hf8, bd_some, c_share hsh (by omega), bd_some, jJ_iI (by omega) (by omega), jJ_addN, jJ_mulN, jJ_addN, qa1]
    rfl
  · unfold x_X8_sharedSeconds_L8
    rw [show gI σ 0 = iI (tC T) from hC.1]
    simp (disch := omega) only [iI_leD]
    rw [if_pos (by omega)]
theorem m_shared {τ : St} {T : Td} {s : Sk} {g S : Nat → Nat} {f : Nat} {w : Int32} (hT : TdOk T) (hM : TdM 0 τ T) (hSM : SkM τ (tS T) s) (hsh : Sh (tC T) τ 0 g) (hf : 1 ≤ f) (hf8 : f ≤ 8) (hB : Bij (tC T) S) (hA : ∀ j, j < tC T → gA τ 31 j = iI (S j)) : ∃ a b, lp (fun v : (Int64 × Int32 × Int32) => x_X10_mean_L99 (iI f) w τ v.1 v.2.1 v.2.2) FU ((0 : Int64), 0, 0) = some (jJ (smN g s f S (tC T) : Nat), a, b) := by
  have hC8 := hT.1
  have key := lp_run (f := fun v : (Int64 × Int32 × Int32) => x_X10_mean_L99 (iI f) w τ v.1 v.2.1 v.2.2) (fun i => (jJ (smN g s f S i : Nat), iI (tmN s f S i : Nat), iI ((i : Nat) : Int))) (w := (jJ (smN g s f S (tC T) : Nat), iI (tmN s f S (tC T) : Nat), iI ((tC T : Nat) : Int))) (tC T) FU (by unfold FU; omega) (fun i hi => ?_) ?_
  · exact ⟨_, _, key⟩
  · have hSi := hB.1 i hi
    have h1 := (secN_ok s hf (S i)).2
    have h2 := tmN_le (s := s) hf S i
    unfold x_X10_mean_L99
    rw [show gI τ 8 = iI (tC T) from hM.1]
    simp (disch := omega) only [iI_leD]
    rw [if_neg (by omega), ldI_in (show i < lenM 31 from (show i < 8 by omega)) (by decide), hA i hi, bd_some, m_seconds hSM (by omega) hf hf8, bd_some, bd_some, ldJ_in (by omega) (by omega), hsh _ hSi, bd_some, iI_add, show (tmN s f S i : Int) + secN s f (S i) = ((tmN s f S i + secN s f (S i) : Nat) : Int) from by omega, jJ_iI (by omega) (by omega), jJ_mulN, jJ_addN, qa1]
    rfl
  · unfold x_X10_mean_L99
    rw [show gI τ 8 = iI (tC T) from hM.1]
    simp (disch := omega) only [iI_leD]
    rw [if_pos (by omega)]
