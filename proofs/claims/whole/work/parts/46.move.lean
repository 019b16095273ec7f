/-! a sleeve moves: the same in both -/
theorem RwM.congr {fr fm : Nat → Int32} {R R2 : Nat → List Nat} (h : RwM fr fm R) (e : ∀ x, x < 8 → R x = R2 x) : RwM fr fm R2 :=
  ⟨fun c hc => by rw [← e c hc]; exact h.1 c hc, fun c i k hc hq => h.2 c i k hc (by rw [e c hc]; exact hq)⟩
theorem rowL_take_other {nC nS : Nat} {s : Sk} (h : SkOk nC nS s) {k c x : Nat} (hk : skW s k = (c : Int)) (hx : x ≠ c) : (rowL s x).filter (fun a => decide (a ≠ k)) = rowL s x := by
  refine filter_ne_id (fun a ha e => ?_)
  have := ((rowL_mem h).mp ha).2
  rw [e, hk] at this
  omega
theorem rowL_take_len {nC nS : Nat} {s : Sk} (h : SkOk nC nS s) {k : Nat} (hk : k < 24) (x : Nat) : ((rowL s x).filter (fun a => decide (a ≠ k))).length < 24 := by
  have h1 : ((rowL s x).filter (fun a => decide (a ≠ k))).length ≤ ((lineL s).filter (fun a => decide (a ≠ k))).length := by
    unfold rowL
    rw [List.filter_filter, show (fun a => decide (a ≠ k) && decide (skW s a = (x : Int))) = (fun a => decide (skW s a = (x : Int)) && decide (a ≠ k)) from funext (fun a => Bool.and_comm _ _), ← List.filter_filter]
    exact List.length_filter_le _ _
  have h2 : ((lineL s).filter (fun a => decide (a ≠ k))).length < (lineL s).length := by
    rw [List.length_filter_lt_length_iff_exists]
    obtain ⟨p, hp, e⟩ := h.2.2.1.2.2 k hk
    exact ⟨k, List.mem_map.mpr ⟨p, List.mem_range.mpr hp, e⟩, by simp⟩
  rw [lineL_len] at h2
  omega
theorem m_take {τ : St} {nC nS : Nat} {s : Sk} (hm : SkM τ nS s) (hs : SkOk nC nS s) (hC : nC ≤ 8) (hS : nS ≤ 24) {k : Nat} (hk : k < nS) (hl : skW s k ≠ -1) : ∃ τ2, x_X10_goesOut (iI k) τ = some τ2 ∧ RwF τ τ2 ∧ SkM τ2 nS (takeSk s k) := by
  have hw := hs.1 k hk
  obtain ⟨c, hc⟩ := Int.eq_ofNat_of_zero_le (a := skW s k) (by omega)
  obtain ⟨τ2, h1, h2, h3, h4⟩ := m_goesOut (k := k) (c := c) hm.1 (fun x _ => rowL_len s x) (by omega) (by omega) (by rw [hm.2.1 k hk, hc]) (fun a ha => ((rowL_mem hs).mp ha).1)
  refine ⟨τ2, h1, h2, h4.congr (fun x hx => ?_), fun j hj => ?_, fun j hj => ?_, fun j hj => ?_⟩
  · rw [rowL_take]
    by_cases e : x = c
    · rw [if_pos e]
    · rw [if_neg e, rowL_take_other hs hc e]
  · rw [h3]
    show upd (gA τ 7) k (-1) j = iI (updZ (skW s) k (-1) j)
    unfold upd updZ
    split
    · rfl
    · exact hm.2.1 j hj
  · rw [h2.2.1 8 (by omega)]; exact hm.2.2.1 j hj
  · rw [h2.2.1 18 (by omega)]; exact hm.2.2.2 j hj
theorem m_move {τ : St} {nC nS : Nat} {s : Sk} (hm : SkM τ nS s) (hs : SkOk nC nS s) (hC : nC ≤ 8) (hS : nS ≤ 24) {k c p : Nat} (hk : k < nS) (hl : skW s k ≠ -1) (hp : p < 24) (hpk : skL s p = k) (hc : c < 8) : ∃ τ1 τ2, x_X10_goesOut (iI k) τ = some τ1 ∧ x_X10_comesTo (iI c) (iI k) τ1 = some τ2 ∧ RwF τ τ1 ∧ RwF τ τ2 ∧ SkM τ2 nS (putSk s p k c) := by
  obtain ⟨τ1, h1, h2, h3⟩ := m_take hm hs hC hS hk hl
  obtain ⟨τ2, k1, k2, k3, k4⟩ := m_comesTo (k := k) (c := c) h3.1 (fun x _ => rowL_len _ x) (by omega) hc (by rw [rowL_take]; exact rowL_take_len hs (by omega) c)
  refine ⟨τ1, τ2, h1, k1, h2, h2.trans k2, k4.congr (fun x hx => ?_), fun j hj => ?_, fun j hj => ?_, fun j hj => ?_⟩
  · subst hpk
    rw [rowL_put hs hp, rowL_take]
    by_cases e : x = c
    · rw [if_pos e, if_pos (by omega)]
    · rw [if_neg e, if_neg (by omega), List.append_nil]
  · rw [k3]
    show upd (gA τ1 7) k (iI c) j = iI (updZ (skW s) k c j)
    unfold upd updZ
    split
    · rfl
    · next e =>
      have := h3.2.1 j hj
      rw [this]
      show iI (updZ (skW s) k (-1) j) = _
      unfold updZ
      rw [if_neg e]
  · rw [k2.2.1 8 (by omega)]; exact h3.2.2.1 j hj
  · rw [k2.2.1 18 (by omega)]; exact h3.2.2.2 j hj
/-- the class's state after a change of its stock t alone -/
def SkF (t : Nat) (σ σ2 : St) : Prop := (∀ k, gI σ2 k = gI σ k) ∧ (∀ j, ¬ (15 + 4 * t ≤ j ∧ j < 19 + 4 * t) → gA σ2 j = gA σ j) ∧ gL σ2 = gL σ ∧ gJ σ2 = gJ σ
theorem SkF.rfl {t : Nat} {σ : St} : SkF t σ σ := ⟨fun _ => Eq.refl _, fun _ _ => Eq.refl _, Eq.refl _, Eq.refl _⟩
theorem SkF.trans {t : Nat} {a b c : St} (h : SkF t a b) (k : SkF t b c) : SkF t a c := ⟨fun i => (k.1 i).trans (h.1 i), fun i hi => (k.2.1 i hi).trans (h.2.1 i hi), k.2.2.1.trans h.2.2.1, k.2.2.2.trans h.2.2.2⟩
theorem SkF.sA {t : Nat} {τ : St} {j : Nat} {f : Nat → Int32} (h : 15 + 4 * t ≤ j ∧ j < 19 + 4 * t) : SkF t τ (sA τ j f) := ⟨fun _ => Eq.refl _, fun i hi => gA_sAn τ (by omega) f, Eq.refl _, Eq.refl _⟩
/-- the relation after both have changed their stock -/
theorem InvX.stock {T : Td} {s s2 : Sk} {n : Nat} {ims : List Sk} {σ τ σ2 τ2 : St} (h : InvX T s n ims σ τ) (hs : SkOk (tC T) (tS T) s2) (hc : SkC σ2 0 s2) (hm : SkM τ2 (tS T) s2)
    (c1 : ∀ k, k ≤ 10 → gI σ2 k = gI σ k) (c2 : ∀ j, j ≤ 14 ∨ (19 ≤ j ∧ j ≤ 30) ∨ j = 35 → gA σ2 j = gA σ j)
    (m1 : ∀ k, k = 1 ∨ (7 ≤ k ∧ k ≤ 11) ∨ k = 19 ∨ k = 23 → gI τ2 k = gI τ k) (m2 : ∀ j, j ≤ 6 ∨ j = 35 → gA τ2 j = gA τ j) : InvX T s2 n ims σ2 τ2 := by
  obtain ⟨h1, h2, h3, h4, h5, h6, h7, h8, h9⟩ := h
  refine ⟨h1, hs, h3.eq (fun k _ hk => c1 k (by omega)) (fun j _ hj => c2 j (by omega)), h4.eq (fun k _ hk => m1 k (by omega)) (fun j _ hj => m2 j (by omega)), hc, hm, ?_, ?_, (m1 19 (by omega)).trans h9⟩
  · unfold ShB at h7 ⊢
    rw [c1 8 (by omega), m1 1 (by omega), c2 0 (by omega), m2 1 (by omega), c1 9 (by omega), m1 7 (by omega), c2 35 (by omega), m2 0 (by omega)]
    exact h7
  · unfold ImB at h8 ⊢
    rw [c1 10 (by omega), m1 23 (by omega)]
    refine ⟨h8.1, h8.2.1, h8.2.2.1, fun i s hi => ?_⟩
    obtain ⟨k1, k2, k3⟩ := h8.2.2.2 i s hi
    have hl : i < ims.length := (List.getElem?_eq_some_iff.mp hi).1
    exact ⟨k1, k2.eq (fun j _ hj => c2 j (by omega)), k3.eq (m2 35 (by omega))⟩
theorem ex_iI (p : Int32) : ∃ z, ok32 z ∧ p = iI z := ⟨p.toInt, ok_iI p, (iI_toInt p).symm⟩
/-- the checks at the head of a call: the class's and the reference's -/
theorem c_needCrate {T : Td} {σ : St} (h : TdC 0 σ T) (hT : TdOk T) {z : Int} (hz : ok32 z) : x_X9_needCrate (iI z) σ = some (if 0 ≤ z ∧ z < tC T then .inl σ else .inr (1, refC σ 0)) := by
  have := hT.1
  unfold x_X9_needCrate
  rw [c_hasCrate hz h.1 (by omega), bd_some]
  by_cases e : 0 ≤ z ∧ z < tC T
  · rw [if_pos e, if_pos e, if_neg (by decide)]
  · rw [if_neg e, if_neg e, if_pos rfl]
    show bd (x_X2_add 35 (iI ((0 : Nat) : Int)) 1 σ) _ = _
    rw [c_add35 (by omega)]; rfl
theorem c_needSleeve {T : Td} {σ : St} (h : TdC 0 σ T) (hT : TdOk T) {z : Int} (hz : ok32 z) : x_X9_needSleeve (iI z) σ = some (if 0 ≤ z ∧ z < tS T then .inl σ else .inr (2, refC σ 1)) := by
  obtain ⟨z1, z2⟩ := hz
  have := hT.2.1
  have e1 : x_X9_needSleeve_b15 σ = some (.inr (2, refC σ 1)) := by
    unfold x_X9_needSleeve_b15
    show bd (x_X2_add 35 (iI ((1 : Nat) : Int)) 1 σ) _ = _
    rw [c_add35 (by omega)]; rfl
  unfold x_X9_needSleeve
  rw [show gI σ 1 = iI (tS T) from h.2.1, e1, i0]
  simp (disch := omega) only [iI_ltD]
  by_cases c1 : z < 0
  · rw [if_pos c1, if_neg (by omega)]
  · rw [if_neg c1]
    by_cases c2 : z < tS T
    · rw [if_pos c2, if_pos (by omega)]
    · rw [if_neg c2, if_neg (by omega)]
theorem c_needLooker {T : Td} {σ : St} (h : TdC 0 σ T) (hT : TdOk T) {z : Int} (hz : ok32 z) : x_X9_needLooker (iI z) σ = some (if 0 ≤ z ∧ z < tL T then .inl σ else .inr (2, refC σ 1)) := by
  obtain ⟨z1, z2⟩ := hz
  have := hT.2.2.1
  have e1 : x_X9_needLooker_b15 σ = some (.inr (2, refC σ 1)) := by
    unfold x_X9_needLooker_b15
    show bd (x_X2_add 35 (iI ((1 : Nat) : Int)) 1 σ) _ = _
    rw [c_add35 (by omega)]; rfl
  unfold x_X9_needLooker
  rw [show gI σ 2 = iI (tL T) from h.2.2.1, e1, i0]
  simp (disch := omega) only [iI_ltD]
  by_cases c1 : z < 0
  · rw [if_pos c1, if_neg (by omega)]
  · rw [if_neg c1]
    by_cases c2 : z < tL T
    · rw [if_pos c2, if_pos (by omega)]
    · rw [if_neg c2, if_neg (by omega)]
theorem c_needLying {T : Td} {σ : St} {s : Sk} (h : SkC σ 0 s) (hs : SkOk (tC T) (tS T) s) (hT : TdOk T) {k : Nat} (hk : k < tS T) : x_X9_needLying (iI k) σ = some (if skW s k = -1 then .inr (4, refC σ 3) else .inl σ) := by
  have := hT.2.1
  unfold x_X9_needLying
  rw [c_lies (by omega) h hs hT.1 (by omega), bd_some]
  by_cases e : skW s k = -1
  · rw [if_pos e, if_pos e, if_pos rfl]
    show bd (x_X2_add 35 (iI ((3 : Nat) : Int)) 1 σ) _ = _
    rw [c_add35 (by omega)]; rfl
  · rw [if_neg e, if_neg e, if_neg (by decide)]
theorem m_isCrate {T : Td} {τ : St} (h : TdM 0 τ T) (hT : TdOk T) (h0 : gI τ 0 = 0) {z : Int} (hz : ok32 z) {c : Int32} (hc : c ≠ 0) : x_X10_isCrate (iI z) c τ = some (if 0 ≤ z ∧ z < tC T then (1, τ) else (0, refM τ c 0)) := by
  have := hT.1
  unfold x_X10_isCrate
  rw [show gI τ 8 = iI (tC T) from h.1, i1, iI_sub, i0, m_within hz ⟨by omega, by omega⟩ ⟨by omega, by omega⟩, bd_some]
  by_cases e : 0 ≤ z ∧ z < tC T
  · rw [if_pos (show 0 ≤ z ∧ z ≤ (tC T : Int) - 1 by omega), if_pos e, m_may1 h0 (by decide), bd2_some]; rfl
  · rw [if_neg (show ¬ (0 ≤ z ∧ z ≤ (tC T : Int) - 1) by omega), if_neg e]
    show bd2 (x_X10_may 0 c (iI ((0 : Nat) : Int)) τ) _ = _
    rw [m_may0 h0 hc (by omega), bd2_some]; rfl
theorem m_isSleeve {T : Td} {τ : St} (h : TdM 0 τ T) (hT : TdOk T) (h0 : gI τ 0 = 0) {z : Int} (hz : ok32 z) {c : Int32} (hc : c ≠ 0) : x_X10_isSleeve (iI z) c τ = some (if 0 ≤ z ∧ z < tS T then (1, τ) else (0, refM τ c 1)) := by
  have := hT.2.1
  unfold x_X10_isSleeve
  rw [show gI τ 9 = iI (tS T) from h.2.1, i1, iI_sub, i0, m_within hz ⟨by omega, by omega⟩ ⟨by omega, by omega⟩, bd_some]
  by_cases e : 0 ≤ z ∧ z < tS T
  · rw [if_pos (show 0 ≤ z ∧ z ≤ (tS T : Int) - 1 by omega), if_pos e, m_may1 h0 (by decide), bd2_some]; rfl
  · rw [if_neg (show ¬ (0 ≤ z ∧ z ≤ (tS T : Int) - 1) by omega), if_neg e]
    show bd2 (x_X10_may 0 c (iI ((1 : Nat) : Int)) τ) _ = _
    rw [m_may0 h0 hc (by omega), bd2_some]; rfl
theorem m_isLooker {T : Td} {τ : St} (h : TdM 0 τ T) (hT : TdOk T) (h0 : gI τ 0 = 0) {z : Int} (hz : ok32 z) {c : Int32} (hc : c ≠ 0) : x_X10_isLooker (iI z) c τ = some (if 0 ≤ z ∧ z < tL T then (1, τ) else (0, refM τ c 1)) := by
  have := hT.2.2.1
  unfold x_X10_isLooker
  rw [show gI τ 10 = iI (tL T) from h.2.2.1, i1, iI_sub, i0, m_within hz ⟨by omega, by omega⟩ ⟨by omega, by omega⟩, bd_some]
  by_cases e : 0 ≤ z ∧ z < tL T
  · rw [if_pos (show 0 ≤ z ∧ z ≤ (tL T : Int) - 1 by omega), if_pos e, m_may1 h0 (by decide), bd2_some]; rfl
  · rw [if_neg (show ¬ (0 ≤ z ∧ z ≤ (tL T : Int) - 1) by omega), if_neg e]
    show bd2 (x_X10_may 0 c (iI ((1 : Nat) : Int)) τ) _ = _
    rw [m_may0 h0 hc (by omega), bd2_some]; rfl
/-- 'a number that does not fit': the class's check and the reference's -/
theorem m_mayB {τ : St} (h0 : gI τ 0 = 0) {c : Int32} {k : Nat} (hc : c ≠ 0) (hk : k < 4) (b : Prop) [Decidable b] : x_X10_may (if b then 1 else 0) c (iI k) τ = some (if b then (1, τ) else (0, refM τ c k)) := by
  by_cases e : b
  · rw [if_pos e, if_pos e, m_may1 h0 (by decide)]
  · rw [if_neg e, if_neg e, m_may0 h0 hc hk]
