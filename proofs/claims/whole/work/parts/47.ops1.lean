/-! the calls, one by one: those that tell -/
theorem i5 : (5 : Int32) = iI 5 := rfl
theorem i6 : (6 : Int32) = iI 6 := rfl
theorem i7 : (7 : Int32) = iI 7 := rfl
theorem i8 : (8 : Int32) = iI 8 := rfl
theorem i9 : (9 : Int32) = iI 9 := rfl
theorem i24 : (24 : Int32) = iI 24 := rfl
theorem tr0 (τ : St) : gI (sI τ 0 0) 0 = 0 := gI_sI _ _ _
theorem InvX.st {T : Td} {s : Sk} {n : Nat} {ims : List Sk} {σ τ : St} (h : InvX T s n ims σ τ) : ∃ τ1, sI τ 0 0 = τ1 ∧ gI τ1 0 = 0 ∧ InvX T s n ims σ τ1 := ⟨_, rfl, tr0 τ, h.z⟩
/-- 'within' with written numbers -/
theorem m_wn {a : Int} (B C : Int32) (b c : Int) (hB : B = iI b) (hC : C = iI c) (ha : ok32 a) (hb : ok32 b) (hc : ok32 c) : x_X10_within (iI a) B C = some (if b ≤ a ∧ a ≤ c then 1 else 0) := by
  rw [hB, hC]; exact m_within ha hb hc
theorem m_mayN {τ : St} (h0 : gI τ 0 = 0) (c K : Int32) (k : Nat) (hK : K = iI k) (hc : c ≠ 0) (hk : k < 4) (b : Prop) [Decidable b] : x_X10_may (if b then 1 else 0) c K τ = some (if b then (1, τ) else (0, refM τ c k)) := by
  rw [hK]; exact m_mayB h0 hc hk b
theorem op_told {σ τ : St} (h : Inv σ τ) (p : Int32) : StT [(3, 1)] (x_X9_told p σ) (x_X10_told p τ) := by
  obtain ⟨T, s, n, ims, h⟩ := h
  obtain ⟨z, hz, rfl⟩ := ex_iI p
  obtain ⟨z1, z2⟩ := hz
  obtain ⟨τ1, e1, h0, h1⟩ := h.st
  have hi : Inv σ τ1 := ⟨T, s, n, ims, h1⟩
  have hh := h1
  obtain ⟨hT, hs, hC, hM, hSC, hSM, hB, hI, hb⟩ := hh
  have ex : x_X10_told (iI z) τ = (if 0 ≤ z ∧ z ≤ 7 then (if z = 0 then some (iI (tC T), τ1) else if z = 1 then some (iI (tS T), τ1) else if z = 2 then some (iI (tL T), τ1) else if z = 3 then some (iI (tH T), τ1) else some (iI (tWt T (z - 4).toNat), τ1)) else some (0, refM τ1 1 2)) := by
    unfold x_X10_told
    rw [bd_some, e1, m_wn 0 7 0 7 rfl rfl ⟨z1, z2⟩ ⟨by omega, by omega⟩ ⟨by omega, by omega⟩, bd_some, m_mayN h0 1 2 2 rfl (by decide) (by omega)]
    by_cases e : 0 ≤ z ∧ z ≤ 7
    · rw [if_pos e, if_pos e, bd2_some, if_neg (by decide), qs4]
      simp (disch := omega) only [qe0, qe1, qe2, qe3]
      rw [show gI τ1 8 = iI (tC T) from hM.1, show gI τ1 9 = iI (tS T) from hM.2.1, show gI τ1 10 = iI (tL T) from hM.2.2.1, show gI τ1 11 = iI (tH T) from hM.2.2.2.1]
      by_cases c0 : z = 0
      · rw [if_pos c0, if_pos c0]
      · rw [if_neg c0, if_neg c0]
        by_cases c1 : z = 1
        · rw [if_pos c1, if_pos c1]
        · rw [if_neg c1, if_neg c1]
          by_cases c2 : z = 2
          · rw [if_pos c2, if_pos c2]
          · rw [if_neg c2, if_neg c2]
            by_cases c3 : z = 3
            · rw [if_pos c3, if_pos c3]
            · rw [if_neg c3, if_neg c3]
              obtain ⟨q, hq⟩ := Int.eq_ofNat_of_zero_le (a := z - 4) (by omega)
              have hq4 : q < 4 := by omega
              rw [hq, ldI_in (show q < lenM 6 from hq4) (by decide), bd_some, show gA τ1 6 q = iI (tWt T q) from hM.2.2.2.2.2.2.2.2 q hq4]
              rfl
    · rw [if_neg e, if_neg e, bd2_some, if_pos rfl]
  have ec : x_X9_told (iI z) σ = (if 0 ≤ z ∧ z ≤ 7 then (if z = 0 then some (.inl (iI (tC T), σ)) else if z = 1 then some (.inl (iI (tS T), σ)) else if z = 2 then some (.inl (iI (tL T), σ)) else if z = 3 then some (.inl (iI (tH T), σ)) else some (.inl (iI (tWt T (z - 4).toNat), σ))) else some (.inr (3, refC σ 2))) := by
    have e2 : ∀ w, x_X9_told_b80 w σ = some (.inr (3, refC σ 2)) := by
      intro w
      unfold x_X9_told_b80 x_X9_told_b81
      rw [c_need0, bt_inr]
    unfold x_X9_told
    simp (disch := omega) only [qe0, qe1, qe2, qe3, ql4, qM8, e2]
    rw [show gI σ 0 = iI (tC T) from hC.1, show gI σ 1 = iI (tS T) from hC.2.1, show gI σ 2 = iI (tL T) from hC.2.2.1, show gI σ 3 = iI (tH T) from hC.2.2.2.1]
    by_cases c0 : z = 0
    · rw [if_pos c0, if_pos (by omega), if_pos c0]
    · rw [if_neg c0]
      by_cases c1 : z = 1
      · rw [if_pos c1, if_pos (by omega), if_neg c0, if_pos c1]
      · rw [if_neg c1]
        by_cases c2 : z = 2
        · rw [if_pos c2, if_pos (by omega), if_neg c0, if_neg c1, if_pos c2]
        · rw [if_neg c2]
          by_cases c3 : z = 3
          · rw [if_pos c3, if_pos (by omega), if_neg c0, if_neg c1, if_neg c2, if_pos c3]
          · rw [if_neg c3]
            by_cases c4 : z < 4
            · rw [if_pos c4, if_neg (by omega)]
            · rw [if_neg c4]
              by_cases c5 : 8 ≤ z
              · rw [if_pos c5, if_neg (by omega)]
              · rw [if_neg c5, if_pos (by omega), if_neg c0, if_neg c1, if_neg c2, if_neg c3]
                unfold x_X9_told_b81
                obtain ⟨q, hq⟩ := Int.eq_ofNat_of_zero_le (a := z - 4) (by omega)
                have hq4 : q < 4 := by omega
                rw [c_need1 (by decide), bt_inl, qs4, hq, f_at, bd_some, atF_in (show q < lenN 7 from hq4) (by decide), show gA σ 7 q = iI (tWt T q) from hC.2.2.2.2.2.2.2.2.2 q hq4]
                rfl
  rw [ex, ec]
  by_cases e : 0 ≤ z ∧ z ≤ 7
  · rw [if_pos e, if_pos e]
    left
    by_cases c0 : z = 0
    · rw [if_pos c0, if_pos c0]; exact ⟨_, _, _, rfl, rfl, h0, hi⟩
    · rw [if_neg c0, if_neg c0]
      by_cases c1 : z = 1
      · rw [if_pos c1, if_pos c1]; exact ⟨_, _, _, rfl, rfl, h0, hi⟩
      · rw [if_neg c1, if_neg c1]
        by_cases c2 : z = 2
        · rw [if_pos c2, if_pos c2]; exact ⟨_, _, _, rfl, rfl, h0, hi⟩
        · rw [if_neg c2, if_neg c2]
          by_cases c3 : z = 3
          · rw [if_pos c3, if_pos c3]; exact ⟨_, _, _, rfl, rfl, h0, hi⟩
          · rw [if_neg c3, if_neg c3]; exact ⟨_, _, _, rfl, rfl, h0, hi⟩
  · rw [if_neg e, if_neg e]
    right
    exact ⟨_, _, _, _, rfl, rfl, by rw [refM_0]; exact List.mem_cons_self, T, s, n, ims, h1.ref 1⟩
theorem StT.inl {α : Type} {cds : List (Nat × Int32)} {x : Option ((α × St) ⊕ (Nat × St))} {y : Option (α × St)} {r : α} {σ2 τ2 : St} (hx : x = some (.inl (r, σ2))) (hy : y = some (r, τ2)) (h0 : gI τ2 0 = 0) (hi : Inv σ2 τ2) : StT cds x y := Or.inl ⟨r, σ2, τ2, hx, hy, h0, hi⟩
theorem StT.inr {α : Type} {cds : List (Nat × Int32)} {x : Option ((α × St) ⊕ (Nat × St))} {y : Option (α × St)} {r : α} {σ2 τ2 : St} {c : Nat} (hx : x = some (.inr (c, σ2))) (hy : y = some (r, τ2)) (h0 : (c, gI τ2 0) ∈ cds) (hi : Inv σ2 τ2) : StT cds x y := Or.inr ⟨c, σ2, r, τ2, hx, hy, h0, hi⟩
/-- both refuse -/
theorem StT.ref {α : Type} {cds : List (Nat × Int32)} {x : Option ((α × St) ⊕ (Nat × St))} {y : Option (α × St)} {r : α} {σ τ : St} {T : Td} {s : Sk} {n : Nat} {ims : List Sk} {c k : Nat} {c2 : Int32} (h : InvX T s n ims σ τ) (hx : x = some (.inr (c, refC σ k))) (hy : y = some (r, refM τ c2 k)) (h0 : (c, c2) ∈ cds) : StT cds x y := Or.inr ⟨c, _, r, _, hx, hy, by rw [refM_0]; exact h0, T, s, n, ims, h.ref c2⟩
theorem op_crate {σ τ : St} (h : Inv σ τ) (p1 p2 : Int32) : StT [(1, 1), (3, 2)] (x_X9_crate p1 p2 σ) (x_X10_crate p1 p2 τ) := by
  obtain ⟨T, s, n, ims, h⟩ := h
  obtain ⟨z, hz, rfl⟩ := ex_iI p1
  obtain ⟨y, hy, rfl⟩ := ex_iI p2
  obtain ⟨τ1, e1, h0, h1⟩ := h.st
  have hi : Inv σ τ1 := ⟨T, s, n, ims, h1⟩
  have hh := h1
  obtain ⟨hT, hs, hC, hM, hSC, hSM, hB, hI, hb⟩ := hh
  obtain ⟨y1, y2⟩ := hy
  have hC8 := hT.1
  have ex : x_X10_crate (iI z) (iI y) τ = x_X10_crate (iI z) (iI y) τ := rfl
  have ec : x_X9_crate (iI z) (iI y) σ = x_X9_crate (iI z) (iI y) σ := rfl
  conv at ex => rhs; unfold x_X10_crate
  conv at ec => rhs; unfold x_X9_crate x_X9_crate_b15 x_X9_crate_b20
  rw [bd_some, e1, m_isCrate hM hT h0 hz (by decide)] at ex
  rw [c_needCrate hC hT hz] at ec
  simp (disch := omega) only [qe0] at ex
  simp (disch := omega) only [qe0, qe1] at ec
  by_cases e : 0 ≤ z ∧ z < tC T
  · rw [if_pos e, bd2_some, if_neg (by decide), m_wn 0 1 0 1 rfl rfl ⟨y1, y2⟩ ⟨by omega, by omega⟩ ⟨by omega, by omega⟩, bd_some] at ex
    rw [if_pos e, bt_inl] at ec
    obtain ⟨c, rfl⟩ := Int.eq_ofNat_of_zero_le e.1
    have hc : c < tC T := by omega
    by_cases c0 : y = 0
    · rw [if_pos (show 0 ≤ y ∧ y ≤ 1 by omega), m_may1 h0 (by decide), bd2_some, if_neg (by decide), if_pos c0, ldI_in (show c < lenM 2 from (show c < 8 by omega)) (by decide), bd_some, show gA τ1 2 c = iI (tLe T c) from hM.2.2.2.2.1 c hc] at ex
      rw [if_pos c0, c_need1 (by decide), bt_inl, if_pos c0, f_at, bd_some, atF_in (show c < lenN 1 from (show c < 8 by omega)) (by decide), show gA σ 1 c = iI (tLe T c) from hC.2.2.2.2.1 c hc] at ec
      exact StT.inl ec ex h0 hi
    · by_cases c1 : y = 1
      · rw [if_pos (show 0 ≤ y ∧ y ≤ 1 by omega), m_may1 h0 (by decide), bd2_some, if_neg (by decide), if_neg c0, ldI_in (show c < lenM 16 from (show c < 8 by omega)) (by decide), bd_some, show gA τ1 16 c = _ from hSM.1.1 c (by omega)] at ex
        rw [if_neg c0, if_pos c1, c_need1 (by decide), bt_inl, if_neg c0, c_size (by omega) hSC hs hC8 c (by omega), bd_some] at ec
        exact StT.inl ec ex h0 hi
      · rw [if_neg (show ¬ (0 ≤ y ∧ y ≤ 1) by omega), show x_X10_may 0 2 2 τ1 = some (0, refM τ1 2 2) from m_may0 (k := 2) h0 (by decide) (by omega), bd2_some, if_pos rfl] at ex
        rw [if_neg c0, if_neg c1, c_need0, bt_inr] at ec
        exact StT.ref h1 ec ex (List.mem_cons_of_mem _ List.mem_cons_self)
  · rw [if_neg e, bd2_some, if_pos rfl] at ex
    rw [if_neg e, bt_inr] at ec
    exact StT.ref h1 ec ex List.mem_cons_self
theorem getD_of {L : List Nat} {i : Nat} (h : i < L.length) : L[i]? = some (L.getD i 0) := by
  rw [List.getD_eq_getElem?_getD, List.getElem?_eq_getElem h]; rfl
theorem op_row {σ τ : St} (h : Inv σ τ) (p1 p2 : Int32) : StT [(1, 1)] (x_X9_row p1 p2 σ) (x_X10_row p1 p2 τ) := by
  obtain ⟨T, s, n, ims, h⟩ := h
  obtain ⟨z, hz, rfl⟩ := ex_iI p1
  obtain ⟨y, hy, rfl⟩ := ex_iI p2
  obtain ⟨τ1, e1, h0, h1⟩ := h.st
  have hi : Inv σ τ1 := ⟨T, s, n, ims, h1⟩
  have hh := h1
  obtain ⟨hT, hs, hC, hM, hSC, hSM, hB, hI, hb⟩ := hh
  have hC8 := hT.1
  have ex : x_X10_row (iI z) (iI y) τ = x_X10_row (iI z) (iI y) τ := rfl
  have ec : x_X9_row (iI z) (iI y) σ = x_X9_row (iI z) (iI y) σ := rfl
  conv at ex => rhs; unfold x_X10_row
  conv at ec => rhs; unfold x_X9_row
  rw [bd_some, e1, m_isCrate hM hT h0 hz (by decide)] at ex
  rw [c_needCrate hC hT hz] at ec
  by_cases e : 0 ≤ z ∧ z < tC T
  · obtain ⟨c, rfl⟩ := Int.eq_ofNat_of_zero_le e.1
    have hl := rowL_len s c
    rw [if_pos e, bd2_some, if_neg (by decide), ldI_in (show c < lenM 16 from (show c < 8 by omega)) (by decide), bd_some, show gA τ1 16 c = _ from hSM.1.1 c (by omega), qs1, m_wn 0 _ 0 _ rfl rfl hy ⟨by omega, by omega⟩ ⟨by omega, by omega⟩, bd_some] at ex
    rw [if_pos e, bt_inl, c_inRow (by omega) hSC hs hC8 c (by omega) y hy, bd_some] at ec
    obtain ⟨y1, y2⟩ := hy
    by_cases e2 : 0 ≤ y ∧ y < (rowL s c).length
    · obtain ⟨q, rfl⟩ := Int.eq_ofNat_of_zero_le e2.1
      have hq : q < (rowL s c).length := by omega
      rw [if_pos (show 0 ≤ (q : Int) ∧ (q : Int) ≤ (rowL s c).length - 1 by omega), if_neg (by decide), qy24, iI_add, show (24 : Int) * c + q = ((24 * c + q : Nat) : Int) from by omega, ldI_in (show 24 * c + q < lenM 17 from (show _ < 192 by omega)) (by decide), bd_some, show gA τ1 17 (24 * c + q) = _ from hSM.1.2 c q _ (by omega) (getD_of hq)] at ex
      rw [if_pos e2] at ec
      exact StT.inl ec ex h0 hi
    · rw [if_neg (show ¬ (0 ≤ y ∧ y ≤ ((rowL s c).length : Int) - 1) by omega), if_pos rfl] at ex
      rw [if_neg e2] at ec
      exact StT.inl ec ex h0 hi
  · rw [if_neg e, bd2_some, if_pos rfl] at ex
    rw [if_neg e, bt_inr] at ec
    exact StT.ref h1 ec ex List.mem_cons_self
