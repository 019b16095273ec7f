/-! then -/
theorem op_then {σ τ : St} (h : Inv σ τ) (p1 p2 : Int32) : StT [(2, 1)] (x_X9_then p1 p2 σ) (x_X10_then p1 p2 τ) := by
  obtain ⟨T, s, n, ims, h⟩ := h
  obtain ⟨z, hz, rfl⟩ := ex_iI p1
  obtain ⟨τ1, e1, h0, h1⟩ := h.st
  have hi : Inv σ τ1 := ⟨T, s, n, ims, h1⟩
  have hh := h1
  obtain ⟨hT, hs, hC, hM, hSC, hSM, hB, hI, hb⟩ := hh
  have hC8 := hT.1
  have hS24 := hT.2.1
  have hL6 := hT.2.2.1
  have ex : x_X10_then (iI z) p2 τ = x_X10_then (iI z) p2 τ := rfl
  have ec : x_X9_then (iI z) p2 σ = x_X9_then (iI z) p2 σ := rfl
  conv at ex => rhs; unfold x_X10_then
  conv at ec => rhs; unfold x_X9_then
  rw [bd_some, e1, m_isSleeve hM hT h0 hz (by decide)] at ex
  rw [c_needSleeve hC hT hz] at ec
  by_cases e : 0 ≤ z ∧ z < tS T
  · rw [if_pos e, bd2_some, if_neg (by decide)] at ex
    rw [if_pos e, bt_inl] at ec
    obtain ⟨k, rfl⟩ := Int.eq_ofNat_of_zero_le e.1
    have hk : k < tS T := by omega
    obtain ⟨b, σ2, τk, τt, τ2, τ3, s2, pos2, l1, q1, k1, g1, q2, hday, m1, h3, h4, h5, hinv⟩ := both_look p2 h1
    rw [k1, bd_some, g1, bd_some, q2, bd_some, m_lies hday.1.2.2.2.2.1 hS24 hk, bd_some, m1, bd_some] at ex
    rw [l1, bd_some, q1, bd_some, show x_X2_at 31 (iI (k : Int)) σ2 = _ from c_where (t := 4) (by omega) hday.1.2.2.2.1 (by omega), bd_some] at ec
    exact StT.inl ec ex (h5.trans h0) ⟨T, s, n, ims, hinv⟩
  · rw [if_neg e, bd2_some, if_pos rfl] at ex
    rw [if_neg e, bt_inr] at ec
    exact StT.ref h1 ec ex List.mem_cons_self
