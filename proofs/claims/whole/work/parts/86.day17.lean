/-! buys -/
theorem op_buys {σ τ : St} (h : Inv σ τ) (p1 p2 p3 : Int32) : StT [(2, 1), (3, 2)] (x_X9_buys p1 p2 p3 σ) (x_X10_buys p1 p2 p3 τ) := by
  obtain ⟨T, s, n, ims, h⟩ := h
  obtain ⟨z, hz, rfl⟩ := ex_iI p1
  obtain ⟨y, hy, rfl⟩ := ex_iI p3
  obtain ⟨τ1, e1, h0, h1⟩ := h.st
  have hi : Inv σ τ1 := ⟨T, s, n, ims, h1⟩
  have hh := h1
  obtain ⟨hT, hs, hC, hM, hSC, hSM, hB, hI, hb⟩ := hh
  have hC8 := hT.1
  have hS24 := hT.2.1
  have hL6 := hT.2.2.1
  obtain ⟨y1, y2⟩ := hy
  have ex : x_X10_buys (iI z) p2 (iI y) τ = x_X10_buys (iI z) p2 (iI y) τ := rfl
  have ec : x_X9_buys (iI z) p2 (iI y) σ = x_X9_buys (iI z) p2 (iI y) σ := rfl
  conv at ex => rhs; unfold x_X10_buys
  conv at ec => rhs; unfold x_X9_buys x_X9_buys_b19 x_X9_buys_b20
  rw [bd_some, e1, m_isLooker hM hT h0 hz (by decide)] at ex
  rw [c_needLooker hC hT hz] at ec
  simp (disch := omega) only [ql0, qg3, qe0, qe1, qe2] at ec
  simp (disch := omega) only [qe0, qe1, qe2] at ex
  by_cases e : 0 ≤ z ∧ z < tL T
  · rw [if_pos e, bd2_some, if_neg (by decide), m_wn 0 3 0 3 rfl rfl ⟨y1, y2⟩ ⟨by omega, by omega⟩ ⟨by omega, by omega⟩, bd_some] at ex
    rw [if_pos e, bt_inl] at ec
    obtain ⟨k, rfl⟩ := Int.eq_ofNat_of_zero_le e.1
    have hk : k < tL T := by omega
    have hk6 : k < 6 := by omega
    by_cases e2 : 0 ≤ y ∧ y ≤ 3
    · rw [if_pos e2, m_may1 h0 (by decide), bd2_some, if_neg (by decide)] at ex
      rw [if_neg (by omega), if_neg (by omega), c_need1 (by decide), bt_inl] at ec
      obtain ⟨b, σ2, τk, τt, τ2, τ3, s2, pos2, l1, q1, k1, g1, q2, hday, m1, h3, h4, h5, hinv⟩ := both_look p2 h1
      obtain ⟨spn, hmn, -, -⟩ := hday.1.2.2.2.2.2.2.1
      obtain ⟨n1, n2, n3, n4, -⟩ := hmn k hk
      obtain ⟨r1, r2, r3, r4, r5, r6, r7, r8⟩ := hday.2.1 k hk
      rw [k1, bd_some, g1, bd_some, q2, bd_some, m1, bd_some, ldI_in (show k < lenM 22 from hk6) (by decide), ldI_in (show k < lenM 23 from hk6) (by decide), ldI_in (show k < lenM 24 from hk6) (by decide), ldI_in (show k < lenM 25 from hk6) (by decide), h3 22 (by omega), h3 23 (by omega), h3 24 (by omega), h3 25 (by omega), n3, ← n4, ← n1, ← r6, ← r7] at ex
      simp only [bd_some] at ex
      rw [l1, bd_some, q1, bd_some, f_at, f_at, f_at, f_at, atF_in (show k < lenN 36 from hk6) (by decide), atF_in (show k < lenN 37 from hk6) (by decide), atF_in (show k < lenN 38 from hk6) (by decide), atF_in (show k < lenN 39 from hk6) (by decide)] at ec
      simp only [bd_some] at ec
      have hiv : Inv σ2 τ3 := ⟨T, s, n, ims, hinv⟩
      by_cases c0 : y = 0
      · rw [if_pos c0] at ec ex
        exact StT.inl ec ex (h5.trans h0) hiv
      · rw [if_neg c0] at ec ex
        by_cases c1 : y = 1
        · rw [if_pos c1] at ec ex
          exact StT.inl ec ex (h5.trans h0) hiv
        · rw [if_neg c1] at ec ex
          by_cases c2 : y = 2
          · rw [if_pos c2] at ec ex
            exact StT.inl ec ex (h5.trans h0) hiv
          · rw [if_neg c2] at ec ex
            exact StT.inl ec ex (h5.trans h0) hiv
    · rw [if_neg e2, show x_X10_may 0 2 2 τ1 = some (0, refM τ1 2 2) from m_may0 (k := 2) h0 (by decide) (by omega), bd2_some, if_pos rfl] at ex
      by_cases c0 : y < 0
      · rw [if_pos c0, c_need0, bt_inr] at ec
        exact StT.ref h1 ec ex (List.mem_cons_of_mem _ List.mem_cons_self)
      · rw [if_neg c0, if_pos (by omega), c_need0, bt_inr] at ec
        exact StT.ref h1 ec ex (List.mem_cons_of_mem _ List.mem_cons_self)
  · rw [if_neg e, bd2_some, if_pos rfl] at ex
    rw [if_neg e, bt_inr] at ec
    exact StT.ref h1 ec ex List.mem_cons_self
