/-! would -/
theorem op_would {σ τ : St} (h : Inv σ τ) (p1 p2 : Int32) : StT [(3, 1)] (x_X9_would p1 p2 σ) (x_X10_would p1 p2 τ) := by
  obtain ⟨T, s, n, ims, h⟩ := h
  obtain ⟨y, hy, rfl⟩ := ex_iI p2
  obtain ⟨τ1, e1, h0, h1⟩ := h.st
  have hi : Inv σ τ1 := ⟨T, s, n, ims, h1⟩
  have hh := h1
  obtain ⟨hT, hs, hC, hM, hSC, hSM, hB, hI, hb⟩ := hh
  have hC8 := hT.1
  have hS24 := hT.2.1
  have hL6 := hT.2.2.1
  obtain ⟨y1, y2⟩ := hy
  have ex : x_X10_would p1 (iI y) τ = x_X10_would p1 (iI y) τ := rfl
  have ec : x_X9_would p1 (iI y) σ = x_X9_would p1 (iI y) σ := rfl
  conv at ex => rhs; unfold x_X10_would
  conv at ec => rhs; unfold x_X9_would x_X9_would_b14 x_X9_would_b15
  rw [bd_some, e1, m_wn 0 5 0 5 rfl rfl ⟨y1, y2⟩ ⟨by omega, by omega⟩ ⟨by omega, by omega⟩, bd_some] at ex
  simp (disch := omega) only [ql0, qg5, qe0, qe1, qe2, qe3, qe4] at ec
  simp (disch := omega) only [qe0, qe1, qe2, qe3, qe4] at ex
  by_cases e2 : 0 ≤ y ∧ y ≤ 5
  · rw [if_pos e2, m_may1 h0 (by decide), bd2_some, if_neg (by decide)] at ex
    rw [if_neg (by omega), if_neg (by omega), c_need1 (by decide), bt_inl] at ec
    obtain ⟨b, σ2, τk, τt, τ2, τ3, s2, pos2, l1, q1, k1, g1, q2, hday, m1, h3, h4, h5, hinv⟩ := both_look p1 h1
    obtain ⟨spn, hmn, hmz, hms⟩ := hday.1.2.2.2.2.2.2.1
    have hM3 : TdM 0 τ3 T := hinv.2.2.2.1
    obtain ⟨r, r1, r2⟩ := both_last (τ3 := τ3) hT hday (h3 25 (by omega)) (h4 10)
    rw [k1, bd_some, g1, bd_some, q2, bd_some, m_offAll hday.1.2.1 hT hday.1.2.2.2.2.1 hday.1.2.2.1, bd_some, m1, bd_some, m_total hT hM3 (j := 23) (by decide), m_total hT hM3 (j := 24) (by decide), r2, h3 23 (by omega), h3 24 (by omega), h4 17, h4 18, hms, ← hday.1.2.2.2.2.2.2.2.1] at ex
    simp only [bd_some] at ex
    rw [l1, bd_some, q1, bd_some, f_sum, f_sum, f_sum, show x_X5_allOff 4 0 σ2 = _ from c_allOff (t := 4) (by omega) hday.1.2.2.2.1 hday.1.2.2.1 hT hday.1.1, r1] at ec
    simp only [bd_some] at ec
    have s37 : sumF (gA σ2 37) (lenN 37) = sumF (gA τ2 23) (tL T) := by
      rw [sumF_cut (a := tL T) (lenN 37) (show tL T ≤ 6 from hL6) (fun k a c => (hmz k a c).2)]
      exact sumF_eq _ (fun k hk => by rw [(hmn k hk).1, (hmn k hk).2.2.1])
    have s38 : sumF (gA σ2 38) (lenN 38) = sumF (gA τ2 24) (tL T) := by
      rw [sumF_cut (a := tL T) (lenN 38) (show tL T ≤ 6 from hL6) (fun k a c => hday.2.2.1 k a c)]
      exact sumF_eq _ (fun k hk => (hday.2.1 k hk).2.2.2.2.2.1)
    have s36 : sumF (gA σ2 36) (lenN 36) = sumF (gA σ2 36) 6 := rfl
    rw [s36, s37, s38] at ec
    have hiv : Inv σ2 τ3 := ⟨T, s, n, ims, hinv⟩
    by_cases c0 : y = 0
    · rw [if_pos c0] at ec ex
      exact StT.inl ec ex (h5.trans h0) hiv
    · rw [if_neg c0] at ec ex
      by_cases c1 : y = 1
      · rw [if_pos c1] at ec ex
        exact StT.inl ec ex (h5.trans h0) hiv
      · rw [if_neg c1] at ec ex
        by_cases c2 : y = 2
        · rw [if_pos c2] at ec ex
          exact StT.inl ec ex (h5.trans h0) hiv
        · rw [if_neg c2] at ec ex
          by_cases c3 : y = 3
          · rw [if_pos c3] at ec ex
            exact StT.inl ec ex (h5.trans h0) hiv
          · rw [if_neg c3] at ec ex
            by_cases c4 : y = 4
            · rw [if_pos c4] at ec ex
              exact StT.inl ec ex (h5.trans h0) hiv
            · rw [if_neg c4] at ec ex
              exact StT.inl ec ex (h5.trans h0) hiv
  · rw [if_neg e2, show x_X10_may 0 1 2 τ1 = some (0, refM τ1 1 2) from m_may0 (k := 2) h0 (by decide) (by omega), bd2_some, if_pos rfl] at ex
    by_cases c0 : y < 0
    · rw [if_pos c0, c_need0, bt_inr] at ec
      exact StT.ref h1 ec ex List.mem_cons_self
    · rw [if_neg c0, if_pos (by omega), c_need0, bt_inr] at ec
      exact StT.ref h1 ec ex List.mem_cons_self
