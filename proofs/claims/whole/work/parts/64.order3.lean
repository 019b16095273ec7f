/-! order and mean: the calls -/
theorem c_needSearch {σ : St} {T : Td} {s : Sk} (hT : TdOk T) (hs : SkOk (tC T) (tS T) s) (hC : TdC 0 σ T) (hSC : SkC σ 0 s) {y x f w : Int} (hy : ok32 y) (hx : ok32 x) (hf : ok32 f) (hw : ok32 w) : x_X9_needSearch (iI y) (iI x) (iI f) (iI w) σ = some (if 0 ≤ y ∧ y < tS T then (if (0 ≤ x ∧ x ≤ 4) ∧ (1 ≤ f ∧ f ≤ 8) ∧ (0 ≤ w ∧ w ≤ 1) then (if skW s y.toNat = -1 then .inr (4, refC σ 3) else .inl σ) else .inr (3, refC σ 2)) else .inr (2, refC σ 1)) := by
  have d0 : ∀ a, x_X9_needSearch_b48 a 0 σ = some (.inr (3, refC σ 2)) := fun a => by unfold x_X9_needSearch_b48; rw [c_need0, bt_inr]
  have d1 : ∀ a b c, x_X9_needSearch_b20 a b c 0 σ = some (.inr (3, refC σ 2)) := fun a b c => by unfold x_X9_needSearch_b20; rw [c_need0, bt_inr]
  unfold x_X9_needSearch x_X9_needSearch_b19
  rw [c_needSleeve hC hT hy]
  by_cases ey : 0 ≤ y ∧ y < tS T
  · obtain ⟨k, rfl⟩ := Int.eq_ofNat_of_zero_le ey.1
    obtain ⟨x1, x2⟩ := hx
    obtain ⟨w1, w2⟩ := hw
    rw [if_pos ey, if_pos ey, bt_inl]
    simp (disch := omega) only [ql0, qg4, d1]
    by_cases ex : 0 ≤ x ∧ x ≤ 4
    · rw [if_neg (by omega), if_neg (by omega)]
      unfold x_X9_needSearch_b20 x_X9_needSearch_b43
      rw [c_need1 (by decide), bt_inl, c_isPace hf, bd_some]
      by_cases ef : 1 ≤ f ∧ f ≤ 8
      · rw [if_pos ef, c_need1 (by decide), bt_inl]
        simp (disch := omega) only [qe0, qe1, d0]
        by_cases ew : 0 ≤ w ∧ w ≤ 1
        · rw [if_pos (show (0 ≤ x ∧ x ≤ 4) ∧ (1 ≤ f ∧ f ≤ 8) ∧ (0 ≤ w ∧ w ≤ 1) from ⟨ex, ef, ew⟩)]
          have e48 : x_X9_needSearch_b48 (iI (k : Int)) 1 σ = some (if skW s (k : Int).toNat = -1 then .inr (4, refC σ 3) else .inl σ) := by
            unfold x_X9_needSearch_b48
            rw [c_need1 (by decide), bt_inl, c_needLying hSC hs hT (by omega)]
            show _ = some (if skW s k = -1 then _ else _)
            by_cases el : skW s k = -1
            · rw [if_pos el, bt_inr]
            · rw [if_neg el, bt_inl]
          rw [e48]
          by_cases q : w = 0
          · rw [if_pos q]
          · rw [if_neg q, if_pos (by omega)]
        · rw [if_neg (by omega), if_neg (by omega), if_neg (fun q => ew q.2.2)]
      · rw [if_neg ef, c_need0, bt_inr, if_neg (fun q => ef q.2.1)]
    · have hn : ¬ ((0 ≤ x ∧ x ≤ 4) ∧ (1 ≤ f ∧ f ≤ 8) ∧ (0 ≤ w ∧ w ≤ 1)) := fun q => ex q.1
      rw [if_neg hn]
      by_cases c0 : x < 0
      · rw [if_pos c0]
      · rw [if_neg c0, if_pos (by omega)]
  · rw [if_neg ey, if_neg ey, bt_inr]
theorem op_order {σ τ : St} (h : Inv σ τ) (p1 p2 p3 p4 : Int32) : StT [(2, 1), (3, 2), (4, 3)] (x_X9_order p1 p2 p3 p4 σ) (x_X10_order p1 p2 p3 p4 τ) := by
  obtain ⟨T, s, n, ims, h⟩ := h
  obtain ⟨y, hy, rfl⟩ := ex_iI p1
  obtain ⟨x, hx, rfl⟩ := ex_iI p2
  obtain ⟨f, hf, rfl⟩ := ex_iI p3
  obtain ⟨v, hv, rfl⟩ := ex_iI p4
  obtain ⟨τ1, e1, h0, h1⟩ := h.st
  have hi : Inv σ τ1 := ⟨T, s, n, ims, h1⟩
  have hh := h1
  obtain ⟨hT, hs, hC, hM, hSC, hSM, hB, hI, hb⟩ := hh
  have hC8 := hT.1
  have hS24 := hT.2.1
  have hL6 := hT.2.2.1
  have f0 : ∀ a b c e, x_X10_order_b38 a b c e τ1 = some (0, refM τ1 2 2) := fun a b c e => by
    unfold x_X10_order_b38 x_X10_order_b39
    rw [show x_X10_may 0 2 2 τ1 = some (0, refM τ1 2 2) from m_may0 (k := 2) h0 (by decide) (by omega), bd2_some, if_pos rfl]
  have ex : x_X10_order (iI y) (iI x) (iI f) (iI v) τ = x_X10_order (iI y) (iI x) (iI f) (iI v) τ := rfl
  have ec : x_X9_order (iI y) (iI x) (iI f) (iI v) σ = x_X9_order (iI y) (iI x) (iI f) (iI v) σ := rfl
  conv at ex => rhs; unfold x_X10_order
  conv at ec => rhs; unfold x_X9_order
  rw [bd_some, e1, m_isSleeve hM hT h0 hy (by decide)] at ex
  rw [show (0 : Int32) = iI 0 from rfl, c_needSearch hT hs hC hSC hy hx hf ⟨by omega, by omega⟩] at ec
  by_cases ey : 0 ≤ y ∧ y < tS T
  · obtain ⟨k, rfl⟩ := Int.eq_ofNat_of_zero_le ey.1
    have hk : k < tS T := by omega
    have hwb := hs.1 k hk
    rw [if_pos ey, bd2_some, if_neg (by decide), m_wn 0 4 0 4 rfl rfl hx ⟨by omega, by omega⟩ ⟨by omega, by omega⟩, bd_some, m_wn 1 8 1 8 rfl rfl hf ⟨by omega, by omega⟩ ⟨by omega, by omega⟩, bd_some, f0] at ex
    rw [if_pos ey] at ec
    by_cases exx : 0 ≤ x ∧ x ≤ 4
    · rw [if_pos exx, if_neg (by decide)] at ex
      by_cases ef : 1 ≤ f ∧ f ≤ 8
      · rw [if_pos ef, if_neg (by decide)] at ex
        unfold x_X10_order_b39 x_X10_order_b63 at ex
        rw [m_may1 h0 (by decide), bd2_some, if_neg (by decide), m_lies hSM hS24 hk, bd_some] at ex
        simp (disch := omega) only [qeM] at ex
        rw [if_pos (show (0 ≤ x ∧ x ≤ 4) ∧ (1 ≤ f ∧ f ≤ 8) ∧ (0 ≤ (0 : Int) ∧ (0 : Int) ≤ 1) from ⟨exx, ef, by omega, by omega⟩)] at ec
        by_cases el : skW s k = -1
        · rw [if_pos el, show x_X10_may 0 3 3 τ1 = some (0, refM τ1 3 3) from m_may0 (k := 3) h0 (by decide) (by omega), bd2_some, if_pos rfl] at ex
          rw [show (k : Int).toNat = k from rfl, if_pos el, bt_inr] at ec
          exact StT.ref h1 ec ex (by decide)
        · obtain ⟨lie, hlie⟩ := Int.eq_ofNat_of_zero_le (a := skW s k) (by omega)
          obtain ⟨t, rfl⟩ := Int.eq_ofNat_of_zero_le exx.1
          obtain ⟨ff, rfl⟩ := Int.eq_ofNat_of_zero_le (a := f) (by omega)
          obtain ⟨σ2, τ2, S, k1, k2, k3, k4, k5, k6, k7, k8, k9, k10, k11⟩ := both_rank h1 hk hlie (by omega) (show t ≤ 4 by omega) (show 1 ≤ ff by omega) (show ff ≤ 8 by omega)
          have hM2 : TdM 0 τ2 T := (h1.eq CEq.rfl k3.2).2.2.2.1
          rw [if_neg el, m_may1 h0 (by decide), bd2_some, if_neg (by decide), k2, bd_some, show gI τ2 8 = iI (tC T) from hM2.1, qs1, m_wn 0 _ 0 _ rfl rfl hv ⟨by omega, by omega⟩ ⟨by omega, by omega⟩, bd_some] at ex
          rw [show (k : Int).toNat = k from rfl, if_neg el, bt_inl, c_hasCrate hv hC.1 (by omega), bd_some] at ec
          by_cases ei : 0 ≤ v ∧ v < tC T
          · obtain ⟨q, rfl⟩ := Int.eq_ofNat_of_zero_le ei.1
            rw [if_pos (show 0 ≤ (q : Int) ∧ (q : Int) ≤ (tC T : Int) - 1 by omega), if_neg (by decide), ldI_in (show q < lenM 31 from (show q < 8 by omega)) (by decide), k7 q (by omega), bd_some] at ex
            rw [if_pos ei, if_neg (show ¬ (1 : Int32) = iI 0 by decide), k1, bd_some, f_at, atF_in (show q < lenN 43 from (show q < 8 by omega)) (by decide), k6 q (by omega), bd_some] at ec
            exact StT.inl ec ex (k4.trans h0) ⟨T, s, n, ims, h1.eq k3.1 k3.2⟩
          · rw [if_neg (show ¬ (0 ≤ v ∧ v ≤ (tC T : Int) - 1) by omega), if_pos rfl] at ex
            rw [if_neg ei, if_pos (show (0 : Int32) = iI 0 from rfl)] at ec
            exact StT.inl ec ex (k4.trans h0) ⟨T, s, n, ims, h1.eq CEq.rfl k3.2⟩
      · rw [if_neg ef, if_pos rfl] at ex
        rw [if_neg (fun q => ef q.2.1), bt_inr] at ec
        exact StT.ref h1 ec ex (by decide)
    · rw [if_neg exx, if_pos rfl] at ex
      rw [if_neg (fun q => exx q.1), bt_inr] at ec
      exact StT.ref h1 ec ex (by decide)
  · rw [if_neg ey, bd2_some, if_pos rfl] at ex
    rw [if_neg ey, bt_inr] at ec
    exact StT.ref h1 ec ex (by decide)
theorem op_mean {σ τ : St} (h : Inv σ τ) (p1 p2 p3 p4 : Int32) : StT [(2, 1), (3, 2), (4, 3)] (x_X9_mean p1 p2 p3 p4 σ) (x_X10_mean p1 p2 p3 p4 τ) := by
  obtain ⟨T, s, n, ims, h⟩ := h
  obtain ⟨y, hy, rfl⟩ := ex_iI p1
  obtain ⟨x, hx, rfl⟩ := ex_iI p2
  obtain ⟨f, hf, rfl⟩ := ex_iI p3
  obtain ⟨v, hv, rfl⟩ := ex_iI p4
  obtain ⟨τ1, e1, h0, h1⟩ := h.st
  have hi : Inv σ τ1 := ⟨T, s, n, ims, h1⟩
  have hh := h1
  obtain ⟨hT, hs, hC, hM, hSC, hSM, hB, hI, hb⟩ := hh
  have hC8 := hT.1
  have hS24 := hT.2.1
  have hL6 := hT.2.2.1
  have f0 : ∀ a b c e, x_X10_mean_b48 a b c e τ1 = some (0, refM τ1 2 2) := fun a b c e => by
    unfold x_X10_mean_b48 x_X10_mean_b49
    rw [show x_X10_may 0 2 2 τ1 = some (0, refM τ1 2 2) from m_may0 (k := 2) h0 (by decide) (by omega), bd2_some, if_pos rfl]
  have ex : x_X10_mean (iI y) (iI x) (iI f) (iI v) τ = x_X10_mean (iI y) (iI x) (iI f) (iI v) τ := rfl
  have ec : x_X9_mean (iI y) (iI x) (iI f) (iI v) σ = x_X9_mean (iI y) (iI x) (iI f) (iI v) σ := rfl
  conv at ex => rhs; unfold x_X10_mean
  conv at ec => rhs; unfold x_X9_mean
  rw [bd_some, e1, m_isSleeve hM hT h0 hy (by decide)] at ex
  rw [c_needSearch hT hs hC hSC hy hx hf hv] at ec
  by_cases ey : 0 ≤ y ∧ y < tS T
  · obtain ⟨k, rfl⟩ := Int.eq_ofNat_of_zero_le ey.1
    have hk : k < tS T := by omega
    have hwb := hs.1 k hk
    rw [if_pos ey, bd2_some, if_neg (by decide), m_wn 0 4 0 4 rfl rfl hx ⟨by omega, by omega⟩ ⟨by omega, by omega⟩, bd_some, m_wn 1 8 1 8 rfl rfl hf ⟨by omega, by omega⟩ ⟨by omega, by omega⟩, bd_some, m_wn 0 1 0 1 rfl rfl hv ⟨by omega, by omega⟩ ⟨by omega, by omega⟩, bd_some, f0] at ex
    rw [if_pos ey] at ec
    by_cases exx : 0 ≤ x ∧ x ≤ 4
    · rw [if_pos exx, if_neg (by decide)] at ex
      by_cases ef : 1 ≤ f ∧ f ≤ 8
      · rw [if_pos ef, if_neg (by decide)] at ex
        by_cases ev : 0 ≤ v ∧ v ≤ 1
        · rw [if_pos ev, if_neg (by decide)] at ex
          unfold x_X10_mean_b49 x_X10_mean_b73 at ex
          rw [m_may1 h0 (by decide), bd2_some, if_neg (by decide), m_lies hSM hS24 hk, bd_some] at ex
          simp (disch := omega) only [qeM] at ex
          rw [if_pos (show (0 ≤ x ∧ x ≤ 4) ∧ (1 ≤ f ∧ f ≤ 8) ∧ (0 ≤ v ∧ v ≤ 1) from ⟨exx, ef, ev⟩)] at ec
          by_cases el : skW s k = -1
          · rw [if_pos el, show x_X10_may 0 3 3 τ1 = some (0, refM τ1 3 3) from m_may0 (k := 3) h0 (by decide) (by omega), bd2_some, if_pos rfl] at ex
            rw [show (k : Int).toNat = k from rfl, if_pos el, bt_inr] at ec
            exact StT.ref h1 ec ex (by decide)
          · obtain ⟨lie, hlie⟩ := Int.eq_ofNat_of_zero_le (a := skW s k) (by omega)
            obtain ⟨t, rfl⟩ := Int.eq_ofNat_of_zero_le exx.1
            obtain ⟨ff, rfl⟩ := Int.eq_ofNat_of_zero_le (a := f) (by omega)
            have ht4 : t ≤ 4 := by omega
            have hf1 : 1 ≤ ff := by omega
            have hf8 : ff ≤ 8 := by omega
            obtain ⟨σ2, τ2, S, k1, k2, k3, k4, k5, k6, k7, k8, k9, k10, k11⟩ := both_rank h1 hk hlie (by omega) ht4 hf1 hf8
            have hj := h1.eq k3.1 k3.2
            have hj2 := hj
            obtain ⟨-, -, hC2, hM2, hSC2, hSM2, -, -, -⟩ := hj2
            have hwh := whole_ok hT (by omega) ht4
            have hsm := shN_small hT (tOwn T k) lie ht4
            have hle := smN_le (s := s) (f := ff) hf1 hsm S (tC T) hC8
            have hle2 : tC T * (4608 ^ 4 * 225) ≤ 8 * (4608 ^ 4 * 225) := Nat.mul_le_mul_right _ hC8
            have hb2 : (4608 : Nat) ^ 4 = 450868486864896 := by decide
            have hb3 : (2 : Nat) ^ 40 = 1099511627776 := by decide
            obtain ⟨a, b, m1⟩ := m_shared (w := iI v) hT hM2 hSM2 k9 hf1 hf8 k5 k7
            rw [if_neg el, m_may1 h0 (by decide), bd2_some, if_neg (by decide), k2, bd_some, m1, bd3_some, k11, m_frac (by omega) (by omega) hwh.1, bd_some] at ex
            rw [show (k : Int).toNat = k from rfl, if_neg el, bt_inl, k1, bd_some, c_shared hT hC2 hs hSC2 k8 hf1 hf8 k5 k6, bd_some, k10, c_least (by omega) hwh.2 hwh.1, bd_some] at ec
            exact StT.inl ec ex (k4.trans h0) ⟨T, s, n, ims, hj⟩
        · rw [if_neg ev, if_pos rfl] at ex
          rw [if_neg (fun q => ev q.2.2), bt_inr] at ec
          exact StT.ref h1 ec ex (by decide)
      · rw [if_neg ef, if_pos rfl] at ex
        rw [if_neg (fun q => ef q.2.1), bt_inr] at ec
        exact StT.ref h1 ec ex (by decide)
    · rw [if_neg exx, if_pos rfl] at ex
      rw [if_neg (fun q => exx q.1), bt_inr] at ec
      exact StT.ref h1 ec ex (by decide)
  · rw [if_neg ey, bd2_some, if_pos rfl] at ex
    rw [if_neg ey, bt_inr] at ec
    exact StT.ref h1 ec ex (by decide)
