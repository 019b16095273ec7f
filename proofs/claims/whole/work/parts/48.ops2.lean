/-! the calls, one by one: those that tell, on -/
/-- how a sleeve stands: as the document's KIND -/
def kindN (T : Td) (s : Sk) (k : Nat) : Nat := if skW s k = -1 then 4 else if skD s k = k then (if offN T s k ≤ 2 then offN T s k else 2) else 3
theorem offN_le {T : Td} {s : Sk} (hT : TdOk T) (hs : SkOk (tC T) (tS T) s) {k : Nat} (hk : k < tS T) : offN T s k ≤ 8 := by
  have := hs.wb hT.1 (k := k) (by have := hT.2.1; omega)
  have := tOwn_lt hT hk
  have := hT.1
  unfold offN
  split <;> omega
theorem c_kindOf {σ : St} {T : Td} {s : Sk} (h : SkC σ 0 s) (hs : SkOk (tC T) (tS T) s) (hT : TdOk T) (hC : TdC 0 σ T) {k : Nat} (hk : k < tS T) : x_X9_kindOf (iI k) σ = some (iI (kindN T s k)) := by
  have h24 := hT.2.1
  have ho := offN_le hT hs hk
  unfold x_X9_kindOf kindN
  rw [c_lies (by omega) h hs hT.1 (by omega), bd_some]
  by_cases e : skW s k = -1
  · rw [if_pos e, if_pos e, if_pos rfl]; rfl
  · rw [if_neg e, if_neg e, if_neg (by decide), f_at, atF_in (show k < lenN 17 from (show k < 24 by omega)) (by decide), show gA σ 17 k = _ from h.2.2.1 k (by omega), bd_some]
    have hd := hs.2.2.2.1.1 k (by omega)
    simp (disch := omega) only [iI_eqD]
    by_cases e2 : skD s k = k
    · rw [if_pos (by omega), if_pos e2, c_offOwn (by omega) h hs hT hC hk, bd_some]
      unfold mnI
      simp (disch := omega) only [ql2]
      by_cases e3 : offN T s k ≤ 2
      · rw [if_pos e3]
        by_cases e4 : offN T s k = 2
        · rw [if_neg (by omega), e4]; rfl
        · rw [if_pos (by omega)]
      · rw [if_neg e3, if_neg (by omega)]; rfl
    · rw [if_neg (by omega), if_neg e2]; rfl
theorem m_kindOf {τ : St} {T : Td} {s : Sk} (h : SkM τ (tS T) s) (hs : SkOk (tC T) (tS T) s) (hT : TdOk T) (hM : TdM 0 τ T) {k : Nat} (hk : k < tS T) : x_X10_kindOf (iI k) τ = some (iI (kindN T s k)) := by
  have h24 := hT.2.1
  have ho := offN_le hT hs hk
  have hw := hs.wb hT.1 (k := k) (by omega)
  unfold x_X10_kindOf kindN
  rw [m_lies h h24 hk, bd_some]
  simp (disch := omega) only [qeM]
  by_cases e : skW s k = -1
  · rw [if_pos e, if_pos e]; rfl
  · rw [if_neg e, if_neg e, ldI_in (show k < lenM 8 from (show k < 24 by omega)) (by decide), bd_some, h.2.2.1 k hk]
    have hd := hs.2.2.2.1.1 k (by omega)
    simp (disch := omega) only [iI_eqD]
    by_cases e2 : skD s k = k
    · rw [if_pos (by omega), if_pos e2, m_away hM hT h hs hk e, bd_some]
      simp (disch := omega) only [qm2]
      by_cases e3 : offN T s k ≤ 2
      · rw [if_pos e3, if_pos (by omega)]
      · rw [if_neg e3, if_neg (by omega)]; rfl
    · rw [if_neg (by omega), if_neg e2]; rfl
theorem op_sleeve {σ τ : St} (h : Inv σ τ) (p1 p2 : Int32) : StT [(2, 1), (3, 2)] (x_X9_sleeve p1 p2 σ) (x_X10_sleeve p1 p2 τ) := by
  obtain ⟨T, s, n, ims, h⟩ := h
  obtain ⟨z, hz, rfl⟩ := ex_iI p1
  obtain ⟨y, hy, rfl⟩ := ex_iI p2
  obtain ⟨τ1, e1, h0, h1⟩ := h.st
  have hi : Inv σ τ1 := ⟨T, s, n, ims, h1⟩
  have hh := h1
  obtain ⟨hT, hs, hC, hM, hSC, hSM, hB, hI, hb⟩ := hh
  have hC8 := hT.1
  have hS24 := hT.2.1
  have hL6 := hT.2.2.1
  obtain ⟨y1, y2⟩ := hy
  have ex : x_X10_sleeve (iI z) (iI y) τ = x_X10_sleeve (iI z) (iI y) τ := rfl
  have ec : x_X9_sleeve (iI z) (iI y) σ = x_X9_sleeve (iI z) (iI y) σ := rfl
  conv at ex => rhs; unfold x_X10_sleeve
  conv at ec => rhs; unfold x_X9_sleeve x_X9_sleeve_b20 x_X9_sleeve_b21
  rw [bd_some, e1, m_isSleeve hM hT h0 hz (by decide)] at ex
  rw [c_needSleeve hC hT hz] at ec
  simp (disch := omega) only [qM3, qe3, qe4, qe5] at ex
  simp (disch := omega) only [ql0, qg6, qe4, qe5, qe6] at ec
  by_cases e : 0 ≤ z ∧ z < tS T
  · rw [if_pos e, bd2_some, if_neg (by decide), m_wn 0 6 0 6 rfl rfl ⟨y1, y2⟩ ⟨by omega, by omega⟩ ⟨by omega, by omega⟩, bd_some] at ex
    rw [if_pos e, bt_inl] at ec
    obtain ⟨k, rfl⟩ := Int.eq_ofNat_of_zero_le e.1
    have hk : k < tS T := by omega
    have hw := hs.wb hC8 (k := k) (by omega)
    by_cases e2 : 0 ≤ y ∧ y ≤ 6
    · rw [if_pos e2, m_may1 h0 (by decide), bd2_some, if_neg (by decide)] at ex
      rw [if_neg (by omega), if_neg (by omega), c_need1 (by decide), bt_inl] at ec
      by_cases c3 : 3 ≤ y
      · rw [if_pos c3] at ex
        by_cases c4 : y = 3
        · rw [if_pos c4, m_own hM hT hk, bd_some] at ex
          rw [if_neg (by omega), if_neg (by omega), if_neg (by omega), c4, show iI 3 = (3 : Int32) from rfl, c_own (by omega) hC hT hk, bd_some] at ec
          rw [c4] at ex ⊢
          exact StT.inl ec ex h0 hi
        · rw [if_neg c4] at ex
          by_cases c5 : y = 4
          · rw [if_pos c5, m_lies hSM hS24 hk, bd_some] at ex
            rw [if_pos c5, c_where (t := 0) (by omega) hSC (by omega), bd_some] at ec
            exact StT.inl ec ex h0 hi
          · rw [if_neg c5] at ex ec
            by_cases c6 : y = 5
            · rw [if_pos c6, ldI_in (show k < lenM 8 from (show k < 24 by omega)) (by decide), bd_some, hSM.2.2.1 k hk] at ex
              rw [if_pos c6, f_at, atF_in (show k < lenN 17 from (show k < 24 by omega)) (by decide), show gA σ 17 k = _ from hSC.2.2.1 k (by omega), bd_some] at ec
              exact StT.inl ec ex h0 hi
            · rw [if_neg c6] at ex ec
              rw [m_kindOf hSM hs hT hM hk, bd_some] at ex
              rw [if_pos (by omega), c_kindOf hSC hs hT hC hk, bd_some] at ec
              exact StT.inl ec ex h0 hi
      · rw [if_neg c3] at ex
        obtain ⟨w, rfl⟩ := Int.eq_ofNat_of_zero_le e2.1
        have hw3 : w < 3 := by omega
        rw [if_neg (by omega), if_neg (by omega), if_neg (by omega), c_ofSleeve (by omega) hC hT hk hw3, bd_some] at ec
        rw [qy3, iI_add, show (3 : Int) * k + w = ((3 * k + w : Nat) : Int) from by omega, ldI_in (show 3 * k + w < lenM 3 from (show _ < 72 by omega)) (by decide), bd_some, show gA τ1 3 (3 * k + w) = _ from hM.2.2.2.2.2.1 k w hk hw3] at ex
        exact StT.inl ec ex h0 hi
    · rw [if_neg e2, show x_X10_may 0 2 2 τ1 = some (0, refM τ1 2 2) from m_may0 (k := 2) h0 (by decide) (by omega), bd2_some, if_pos rfl] at ex
      by_cases c0 : y < 0
      · rw [if_pos c0, c_need0, bt_inr] at ec
        exact StT.ref h1 ec ex (List.mem_cons_of_mem _ List.mem_cons_self)
      · rw [if_neg c0, if_pos (by omega), c_need0, bt_inr] at ec
        exact StT.ref h1 ec ex (List.mem_cons_of_mem _ List.mem_cons_self)
  · rw [if_neg e, bd2_some, if_pos rfl] at ex
    rw [if_neg e, bt_inr] at ec
    exact StT.ref h1 ec ex List.mem_cons_self
theorem op_looker {σ τ : St} (h : Inv σ τ) (p1 p2 : Int32) : StT [(2, 1), (3, 2)] (x_X9_looker p1 p2 σ) (x_X10_looker p1 p2 τ) := by
  obtain ⟨T, s, n, ims, h⟩ := h
  obtain ⟨z, hz, rfl⟩ := ex_iI p1
  obtain ⟨y, hy, rfl⟩ := ex_iI p2
  obtain ⟨τ1, e1, h0, h1⟩ := h.st
  have hi : Inv σ τ1 := ⟨T, s, n, ims, h1⟩
  have hh := h1
  obtain ⟨hT, hs, hC, hM, hSC, hSM, hB, hI, hb⟩ := hh
  have hC8 := hT.1
  have hS24 := hT.2.1
  have hL6 := hT.2.2.1
  obtain ⟨y1, y2⟩ := hy
  have ex : x_X10_looker (iI z) (iI y) τ = x_X10_looker (iI z) (iI y) τ := rfl
  have ec : x_X9_looker (iI z) (iI y) σ = x_X9_looker (iI z) (iI y) σ := rfl
  conv at ex => rhs; unfold x_X10_looker
  conv at ec => rhs; unfold x_X9_looker x_X9_looker_b20 x_X9_looker_b21
  rw [bd_some, e1, m_isLooker hM hT h0 hz (by decide)] at ex
  rw [c_needLooker hC hT hz] at ec
  simp (disch := omega) only [ql0, qM6] at ec
  by_cases e : 0 ≤ z ∧ z < tL T
  · rw [if_pos e, bd2_some, if_neg (by decide), m_wn 0 5 0 5 rfl rfl ⟨y1, y2⟩ ⟨by omega, by omega⟩ ⟨by omega, by omega⟩, bd_some] at ex
    rw [if_pos e, bt_inl] at ec
    obtain ⟨k, rfl⟩ := Int.eq_ofNat_of_zero_le e.1
    have hk : k < tL T := by omega
    by_cases e2 : 0 ≤ y ∧ y ≤ 5
    · obtain ⟨w, rfl⟩ := Int.eq_ofNat_of_zero_le e2.1
      have hw6 : w < 6 := by omega
      rw [if_pos e2, m_may1 h0 (by decide), bd2_some, if_neg (by decide), qy6, iI_add, show (6 : Int) * k + w = ((6 * k + w : Nat) : Int) from by omega, ldI_in (show 6 * k + w < lenM 4 from (show _ < 36 by omega)) (by decide), bd_some, show gA τ1 4 (6 * k + w) = _ from hM.2.2.2.2.2.2.1 k w hk hw6] at ex
      rw [if_neg (by omega), if_neg (by omega), c_need1 (by decide), bt_inl, c_ofLooker (by omega) hC hT hk hw6, bd_some] at ec
      exact StT.inl ec ex h0 hi
    · rw [if_neg e2, show x_X10_may 0 2 2 τ1 = some (0, refM τ1 2 2) from m_may0 (k := 2) h0 (by decide) (by omega), bd2_some, if_pos rfl] at ex
      by_cases c0 : y < 0
      · rw [if_pos c0, c_need0, bt_inr] at ec
        exact StT.ref h1 ec ex (List.mem_cons_of_mem _ List.mem_cons_self)
      · rw [if_neg c0, if_pos (by omega), c_need0, bt_inr] at ec
        exact StT.ref h1 ec ex (List.mem_cons_of_mem _ List.mem_cons_self)
  · rw [if_neg e, bd2_some, if_pos rfl] at ex
    rw [if_neg e, bt_inr] at ec
    exact StT.ref h1 ec ex List.mem_cons_self
theorem c_isPace {z : Int} (hz : ok32 z) : x_X9_isPace (iI z) = some (if 1 ≤ z ∧ z ≤ 8 then 1 else 0) := by
  obtain ⟨z1, z2⟩ := hz
  unfold x_X9_isPace
  simp (disch := omega) only [ql1, qg8]
  by_cases c1 : z < 1
  · rw [if_pos c1, if_neg (by omega)]
  · rw [if_neg c1]
    by_cases c2 : 8 < z
    · rw [if_pos c2, if_neg (by omega)]
    · rw [if_neg c2, if_pos (by omega)]
theorem op_missed {σ τ : St} (h : Inv σ τ) (p1 : Int32) : StT [(3, 1)] (x_X9_missed p1 σ) (x_X10_missed p1 τ) := by
  obtain ⟨T, s, n, ims, h⟩ := h
  obtain ⟨z, hz, rfl⟩ := ex_iI p1
  obtain ⟨τ1, e1, h0, h1⟩ := h.st
  have hi : Inv σ τ1 := ⟨T, s, n, ims, h1⟩
  have hh := h1
  obtain ⟨hT, hs, hC, hM, hSC, hSM, hB, hI, hb⟩ := hh
  have hC8 := hT.1
  have hS24 := hT.2.1
  have hL6 := hT.2.2.1
  have ex : x_X10_missed (iI z) τ = x_X10_missed (iI z) τ := rfl
  have ec : x_X9_missed (iI z) σ = x_X9_missed (iI z) σ := rfl
  conv at ex => rhs; unfold x_X10_missed
  conv at ec => rhs; unfold x_X9_missed
  rw [bd_some, e1, m_wn 1 8 1 8 rfl rfl hz ⟨by omega, by omega⟩ ⟨by omega, by omega⟩, bd_some] at ex
  rw [c_isPace hz, bd_some] at ec
  by_cases e : 1 ≤ z ∧ z ≤ 8
  · obtain ⟨f, rfl⟩ := Int.eq_ofNat_of_zero_le (a := z) (by omega)
    rw [if_pos e, m_may1 h0 (by decide), bd2_some, if_neg (by decide), ldI_in (show f < lenM 5 from (show f < 9 by omega)) (by decide), bd_some, show gA τ1 5 f = _ from hM.2.2.2.2.2.2.2.1 f (by omega) (by omega)] at ex
    rw [if_pos e, c_need1 (by decide), bt_inl, f_at, atF_in (show f < lenN 6 from (show f < 9 by omega)) (by decide), bd_some, show gA σ 6 f = _ from hC.2.2.2.2.2.2.2.2.1 f (by omega) (by omega)] at ec
    exact StT.inl ec ex h0 hi
  · rw [if_neg e, show x_X10_may 0 1 2 τ1 = some (0, refM τ1 1 2) from m_may0 (k := 2) h0 (by decide) (by omega), bd2_some, if_pos rfl] at ex
    rw [if_neg e, c_need0, bt_inr] at ec
    exact StT.ref h1 ec ex List.mem_cons_self
theorem op_fault {σ τ : St} (h : Inv σ τ) : StR σ (x_X9_fault σ) (x_X10_fault τ) := by
  obtain ⟨T, s, n, ims, h⟩ := h
  obtain ⟨τ1, e1, h0, h1⟩ := h.st
  have hi : Inv σ τ1 := ⟨T, s, n, ims, h1⟩
  have hh := h1
  obtain ⟨hT, hs, hC, hM, hSC, hSM, hB, hI, hb⟩ := hh
  have hC8 := hT.1
  have hS24 := hT.2.1
  have hL6 := hT.2.2.1
  refine ⟨gI σ 9, τ1, rfl, ?_, hi⟩
  unfold x_X10_fault
  rw [bd_some, e1, hB.2.2.2.2.1]
theorem op_status {σ τ : St} (h : Inv σ τ) (p1 : Int32) : StR σ (x_X9_status p1 σ) (x_X10_status p1 τ) := by
  obtain ⟨T, s, n, ims, h⟩ := h
  obtain ⟨z, hz, rfl⟩ := ex_iI p1
  obtain ⟨τ1, e1, h0, h1⟩ := h.st
  have hi : Inv σ τ1 := ⟨T, s, n, ims, h1⟩
  have hh := h1
  obtain ⟨hT, hs, hC, hM, hSC, hSM, hB, hI, hb⟩ := hh
  have hC8 := hT.1
  have hS24 := hT.2.1
  have hL6 := hT.2.2.1
  unfold x_X9_status x_X10_status
  rw [bd_some, e1, m_wn 0 3 0 3 rfl rfl hz ⟨by omega, by omega⟩ ⟨by omega, by omega⟩, bd_some]
  obtain ⟨z1, z2⟩ := hz
  simp (disch := omega) only [ql0, qM4]
  by_cases e : 0 ≤ z ∧ z ≤ 3
  · obtain ⟨k, rfl⟩ := Int.eq_ofNat_of_zero_le e.1
    have hk : k < 4 := by omega
    rw [if_pos e, if_neg (by omega), if_neg (by omega), if_neg (by decide), f_at, bd_some, atF_in (show k < lenN 35 from hk) (by decide), ldI_in (show k < lenM 0 from hk) (by decide), bd_some, hB.2.2.2.2.2 k hk]
    exact ⟨_, _, rfl, rfl, hi⟩
  · rw [if_neg e]
    by_cases c0 : z < 0
    · rw [if_pos c0]; exact ⟨_, _, rfl, rfl, hi⟩
    · rw [if_neg c0, if_pos (by omega)]; exact ⟨_, _, rfl, rfl, hi⟩
theorem op_off {σ τ : St} (h : Inv σ τ) : StR σ (x_X9_off σ) (x_X10_off τ) := by
  obtain ⟨T, s, n, ims, h⟩ := h
  obtain ⟨τ1, e1, h0, h1⟩ := h.st
  have hi : Inv σ τ1 := ⟨T, s, n, ims, h1⟩
  have hh := h1
  obtain ⟨hT, hs, hC, hM, hSC, hSM, hB, hI, hb⟩ := hh
  have hC8 := hT.1
  have hS24 := hT.2.1
  have hL6 := hT.2.2.1
  unfold x_X9_off x_X10_off
  rw [bd_some, e1, m_offAll hM hT hSM hs, c_allOff (by omega) hSC hs hT hC, bd_some]
  exact ⟨_, _, rfl, rfl, hi⟩
theorem op_divider {σ τ : St} (h : Inv σ τ) (p1 : Int32) : StR σ (x_X9_divider p1 σ) (x_X10_divider p1 τ) := by
  obtain ⟨T, s, n, ims, h⟩ := h
  obtain ⟨z, hz, rfl⟩ := ex_iI p1
  obtain ⟨τ1, e1, h0, h1⟩ := h.st
  have hi : Inv σ τ1 := ⟨T, s, n, ims, h1⟩
  have hh := h1
  obtain ⟨hT, hs, hC, hM, hSC, hSM, hB, hI, hb⟩ := hh
  have hC8 := hT.1
  have hS24 := hT.2.1
  have hL6 := hT.2.2.1
  unfold x_X9_divider x_X10_divider
  rw [bd_some, e1, show gI τ1 8 = iI (tC T) from hM.1, qs1, m_wn 0 _ 0 _ rfl rfl hz ⟨by omega, by omega⟩ ⟨by omega, by omega⟩, bd_some, c_hasCrate hz hC.1 (by omega), bd_some]
  by_cases e : 0 ≤ z ∧ z < tC T
  · obtain ⟨k, rfl⟩ := Int.eq_ofNat_of_zero_le e.1
    have hk : k < 8 := by omega
    rw [if_pos e, if_pos (show 0 ≤ (k : Int) ∧ (k : Int) ≤ (tC T : Int) - 1 by omega), if_neg (by decide), if_neg (by decide), f_at, bd_some, atF_in (show k < lenN 18 from hk) (by decide), ldI_in (show k < lenM 18 from hk) (by decide), bd_some, hSM.2.2.2 k hk, show gA σ 18 k = _ from hSC.2.2.2 k hk]
    exact ⟨_, _, rfl, rfl, hi⟩
  · rw [if_neg e, if_neg (show ¬ (0 ≤ z ∧ z ≤ (tC T : Int) - 1) by omega), if_pos rfl, if_pos rfl]
    exact ⟨_, _, rfl, rfl, hi⟩
/-- how many are sold -/
def soldN (s : Sk) : Nat → Nat := sumN (fun k => if skW s k = -1 then 1 else 0)
theorem c_sold {σ : St} {T : Td} {s : Sk} (h : SkC σ 0 s) (hs : SkOk (tC T) (tS T) s) (hT : TdOk T) : x_X5_sold 0 (iI (tS T)) σ = some (iI (soldN s (tS T))) := by
  have h24 := hT.2.1
  have key := lp_run (f := fun w : Int32 × Int32 => x_X5_sold_L4 0 (iI (tS T)) σ w.1 w.2) (fun i => (iI (soldN s i : Nat), iI ((i : Nat) : Int))) (w := (iI (soldN s (tS T) : Nat), iI ((tS T : Nat) : Int))) (tS T) FU (by unfold FU; omega) (fun i hi => ?_) ?_
  · unfold x_X5_sold
    show bd2 (lp _ FU (iI (soldN s 0 : Nat), iI ((0 : Nat) : Int))) _ = _
    rw [key]; rfl
  · unfold x_X5_sold_L4
    simp (disch := omega) only [iI_leD]
    rw [if_neg (by omega), c_lies (by omega) h hs hT.1 (by omega), bd_some, qa1, qa1]
    show _ = some (true, (iI (soldN s i + (if skW s i = -1 then 1 else 0) : Nat), _))
    by_cases e : skW s i = -1
    · rw [if_pos e, if_pos e, if_pos rfl]; rfl
    · rw [if_neg e, if_neg e, if_neg (by decide)]; rfl
  · unfold x_X5_sold_L4
    simp (disch := omega) only [iI_leD]
    rw [if_pos (by omega)]
theorem op_count {σ τ : St} (h : Inv σ τ) (p1 : Int32) : StR σ (x_X9_count p1 σ) (x_X10_count p1 τ) := by
  obtain ⟨T, s, n, ims, h⟩ := h
  obtain ⟨z, hz, rfl⟩ := ex_iI p1
  obtain ⟨τ1, e1, h0, h1⟩ := h.st
  have hi : Inv σ τ1 := ⟨T, s, n, ims, h1⟩
  have hh := h1
  obtain ⟨hT, hs, hC, hM, hSC, hSM, hB, hI, hb⟩ := hh
  have hC8 := hT.1
  have hS24 := hT.2.1
  have hL6 := hT.2.2.1
  obtain ⟨z1, z2⟩ := hz
  have key := lp_run (f := fun w : Int32 × Int32 => x_X10_count_L9 (iI z) τ1 w.1 w.2) (fun i => (iI (soldN s i : Nat), iI ((i : Nat) : Int))) (w := (iI (soldN s (tS T) : Nat), iI ((tS T : Nat) : Int))) (tS T) FU (by unfold FU; omega) (fun i hi => ?_) ?_
  · unfold x_X9_count x_X10_count
    rw [bd_some, e1]
    show StR σ _ (bd2 (lp _ FU (iI (soldN s 0 : Nat), iI ((0 : Nat) : Int))) _)
    rw [key, bd2_some, show gI σ 1 = iI (tS T) from hC.2.1, c_sold hSC hs hT, bd_some, hB.2.1, hB.2.2.1, hI.2.1, hI.2.2.1]
    by_cases c0 : iI z = 0
    · rw [if_pos c0, if_pos c0]; exact ⟨_, _, rfl, rfl, hi⟩
    · rw [if_neg c0, if_neg c0]
      by_cases c1 : iI z = 1
      · rw [if_pos c1, if_pos c1]; exact ⟨_, _, rfl, rfl, hi⟩
      · rw [if_neg c1, if_neg c1]
        by_cases c2 : iI z = 2
        · rw [if_pos c2, if_pos c2]; exact ⟨_, _, rfl, rfl, hi⟩
        · rw [if_neg c2, if_neg c2]; exact ⟨_, _, rfl, rfl, hi⟩
  · have hw := hs.wb hC8 (k := i) (by omega)
    unfold x_X10_count_L9
    rw [show gI τ1 9 = iI (tS T) from hM.2.1]
    simp (disch := omega) only [iI_leD]
    rw [if_neg (by omega), m_lies hSM hS24 hi, bd_some, qa1, qa1]
    simp (disch := omega) only [qeM]
    show _ = some (true, (iI (soldN s i + (if skW s i = -1 then 1 else 0) : Nat), _))
    by_cases e : skW s i = -1
    · rw [if_pos e, if_pos e]; rfl
    · rw [if_neg e, if_neg e, qa0]
      show some (true, (iI ((soldN s i : Int) + 0), _)) = _
      rfl
  · unfold x_X10_count_L9
    rw [show gI τ1 9 = iI (tS T) from hM.2.1]
    simp (disch := omega) only [iI_leD]
    rw [if_pos (by omega)]
