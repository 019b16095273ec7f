/-! a day: draws, and where one is put back -/
theorem bv_16 (v : BitVec 32) : (v >>> 16) &&& 32767#32 = (v.sshiftRight 16) &&& 32767#32 := by
  have h15 : ∀ i, i < 32 → (32767#32).getLsbD i = decide (i < 15) := by decide
  refine BitVec.eq_of_getLsbD_eq (fun i hi => ?_)
  rw [BitVec.getLsbD_and, BitVec.getLsbD_and, h15 i hi, BitVec.getLsbD_ushiftRight, BitVec.getLsbD_sshiftRight]
  by_cases h8 : i < 15
  · rw [if_pos (show 16 + i < 32 by omega), decide_eq_false (show ¬ 32 ≤ i by omega), Bool.not_false, Bool.true_and]
  · rw [decide_eq_false h8, Bool.and_false, Bool.and_false]
theorem draw_bits (x : Int32) : ((usI x 16) &&& (32767 : Int32) = (x >>> ((16 : Int32) &&& 31)) &&& (32767 : Int32)) ∧ ∃ r : Nat, r < 32768 ∧ (x >>> ((16 : Int32) &&& 31)) &&& (32767 : Int32) = iI (r : Int) := by
  refine ⟨Int32.toBitVec.inj (bv_16 x.toBitVec), ((x >>> ((16 : Int32) &&& 31)) &&& (32767 : Int32)).toBitVec.toNat, ?_, ?_⟩
  · rw [Int32.toBitVec_and, BitVec.toNat_and]
    exact Nat.lt_of_le_of_lt Nat.and_le_right (by decide)
  · refine Int32.toBitVec.inj ?_
    rw [← iI_nat]
    show _ = BitVec.ofNat 32 _
    rw [BitVec.ofNat_toNat, BitVec.setWidth_eq]
/-- the next seed -/
def nsd (x : Int32) : Int32 := x * 1103515245 + 12345
theorem both_draw {σ τ : St} {n : Nat} (h1 : 1 ≤ n) (h2 : n < 1000) (hs : gI σ 21 = gI τ 16) : ∃ r : Nat, r < n ∧ x_X1_draw (iI n) σ = some (iI (r : Int), sI σ 21 (nsd (gI σ 21))) ∧ x_X10_draw (iI n) τ = some (iI (r : Int), sI τ 16 (nsd (gI σ 21))) := by
  obtain ⟨e1, r, hr, e2⟩ := draw_bits (nsd (gI σ 21))
  refine ⟨r % n, Nat.mod_lt _ (by omega), ?_, ?_⟩
  · unfold x_X1_draw
    rw [bd_some]
    simp (disch := omega) only [qm0]
    rw [if_neg (by omega), gI_sI]
    show bd (rmI (usI (nsd (gI σ 21)) 16 &&& 32767) (iI n)) _ = _
    rw [e1, e2, rmN (by omega) (by omega) (by omega), bd_some]
    rfl
  · unfold x_X10_draw
    rw [bd_some, gI_sI, ← hs]
    show bd (rmI ((nsd (gI σ 21) >>> (16 &&& 31)) &&& 32767) (iI n)) _ = _
    rw [e2, rmN (by omega) (by omega) (by omega), bd_some]
    rfl
theorem put_beside {σ τ : St} {T : Td} (hT : TdOk T) (hC : TdC 0 σ T) (hM : TdM 0 τ T) {c : Nat} (hc : c < tC T) {z : Int} (z1 : -2 ≤ z) (z2 : z ≤ 10) : ∃ c2 : Nat, c2 < tC T ∧ x_X1_drawnCrate_b83 (iI c) (iI z) σ = some (iI (c2 : Int), σ) ∧ x_X10_putFrom_b59 (iI c) (iI z) τ = some (iI (c2 : Int), τ) := by
  have hC8 := hT.1
  unfold x_X1_drawnCrate_b83 x_X10_putFrom_b59
  rw [c_hasCrate ⟨by omega, by omega⟩ hC.1 (by omega), bd_some, show gI τ 8 = iI (tC T) from hM.1, qs1, m_wn 0 _ 0 _ rfl rfl ⟨by omega, by omega⟩ ⟨by omega, by omega⟩ ⟨by omega, by omega⟩, bd_some]
  by_cases q : 0 ≤ z ∧ z < tC T
  · obtain ⟨c2, rfl⟩ := Int.eq_ofNat_of_zero_le q.1
    rw [if_pos q, if_pos (show 0 ≤ (c2 : Int) ∧ (c2 : Int) ≤ (tC T : Int) - 1 by omega), if_neg (by decide), if_neg (by decide)]
    exact ⟨c2, by omega, rfl, rfl⟩
  · rw [if_neg q, if_neg (show ¬ (0 ≤ z ∧ z ≤ (tC T : Int) - 1) by omega), if_pos rfl, if_pos rfl]
    exact ⟨c, hc, rfl, rfl⟩
theorem c_wsum {σ : St} {T : Td} (hT : TdOk T) (hC : TdC 0 σ T) : x_X2_sum 7 σ = some (iI (wSum T : Nat)) := by
  have e : ∀ i, i < 4 → gA σ 7 i = iI (wN T i : Nat) := fun i hi => by
    rw [← (wN_eq hT hi).1]; exact hC.2.2.2.2.2.2.2.2.2 i hi
  rw [f_sum]
  show some ((((0 + gA σ 7 0) + gA σ 7 1) + gA σ 7 2) + gA σ 7 3) = _
  rw [e 0 (by omega), e 1 (by omega), e 2 (by omega), e 3 (by omega), i0, iI_add, iI_add, iI_add, iI_add]
  congr 2
  unfold wSum
  omega
theorem m_wsum {τ : St} {T : Td} (hT : TdOk T) (hM : TdM 0 τ T) : x_X10_weights τ = some (iI (wSum T : Nat)) := by
  unfold x_X10_weights
  rw [show (0 : Int32) = iI ((0 : Nat) : Int) from rfl, m_weight hM hT (by omega), bd_some, show (1 : Int32) = iI ((1 : Nat) : Int) from rfl, m_weight hM hT (by omega), bd_some, show (2 : Int32) = iI ((2 : Nat) : Int) from rfl, m_weight hM hT (by omega), bd_some, show (3 : Int32) = iI ((3 : Nat) : Int) from rfl, m_weight hM hT (by omega), bd_some, iI_add, iI_add, iI_add]
  rfl
theorem both_put {σ τ : St} {T : Td} (hT : TdOk T) (hC : TdC 0 σ T) (hM : TdM 0 τ T) (hs : gI σ 21 = gI τ 16) {k c : Nat} (hk : k < tS T) (hc : c < tC T) : ∃ (c2 : Nat) (v : Int32), c2 < tC T ∧ x_X1_drawnCrate (iI k) (iI c) σ = some (iI (c2 : Int), sI σ 21 v) ∧ x_X10_putFrom (iI c) (iI k) τ = some (iI (c2 : Int), sI τ 16 v) := by
  have hC8 := hT.1
  have hW := wSum_ok hT
  have ho := tOwn_lt hT hk
  have w0 := (wN_eq hT (i := 0) (by omega)).2
  have w1 := (wN_eq hT (i := 1) (by omega)).2
  have w2 := (wN_eq hT (i := 2) (by omega)).2
  have w3 := (wN_eq hT (i := 3) (by omega)).2
  obtain ⟨r, hr, d1, d2⟩ := both_draw (n := wSum T) hW.1 (by omega) hs
  generalize nsd (gI σ 21) = v1 at d1 d2
  have hC1 : TdC 0 (sI σ 21 v1) T := hC.eq (fun j _ _ => gI_sIn _ (by omega) _) (fun j _ _ => rfl)
  have hM1 : TdM 0 (sI τ 16 v1) T := hM.eq (fun j _ _ => gI_sIn _ (by omega) _) (fun j _ _ => rfl)
  have hs1 : gI (sI σ 21 v1) 21 = gI (sI τ 16 v1) 16 := by rw [gI_sI, gI_sI]
  have back1 : ∀ v, sI (sI σ 21 v1) 21 v = sI σ 21 v := fun v => sI_sI _ _ _ _
  have back2 : ∀ v, sI (sI τ 16 v1) 16 v = sI τ 16 v := fun v => sI_sI _ _ _ _
  have ex1 : ∃ v, sI σ 21 v1 = sI σ 21 v ∧ sI τ 16 v1 = sI τ 16 v := ⟨v1, rfl, rfl⟩
  generalize sI σ 21 v1 = σ1 at d1 hC1 hs1 back1 ex1
  generalize sI τ 16 v1 = τ1 at d2 hM1 hs1 back2 ex1
  obtain ⟨v0, x1, x2⟩ := ex1
  have c0 : x_X2_at 7 (iI ((0 : Nat) : Int)) σ1 = some (iI (wN T 0 : Nat)) := c_weight (i := 0) hC1 hT (by omega)
  have c1 : x_X2_at 7 (iI ((1 : Nat) : Int)) σ1 = some (iI (wN T 1 : Nat)) := c_weight (i := 1) hC1 hT (by omega)
  have c2 : x_X2_at 7 (iI ((2 : Nat) : Int)) σ1 = some (iI (wN T 2 : Nat)) := c_weight (i := 2) hC1 hT (by omega)
  have m0 : ldI (gA τ1 6) (lenM 6) (iI ((0 : Nat) : Int)) = some (iI (wN T 0 : Nat)) := m_weight (i := 0) hM1 hT (by omega)
  have m1 : ldI (gA τ1 6) (lenM 6) (iI ((1 : Nat) : Int)) = some (iI (wN T 1 : Nat)) := m_weight (i := 1) hM1 hT (by omega)
  have m2 : ldI (gA τ1 6) (lenM 6) (iI ((2 : Nat) : Int)) = some (iI (wN T 2 : Nat)) := m_weight (i := 2) hM1 hT (by omega)
  have ec : x_X1_drawnCrate (iI k) (iI c) σ = x_X1_drawnCrate (iI k) (iI c) σ := rfl
  have em : x_X10_putFrom (iI c) (iI k) τ = x_X10_putFrom (iI c) (iI k) τ := rfl
  conv at ec => rhs; unfold x_X1_drawnCrate
  conv at em => rhs; unfold x_X10_putFrom
  rw [c_wsum hT hC, bd_some, d1, bd2_some, show x_X2_at 7 0 σ1 = _ from c0, bd_some, show x_X2_at 7 1 σ1 = _ from c1, bd_some, show x_X2_at 7 2 σ1 = _ from c2, bd_some, iI_add, iI_add] at ec
  rw [m_wsum hT hM, bd_some, d2, bd2_some, show ldI (gA τ1 6) (lenM 6) 0 = _ from m0, bd_some, bd_some, show ldI (gA τ1 6) (lenM 6) 1 = _ from m1, bd_some, bd_some, bd_some, show ldI (gA τ1 6) (lenM 6) 2 = _ from m2, bd_some, iI_add, iI_add] at em
  simp (disch := omega) only [iI_leD] at ec em
  by_cases q0 : (wN T 0 : Int) ≤ r
  · rw [if_pos q0] at ec em
    by_cases q1 : (wN T 0 : Int) + wN T 1 ≤ r
    · rw [if_pos q1] at ec em
      by_cases q2 : (wN T 0 : Int) + wN T 1 + wN T 2 ≤ r
      · rw [if_pos q2] at ec em
        obtain ⟨r2, hr2, d3, d4⟩ := both_draw (n := tC T) (by omega) (by omega) hs1
        generalize nsd (gI σ1 21) = v2 at d3 d4
        rw [show gI σ1 0 = iI (tC T) from hC1.1, d3, bd2_some, back1] at ec
        rw [show gI τ1 8 = iI (tC T) from hM1.1, d4, bd2_some, back2] at em
        exact ⟨r2, _, hr2, ec, em⟩
      · rw [if_neg q2, x1] at ec
        rw [if_neg q2, x2] at em
        exact ⟨c, _, hc, ec, em⟩
    · rw [if_neg q1] at ec em
      obtain ⟨r2, hr2, d3, d4⟩ := both_draw (n := 2) (by omega) (by omega) hs1
      generalize nsd (gI σ1 21) = v2 at d3 d4
      rw [show x_X1_draw 2 σ1 = _ from d3, bd2_some, back1] at ec
      rw [show x_X10_draw 2 τ1 = _ from d4, bd2_some, back2] at em
      have hC2 : TdC 0 (sI σ 21 v2) T := hC.eq (fun j _ _ => gI_sIn _ (by omega) _) (fun j _ _ => rfl)
      have hM2 : TdM 0 (sI τ 16 v2) T := hM.eq (fun j _ _ => gI_sIn _ (by omega) _) (fun j _ _ => rfl)
      by_cases q3 : iI (r2 : Int) = 0
      · rw [if_pos q3, qs1] at ec em
        obtain ⟨c2, y1, y2, y3⟩ := put_beside hT hC2 hM2 hc (z := (c : Int) - 1) (by omega) (by omega)
        rw [y2] at ec
        rw [y3] at em
        exact ⟨c2, _, y1, ec, em⟩
      · rw [if_neg q3, qa1] at ec em
        obtain ⟨c2, y1, y2, y3⟩ := put_beside hT hC2 hM2 hc (z := (c : Int) + 1) (by omega) (by omega)
        rw [y2] at ec
        rw [y3] at em
        exact ⟨c2, _, y1, ec, em⟩
  · rw [if_neg q0] at ec em
    rw [c_own (by omega) hC1 hT hk, bd_some, x1] at ec
    rw [m_own hM1 hT hk, bd_some, x2] at em
    exact ⟨tOwn T k, _, ho, ec, em⟩
