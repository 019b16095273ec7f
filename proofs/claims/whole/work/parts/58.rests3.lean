/-! the game of getting up: the call -/
def hrOf (r H n k : Nat) : Nat := r / H ^ (n - 1 - k) % H
theorem c_choose {σ : St} {n H c v r : Nat} (hb : RsB n H c v) (hs : RsC σ n H c v) (hr : r < 1000) : ∃ σ2, x_X4_choose (iI r) σ = some σ2 ∧ RsF σ σ2 ∧ HrC σ2 n (hrOf r H n) := by
  obtain ⟨b1, b2, b3, b4, b5, b6, b7⟩ := hb
  have key := lp_inv (f := fun q : (Int32 × Int32 × St) => x_X4_choose_L9 q.1 q.2.1 q.2.2) (fun i q => ∃ σ2, q = (iI ((r / H ^ i : Nat) : Int), iI ((n : Int) - 1 - i), σ2) ∧ RsF σ σ2 ∧ ∀ k, n ≤ k + i → k < n → gA σ2 48 k = iI (hrOf r H n k)) (fun q => RsF σ q.2.2 ∧ HrC q.2.2 n (hrOf r H n)) n FU (by unfold FU; omega) (fun i q hi hg => ?_) (fun q hg => ?_) (iI ((r / H ^ 0 : Nat) : Int), iI ((n : Int) - 1 - (0 : Nat)), σ) ⟨σ, rfl, RsF.rfl, fun k h1 h2 => absurd h1 (by omega)⟩
  · obtain ⟨⟨q1, q2, q3⟩, k1, k2, k3⟩ := key
    refine ⟨q3, ?_, k2, k3⟩
    unfold x_X4_choose
    rw [hs.1, qs1]
    rw [Nat.pow_zero, Nat.div_one, show (n : Int) - 1 - ((0 : Nat) : Int) = (n : Int) - 1 from by omega] at k1
    rw [k1]; rfl
  · obtain ⟨σ2, rfl, k2, k3⟩ := hg
    have hs2 : RsC σ2 n H c v := hs.eq k2
    have hle : r / H ^ i ≤ r := Nat.div_le_self _ _
    dsimp only
    unfold x_X4_choose_L9 x_X4_choose_b9_35
    rw [hs2.2.1]
    simp (disch := omega) only [ql0, qm0]
    rw [if_neg (by omega), if_neg (by omega), rmN (by omega) (by omega) (by omega), bd_some, f_put, bd_some, show (n : Int) - 1 - (i : Int) = ((n - 1 - i : Nat) : Int) from by omega, putF_in (show n - 1 - i < lenN 48 from (show _ < 4 by omega)) (by decide), gI_sA, hs2.2.1]
    simp (disch := omega) only [qm0]
    rw [if_neg (by omega), dvN (by omega) (by omega) (by omega), bd_some, qaM]
    rw [show r / H ^ i / H = r / H ^ (i + 1) from by rw [Nat.pow_succ, Nat.div_div_eq_div_mul], show ((n - 1 - i : Nat) : Int) + -1 = (n : Int) - 1 - ((i + 1 : Nat) : Int) from by omega]
    refine ⟨_, rfl, _, rfl, k2.trans RsF.sA, fun k h1 h2 => ?_⟩
    rw [gA_sA]
    unfold upd
    by_cases e : k = n - 1 - i
    · rw [if_pos e]
      unfold hrOf
      rw [show n - 1 - k = i from by omega]
    · rw [if_neg e]; exact k3 k (by omega) h2
  · obtain ⟨σ2, rfl, k2, k3⟩ := hg
    dsimp only
    unfold x_X4_choose_L9
    simp (disch := omega) only [ql0]
    rw [if_pos (by omega)]
    exact ⟨_, rfl, k2, fun k hk => k3 k (by omega) hk⟩
theorem m_choose {τ : St} {n H c v r : Nat} {w5 z u1 u2 u3 w6 : Int32} (hb : RsB n H c v) (hr : r < 1000) : ∃ a b τ2, lp (fun q : (Int32 × Int32 × St) => x_X10_rests_L123 (iI n) (iI H) (iI c) (iI v) w5 z u1 u2 u3 w6 q.1 q.2.1 q.2.2) FU (iI r, iI n - 1, τ) = some (a, b, τ2) ∧ RtF τ τ2 ∧ HrM τ2 n (hrOf r H n) := by
  obtain ⟨b1, b2, b3, b4, b5, b6, b7⟩ := hb
  have key := lp_inv (f := fun q : (Int32 × Int32 × St) => x_X10_rests_L123 (iI n) (iI H) (iI c) (iI v) w5 z u1 u2 u3 w6 q.1 q.2.1 q.2.2) (fun i q => ∃ σ2, q = (iI ((r / H ^ i : Nat) : Int), iI ((n : Int) - 1 - i), σ2) ∧ RtF τ σ2 ∧ ∀ k, n ≤ k + i → k < n → gA σ2 34 k = iI (hrOf r H n k)) (fun q => RtF τ q.2.2 ∧ HrM q.2.2 n (hrOf r H n)) n FU (by unfold FU; omega) (fun i q hi hg => ?_) (fun q hg => ?_) (iI ((r / H ^ 0 : Nat) : Int), iI ((n : Int) - 1 - (0 : Nat)), τ) ⟨τ, rfl, RtF.rfl, fun k h1 h2 => absurd h1 (by omega)⟩
  · obtain ⟨⟨q1, q2, q3⟩, k1, k2, k3⟩ := key
    refine ⟨q1, q2, q3, ?_, k2, k3⟩
    rw [Nat.pow_zero, Nat.div_one, show (n : Int) - 1 - ((0 : Nat) : Int) = (n : Int) - 1 from by omega] at k1
    rw [qs1]; exact k1
  · obtain ⟨σ2, rfl, k2, k3⟩ := hg
    have hle : r / H ^ i ≤ r := Nat.div_le_self _ _
    dsimp only
    unfold x_X10_rests_L123
    simp (disch := omega) only [ql0]
    rw [if_neg (by omega), rmN (by omega) (by omega) (by omega), bd_some, show (n : Int) - 1 - (i : Int) = ((n - 1 - i : Nat) : Int) from by omega, stI_in (show n - 1 - i < lenM 34 from (show _ < 4 by omega)) (by decide), bd_some, dvN (by omega) (by omega) (by omega), bd_some, qaM]
    rw [show r / H ^ i / H = r / H ^ (i + 1) from by rw [Nat.pow_succ, Nat.div_div_eq_div_mul], show ((n - 1 - i : Nat) : Int) + -1 = (n : Int) - 1 - ((i + 1 : Nat) : Int) from by omega]
    refine ⟨_, rfl, _, rfl, k2.trans RtF.sA, fun k h1 h2 => ?_⟩
    rw [gA_sA]
    unfold upd
    by_cases e : k = n - 1 - i
    · rw [if_pos e]
      unfold hrOf
      rw [show n - 1 - k = i from by omega]
    · rw [if_neg e]; exact k3 k (by omega) h2
  · obtain ⟨σ2, rfl, k2, k3⟩ := hg
    dsimp only
    unfold x_X10_rests_L123
    simp (disch := omega) only [ql0]
    rw [if_pos (by omega)]
    exact ⟨_, rfl, k2, fun k hk => k3 k (by omega) hk⟩
def dgN (hr : Nat → Nat) : Nat → Nat
  | 0 => 0
  | i + 1 => 10 * dgN hr i + hr i
theorem c_digits {σ : St} {n H c v : Nat} {hr : Nat → Nat} (hb : RsB n H c v) (hs : RsC σ n H c v) (h : HrC σ n hr) : x_X4_digits σ = some (iI (dgN hr n : Nat)) := by
  have b2 := hb.2.1
  have key := lp_run (f := fun q : (Int32 × Int32) => x_X4_digits_L4 σ q.1 q.2) (fun i => (iI (dgN hr i : Nat), iI ((i : Nat) : Int))) (w := (iI (dgN hr n : Nat), iI ((n : Nat) : Int))) n FU (by unfold FU; omega) (fun i hi => ?_) ?_
  · unfold x_X4_digits
    show bd2 (lp _ FU (iI (dgN hr 0 : Nat), iI ((0 : Nat) : Int))) _ = _
    rw [key]; rfl
  · unfold x_X4_digits_L4
    rw [hs.1]
    simp (disch := omega) only [iI_leD]
    rw [if_neg (by omega), at48 h b2 hi, bd_some, qx10, iI_add, qa1, show (dgN hr i : Int) * 10 + hr i = ((10 * dgN hr i + hr i : Nat) : Int) from by omega]
    rfl
  · unfold x_X4_digits_L4
    rw [hs.1]
    simp (disch := omega) only [iI_leD]
    rw [if_pos (by omega)]
theorem m_digits {τ : St} {n H c v : Nat} {hr : Nat → Nat} {w5 z u1 u2 u3 : Int32} (hb : RsB n H c v) (h : HrM τ n hr) : ∃ q, lp (fun q : (Int32 × Int32) => x_X10_rests_L154 (iI n) (iI H) (iI c) (iI v) w5 z u1 u2 u3 τ q.1 q.2) FU (0, 0) = some (iI (dgN hr n : Nat), q) := by
  have b2 := hb.2.1
  have key := lp_run (f := fun q : (Int32 × Int32) => x_X10_rests_L154 (iI n) (iI H) (iI c) (iI v) w5 z u1 u2 u3 τ q.1 q.2) (fun i => (iI (dgN hr i : Nat), iI ((i : Nat) : Int))) (w := (iI (dgN hr n : Nat), iI ((n : Nat) : Int))) n FU (by unfold FU; omega) (fun i hi => ?_) ?_
  · exact ⟨_, key⟩
  · unfold x_X10_rests_L154
    simp (disch := omega) only [iI_leD]
    rw [if_neg (by omega), ldI_in (show i < lenM 34 from (show i < 4 by omega)) (by decide), h i hi, bd_some, qy10, iI_add, qa1, show 10 * (dgN hr i : Int) + hr i = ((10 * dgN hr i + hr i : Nat) : Int) from by omega]
    rfl
  · unfold x_X10_rests_L154
    simp (disch := omega) only [iI_leD]
    rw [if_pos (by omega)]
theorem pw4 {n H : Nat} (hn : n ≤ 4) (hH : H ≤ 4) : H ^ n ≤ 256 := by
  have h1 : H ^ n ≤ 4 ^ n := Nat.pow_le_pow_left hH n
  have h2 : 4 ^ n ≤ 4 ^ 4 := Nat.pow_le_pow_right (by omega) hn
  omega
/-- what the main loops keep -/
def RmF (σ σ2 : St) : Prop := (∀ k, k ≠ 24 → k ≠ 25 → gI σ2 k = gI σ k) ∧ (∀ j, j ≠ 48 → gA σ2 j = gA σ j)
theorem RmF.trans {a b c : St} (h : RmF a b) (k : RmF b c) : RmF a c := ⟨fun i h1 h2 => (k.1 i h1 h2).trans (h.1 i h1 h2), fun j hj => (k.2 j hj).trans (h.2 j hj)⟩
theorem RsF.m {a b : St} (h : RsF a b) : RmF a b := ⟨fun i _ _ => h.1 i, h.2⟩
theorem RmF.sI {σ : St} {k : Nat} {v : Int32} (h : k = 24 ∨ k = 25) : RmF σ (sI σ k v) := ⟨fun i h1 h2 => gI_sIn _ (by omega) _, fun _ _ => rfl⟩
theorem RsC.meq {σ σ2 : St} {n H c v : Nat} (h : RsC σ n H c v) (e : RmF σ σ2) : RsC σ2 n H c v := by
  unfold RsC at h ⊢
  rw [e.1 _ (by omega) (by omega), e.1 _ (by omega) (by omega), e.1 _ (by omega) (by omega), e.1 _ (by omega) (by omega)]; exact h
theorem both_find {σ τ : St} {n H c v : Nat} {w5 : Int32} (hb : RsB n H c v) (hs : RsC σ n H c v) (h24 : gI σ 24 = 0) (h25 : gI σ 25 = -1) : ∃ σ2 z1 z2 z3 τ2 y, x_X4_findRests σ = some σ2 ∧ lp (fun q : (Int32 × Int32) => x_X10_rests_L77 (iI n) (iI H) (iI c) (iI v) w5 τ q.1 q.2) FU (1, 0) = some (iI ((H ^ n : Nat) : Int), y) ∧ lp (fun q : (Int32 × Int32 × Int32 × St) => x_X10_rests_L104 (iI n) (iI H) (iI c) (iI v) w5 (iI ((H ^ n : Nat) : Int)) q.1 q.2.1 q.2.2.1 q.2.2.2) FU (0, (-1), 0, τ) = some (z1, z2, z3, τ2) ∧ gI σ2 24 = z1 ∧ gI σ2 25 = z2 ∧ RmF σ σ2 ∧ RtF τ τ2 := by
  have hb2 := hb
  obtain ⟨b1, b2, b3, b4, b5, b6, b7⟩ := hb2
  have hpw := pw4 (n := n) (H := H) b2 b4
  have p1 := lp_run (f := fun q : (Int32 × Int32) => x_X4_findRests_L4 σ q.1 q.2) (fun i => (iI ((H ^ i : Nat) : Int), iI ((i : Nat) : Int))) (w := (iI ((H ^ n : Nat) : Int), iI ((n : Nat) : Int))) n FU (by unfold FU; omega) (fun i hi => ?_) ?_
  · have p2 := lp_run (f := fun q : (Int32 × Int32) => x_X10_rests_L77 (iI n) (iI H) (iI c) (iI v) w5 τ q.1 q.2) (fun i => (iI ((H ^ i : Nat) : Int), iI ((i : Nat) : Int))) (w := (iI ((H ^ n : Nat) : Int), iI ((n : Nat) : Int))) n FU (by unfold FU; omega) (fun i hi => ?_) ?_
    · have key := lp2_inv (f := fun q : (Int32 × St) => x_X4_findRests_L27 (iI ((H ^ n : Nat) : Int)) q.1 q.2) (g := fun q : (Int32 × Int32 × Int32 × St) => x_X10_rests_L104 (iI n) (iI H) (iI c) (iI v) w5 (iI ((H ^ n : Nat) : Int)) q.1 q.2.1 q.2.2.1 q.2.2.2)
        (fun i q x => ∃ σ2 τ2 u w, q = (iI ((i : Nat) : Int), σ2) ∧ x = (u, w, iI ((i : Nat) : Int), τ2) ∧ gI σ2 24 = u ∧ gI σ2 25 = w ∧ RmF σ σ2 ∧ RtF τ τ2)
        (fun q x => gI q.2 24 = x.1 ∧ gI q.2 25 = x.2.1 ∧ RmF σ q.2 ∧ RtF τ x.2.2.2) (H ^ n) FU FU (by unfold FU; omega) (by unfold FU; omega) (fun i q x hi hg => ?_) (fun q x hg => ?_) (iI ((0 : Nat) : Int), σ) (0, (-1), iI ((0 : Nat) : Int), τ) ⟨σ, τ, 0, -1, rfl, rfl, h24, h25, RsF.rfl.m, RtF.rfl⟩
      · obtain ⟨⟨q1, q2⟩, ⟨x1, x2, x3, x4⟩, k1, k2, k3, k4, k5, k6⟩ := key
        refine ⟨q2, x1, x2, x3, x4, _, ?_, p2, k2, k3, k4, k5, k6⟩
        unfold x_X4_findRests
        show bd2 (lp _ FU (iI ((H ^ 0 : Nat) : Int), iI ((0 : Nat) : Int))) _ = _
        rw [p1, bd2_some]
        show bd2 (lp _ FU (iI ((0 : Nat) : Int), σ)) _ = _
        rw [k1]; rfl
      · obtain ⟨σ2, τ2, u, w, rfl, rfl, k1, k2, k3, k4⟩ := hg
        have hs2 : RsC σ2 n H c v := hs.meq k3
        have hlt : ∀ k, k < n → hrOf i H n k < H := fun k hk => Nat.mod_lt _ (by omega)
        obtain ⟨σ3, a1, a2, a3⟩ := c_choose (r := i) hb hs2 (by omega)
        obtain ⟨q1, q2, τ3, m1, m2, m3⟩ := m_choose (τ := τ2) (c := c) (v := v) (r := i) (w5 := w5) (z := iI ((H ^ n : Nat) : Int)) (u1 := u) (u2 := w) (u3 := iI ((i : Nat) : Int)) (w6 := 0) hb (by omega)
        obtain ⟨q3, m4⟩ := m_digits (τ := τ3) (c := c) (v := v) (w5 := w5) (z := iI ((H ^ n : Nat) : Int)) (u1 := u) (u2 := w) (u3 := iI ((i : Nat) : Int)) hb m3
        obtain ⟨r, σ4, τ4, c1, c2, c3, c4, c5⟩ := both_rest hb (hs2.eq a2) a3 m3 hlt
        have f24 : gI σ4 24 = u := by rw [c3.1, a2.1, k1]
        have f25 : gI σ4 25 = w := by rw [c3.1, a2.1, k2]
        have f0 : RmF σ σ4 := (k3.trans a2.m).trans c3.m
        have hs4 : RsC σ4 n H c v := (hs2.eq a2).eq c3
        dsimp only
        unfold x_X4_findRests_L27 x_X10_rests_L104
        simp (disch := omega) only [iI_leD]
        rw [if_neg (by omega), if_neg (by omega), a1, bd_some, c1, bd2_some, bd_some (0 : Int32), m1, bd3_some, m4, bd2_some, c2, bd2_some, qa1]
        by_cases e : r = 0
        · rw [if_pos e, if_pos e]
          exact ⟨_, _, rfl, rfl, σ4, τ4, u, w, rfl, rfl, f24, f25, f0, (k4.trans m2).trans c5⟩
        · rw [if_neg e, if_neg e, bd_some, gI_sIn _ (by omega), f24, f25]
          have f1 : RmF σ (sI σ4 24 (u + 1)) := f0.trans (RmF.sI (by omega))
          by_cases e2 : w = -1
          · rw [if_pos e2, if_pos e2, c_digits hb (hs4.meq (RmF.sI (by omega))) (show HrC (sI σ4 24 (u + 1)) n (hrOf i H n) from c4), bd_some, bd_some]
            exact ⟨_, _, rfl, rfl, _, τ4, u + 1, _, rfl, rfl, (gI_sIn _ (by omega) _).trans (gI_sI _ _ _), gI_sI _ _ _, f1.trans (RmF.sI (by omega)), (k4.trans m2).trans c5⟩
          · rw [if_neg e2, if_neg e2]
            exact ⟨_, _, rfl, rfl, _, τ4, u + 1, w, rfl, rfl, gI_sI _ _ _, (gI_sIn _ (by omega) _).trans f25, f1, (k4.trans m2).trans c5⟩
      · obtain ⟨σ2, τ2, u, w, rfl, rfl, k1, k2, k3, k4⟩ := hg
        dsimp only
        unfold x_X4_findRests_L27 x_X10_rests_L104
        rw [if_pos (Int32.le_refl _), if_pos (Int32.le_refl _)]
        exact ⟨_, _, rfl, rfl, k1, k2, k3, k4⟩
    · unfold x_X10_rests_L77
      simp (disch := omega) only [iI_leD]
      rw [if_neg (by omega), iI_mul, qa1, ← Int.natCast_mul, ← Nat.pow_succ]
      rfl
    · unfold x_X10_rests_L77
      simp (disch := omega) only [iI_leD]
      rw [if_pos (by omega)]
  · unfold x_X4_findRests_L4
    rw [hs.1, hs.2.1]
    simp (disch := omega) only [iI_leD]
    rw [if_neg (by omega), iI_mul, qa1, ← Int.natCast_mul, ← Nat.pow_succ]
    rfl
  · unfold x_X4_findRests_L4
    rw [hs.1]
    simp (disch := omega) only [iI_leD]
    rw [if_pos (by omega)]
theorem op_rests {σ τ : St} (h : Inv σ τ) (p1 p2 p3 p4 p5 : Int32) : StT [(3, 1)] (x_X9_rests p1 p2 p3 p4 p5 σ) (x_X10_rests p1 p2 p3 p4 p5 τ) := by
  obtain ⟨T, s, n, ims, h⟩ := h
  obtain ⟨z, hz, rfl⟩ := ex_iI p1
  obtain ⟨y, hy, rfl⟩ := ex_iI p2
  obtain ⟨x, hx, rfl⟩ := ex_iI p3
  obtain ⟨w, hw, rfl⟩ := ex_iI p4
  obtain ⟨t, ht, rfl⟩ := ex_iI p5
  obtain ⟨τ1, e1, h0, h1⟩ := h.st
  have hi : Inv σ τ1 := ⟨T, s, n, ims, h1⟩
  have hh := h1
  obtain ⟨hT, hs, hC, hM, hSC, hSM, hB, hI, hb⟩ := hh
  have hC8 := hT.1
  have hS24 := hT.2.1
  have hL6 := hT.2.2.1
  have d0 : ∀ a b c e f, x_X9_rests_b97 a b c e f 0 σ = some (.inr (3, refC σ 2)) := fun a b c e f => by unfold x_X9_rests_b97; rw [c_need0, bt_inr]
  have d1 : ∀ a b c e f, x_X9_rests_b77 a b c e f 0 σ = some (.inr (3, refC σ 2)) := fun a b c e f => by unfold x_X9_rests_b77; rw [c_need0, bt_inr]
  have d2 : ∀ a b c e f, x_X9_rests_b54 a b c e f 0 σ = some (.inr (3, refC σ 2)) := fun a b c e f => by unfold x_X9_rests_b54; rw [c_need0, bt_inr]
  have d3 : ∀ a b c e f, x_X9_rests_b35 a b c e f 0 σ = some (.inr (3, refC σ 2)) := fun a b c e f => by unfold x_X9_rests_b35; rw [c_need0, bt_inr]
  have d4 : ∀ a b c e f, x_X9_rests_b16 a b c e f 0 σ = some (.inr (3, refC σ 2)) := fun a b c e f => by unfold x_X9_rests_b16; rw [c_need0, bt_inr]
  have f0 : ∀ a b c e f, x_X10_rests_b60 a b c e f τ1 = some (0, refM τ1 1 2) := fun a b c e f => by
    unfold x_X10_rests_b60 x_X10_rests_b61
    rw [m_may0' h0, bd2_some, if_pos rfl]
  have ex : x_X10_rests (iI z) (iI y) (iI x) (iI w) (iI t) τ = x_X10_rests (iI z) (iI y) (iI x) (iI w) (iI t) τ := rfl
  have ec : x_X9_rests (iI z) (iI y) (iI x) (iI w) (iI t) σ = x_X9_rests (iI z) (iI y) (iI x) (iI w) (iI t) σ := rfl
  conv at ex => rhs; unfold x_X10_rests
  conv at ec => rhs; unfold x_X9_rests x_X9_rests_b15
  rw [bd_some, e1, m_wn 2 4 2 4 rfl rfl hz ⟨by omega, by omega⟩ ⟨by omega, by omega⟩, bd_some, m_wn 2 4 2 4 rfl rfl hy ⟨by omega, by omega⟩ ⟨by omega, by omega⟩, bd_some, m_wn 0 99 0 99 rfl rfl hx ⟨by omega, by omega⟩ ⟨by omega, by omega⟩, bd_some, m_wn 1 999 1 999 rfl rfl hw ⟨by omega, by omega⟩ ⟨by omega, by omega⟩, bd_some, m_wn 0 1 0 1 rfl rfl ht ⟨by omega, by omega⟩ ⟨by omega, by omega⟩, bd_some, f0] at ex
  obtain ⟨z1, z2⟩ := hz
  obtain ⟨y1, y2⟩ := hy
  obtain ⟨x1, x2⟩ := hx
  obtain ⟨w1, w2⟩ := hw
  obtain ⟨t1, t2⟩ := ht
  simp (disch := omega) only [ql2, qg4, d4] at ec
  by_cases ez : 2 ≤ z ∧ z ≤ 4
  · rw [if_pos ez, if_neg (by decide)] at ex
    rw [if_neg (by omega), if_neg (by omega)] at ec
    unfold x_X9_rests_b16 x_X9_rests_b34 at ec
    rw [c_need1 (by decide), bt_inl] at ec
    simp (disch := omega) only [ql2, qg4, d3] at ec
    by_cases ey : 2 ≤ y ∧ y ≤ 4
    · rw [if_pos ey, if_neg (by decide)] at ex
      rw [if_neg (by omega), if_neg (by omega)] at ec
      unfold x_X9_rests_b35 x_X9_rests_b53 at ec
      rw [c_need1 (by decide), bt_inl] at ec
      simp (disch := omega) only [ql0, qg99, d2] at ec
      by_cases exx : 0 ≤ x ∧ x ≤ 99
      · rw [if_pos exx, if_neg (by decide)] at ex
        rw [if_neg (by omega), if_neg (by omega)] at ec
        unfold x_X9_rests_b54 x_X9_rests_b76 at ec
        rw [c_need1 (by decide), bt_inl] at ec
        simp (disch := omega) only [ql1, qg999, d1] at ec
        by_cases ew : 1 ≤ w ∧ w ≤ 999
        · rw [if_pos ew, if_neg (by decide)] at ex
          rw [if_neg (by omega), if_neg (by omega)] at ec
          unfold x_X9_rests_b77 x_X9_rests_b92 at ec
          rw [c_need1 (by decide), bt_inl] at ec
          simp (disch := omega) only [qe0, qe1, d0] at ec
          by_cases et : 0 ≤ t ∧ t ≤ 1
          · rw [if_pos et, if_neg (by decide)] at ex
            obtain ⟨a, rfl⟩ := Int.eq_ofNat_of_zero_le (a := z) (by omega)
            obtain ⟨H, rfl⟩ := Int.eq_ofNat_of_zero_le (a := y) (by omega)
            obtain ⟨c, rfl⟩ := Int.eq_ofNat_of_zero_le exx.1
            obtain ⟨v, rfl⟩ := Int.eq_ofNat_of_zero_le (a := w) (by omega)
            have hrb : RsB a H c v := ⟨by omega, by omega, by omega, by omega, by omega, by omega, by omega⟩
            have hbg : ∃ σ0, x_X4_begin (iI a) (iI H) (iI c) (iI v) σ = some σ0 ∧ CEq σ σ0 ∧ RsC σ0 a H c v ∧ gI σ0 24 = 0 ∧ gI σ0 25 = -1 := by
              refine ⟨sI (sI (sI (sI (sI (sI σ 26 (iI a)) 27 (iI H)) 28 (iI c)) 29 (iI v)) 24 0) 25 (-1), rfl, ?_, ⟨?_, ?_, ?_, ?_⟩, ?_, ?_⟩
              · exact ((((((CEq.sI (by omega)).trans (CEq.sI (by omega))).trans (CEq.sI (by omega))).trans (CEq.sI (by omega))).trans (CEq.sI (by omega))).trans (CEq.sI (by omega)))
              · rw [gI_sIn _ (by omega), gI_sIn _ (by omega), gI_sIn _ (by omega), gI_sIn _ (by omega), gI_sIn _ (by omega), gI_sI]
              · rw [gI_sIn _ (by omega), gI_sIn _ (by omega), gI_sIn _ (by omega), gI_sIn _ (by omega), gI_sI]
              · rw [gI_sIn _ (by omega), gI_sIn _ (by omega), gI_sIn _ (by omega), gI_sI]
              · rw [gI_sIn _ (by omega), gI_sIn _ (by omega), gI_sI]
              · rw [gI_sIn _ (by omega), gI_sI]
              · rw [gI_sI]
            obtain ⟨σ0, g1, g2, g3, g4, g5⟩ := hbg
            obtain ⟨σ2, u1, u2, u3, τ2, u4, k1, k2, k3, k4, k5, k6, k7⟩ := both_find (τ := τ1) (w5 := iI t) hrb g3 g4 g5
            have hce : CEq σ σ2 := g2.trans ⟨fun k hk => k6.1 k (by omega) (by omega), fun j hj => k6.2 j (by omega), k6.2 35 (by omega)⟩
            have hme : MEq τ1 τ2 := ⟨fun k _ => k7.1 k, fun j hj => k7.2 j (by omega)⟩
            have hj : Inv σ2 τ2 := ⟨T, s, n, ims, h1.eq hce hme⟩
            have hh0 : gI τ2 0 = 0 := (k7.1 0).trans h0
            have ex2 : x_X10_rests (iI a) (iI H) (iI c) (iI v) (iI t) τ = (if iI t = 0 then some (u1, τ2) else some (u2, τ2)) := by
              rw [ex]
              unfold x_X10_rests_b61
              rw [m_may1 h0 (by decide), bd2_some, if_neg (by decide), k2, bd2_some, k3, bd4_some]
            have ec2 : x_X9_rests (iI a) (iI H) (iI c) (iI v) (iI t) σ = (if iI t = 0 then some (.inl (u1, σ2)) else some (.inl (u2, σ2))) := by
              have e97 : x_X9_rests_b97 (iI a) (iI H) (iI c) (iI v) (iI t) 1 σ = (if iI t = 0 then some (.inl (u1, σ2)) else some (.inl (u2, σ2))) := by
                unfold x_X9_rests_b97
                rw [c_need1 (by decide), bt_inl, g1, bd_some, k1, bd_some, k4, k5]
              rw [ec, e97]
              by_cases q : t = 0
              · rw [if_pos q]
              · rw [if_neg q, if_pos (by omega)]
            by_cases e0 : iI t = 0
            · rw [if_pos e0] at ex2 ec2
              exact StT.inl ec2 ex2 hh0 hj
            · rw [if_neg e0] at ex2 ec2
              exact StT.inl ec2 ex2 hh0 hj
          · rw [if_neg et, if_pos rfl] at ex
            rw [if_neg (by omega), if_neg (by omega)] at ec
            exact StT.ref h1 ec ex List.mem_cons_self
        · rw [if_neg ew, if_pos rfl] at ex
          refine StT.ref (c := 3) h1 (ec.trans ?_) ex List.mem_cons_self
          split
          · rfl
          · split
            · rfl
            · omega
      · rw [if_neg exx, if_pos rfl] at ex
        refine StT.ref (c := 3) h1 (ec.trans ?_) ex List.mem_cons_self
        split
        · rfl
        · split
          · rfl
          · omega
    · rw [if_neg ey, if_pos rfl] at ex
      refine StT.ref (c := 3) h1 (ec.trans ?_) ex List.mem_cons_self
      split
      · rfl
      · split
        · rfl
        · omega
  · rw [if_neg ez, if_pos rfl] at ex
    refine StT.ref (c := 3) h1 (ec.trans ?_) ex List.mem_cons_self
    split
    · rfl
    · split
      · rfl
      · omega
