/-! shop; and two fresh objects -/
def FrX (σ σ2 : St) : Prop := (∀ k, ¬ ((4 ≤ k ∧ k ≤ 7) ∨ (11 ≤ k ∧ k ≤ 17)) → gI σ2 k = gI σ k) ∧ (∀ j, ¬ (8 ≤ j ∧ j ≤ 14) → gA σ2 j = gA σ j)
def FrY (τ τ2 : St) : Prop := (∀ k, ¬ ((1 ≤ k ∧ k ≤ 7) ∨ (12 ≤ k ∧ k ≤ 15)) → gI τ2 k = gI τ k) ∧ (∀ j, ¬ (9 ≤ j ∧ j ≤ 15) → gA τ2 j = gA τ j)
theorem both_read {σ τ : St} {n : Nat} (hn : n ≤ 600) (ht : ∀ k, k < n → gA σ 0 k = gA τ 1 k) :
    ∃ (σ2 τa τb τ2 : St) (c o : Int32) (ok : Bool), x_X3_read (iI n) σ = some (gI σ2 15, σ2) ∧ x_X10_begins (iI n) τ = some τa ∧ x_X10_clears τa = some τb ∧ lp (fun v : (Int32 × Int32 × St) => x_X10_shop_L46 v.1 v.2.1 v.2.2) FU (0, 0, τb) = some (c, o, τ2) ∧ Md n ok σ2 τ2 ∧ FrX σ σ2 ∧ FrY τ τ2 ∧ gI τ2 1 = 0 ∧ (ok = true → ∃ T L D, DrR T L D σ2 τ2) := by
  -- the class
  have s12 : gI (sI (sI (sI (sI (sI (sI σ 12 (iI n)) 13 0) 15 0) 11 (-1)) 16 0) 17 1) 12 = iI n := by rw [gI_sIn _ (by omega), gI_sIn _ (by omega), gI_sIn _ (by omega), gI_sIn _ (by omega), gI_sIn _ (by omega), gI_sI]
  have s13 : gI (sI (sI (sI (sI (sI (sI σ 12 (iI n)) 13 0) 15 0) 11 (-1)) 16 0) 17 1) 13 = iI (0 : Nat) := by rw [gI_sIn _ (by omega), gI_sIn _ (by omega), gI_sIn _ (by omega), gI_sIn _ (by omega), gI_sI]; rfl
  have s15 : gI (sI (sI (sI (sI (sI (sI σ 12 (iI n)) 13 0) 15 0) 11 (-1)) 16 0) 17 1) 15 = 0 := by rw [gI_sIn _ (by omega), gI_sIn _ (by omega), gI_sIn _ (by omega), gI_sI]
  have s11 : gI (sI (sI (sI (sI (sI (sI σ 12 (iI n)) 13 0) 15 0) 11 (-1)) 16 0) 17 1) 11 = -1 := by rw [gI_sIn _ (by omega), gI_sIn _ (by omega), gI_sI]
  have s16 : gI (sI (sI (sI (sI (sI (sI σ 12 (iI n)) 13 0) 15 0) 11 (-1)) 16 0) 17 1) 16 = iI (0 : Nat) := by rw [gI_sIn _ (by omega), gI_sI]; rfl
  have s17 : gI (sI (sI (sI (sI (sI (sI σ 12 (iI n)) 13 0) 15 0) 11 (-1)) 16 0) 17 1) 17 = 1 := gI_sI _ _ _
  have sI' : ∀ k, ¬ (11 ≤ k ∧ k ≤ 17) → gI (sI (sI (sI (sI (sI (sI σ 12 (iI n)) 13 0) 15 0) 11 (-1)) 16 0) 17 1) k = gI σ k := fun k hk => by rw [gI_sIn _ (by omega), gI_sIn _ (by omega), gI_sIn _ (by omega), gI_sIn _ (by omega), gI_sIn _ (by omega), gI_sIn _ (by omega)]
  have sA' : ∀ j, gA (sI (sI (sI (sI (sI (sI σ 12 (iI n)) 13 0) 15 0) 11 (-1)) 16 0) 17 1) j = gA σ j := fun _ => rfl
  have ec : x_X3_read (iI n) σ = x_X3_read (iI n) σ := rfl
  conv at ec => rhs; unfold x_X3_read
  rw [bd_some, bd_some, bd_some, bd_some, bd_some, bd_some] at ec
  generalize sI (sI (sI (sI (sI (sI σ 12 (iI n)) 13 0) 15 0) 11 (-1)) 16 0) 17 1 = σ6 at *
  obtain ⟨σ7, e7, hC, cI, cA, cl, cd, cz⟩ := c_clear (t := 1) (by omega) σ6
  rw [e7, bd_some] at ec
  -- the reference
  have r1 : gI (sI (sI (sI (sI (sI (sI τ 1 0) 7 (-1)) 2 (iI n)) 3 0) 4 (-1)) 6 0) 1 = 0 := by rw [gI_sIn _ (by omega), gI_sIn _ (by omega), gI_sIn _ (by omega), gI_sIn _ (by omega), gI_sIn _ (by omega), gI_sI]
  have r2 : gI (sI (sI (sI (sI (sI (sI τ 1 0) 7 (-1)) 2 (iI n)) 3 0) 4 (-1)) 6 0) 2 = iI n := by rw [gI_sIn _ (by omega), gI_sIn _ (by omega), gI_sIn _ (by omega), gI_sI]
  have r3 : gI (sI (sI (sI (sI (sI (sI τ 1 0) 7 (-1)) 2 (iI n)) 3 0) 4 (-1)) 6 0) 3 = iI (0 : Nat) := by rw [gI_sIn _ (by omega), gI_sIn _ (by omega), gI_sI]; rfl
  have r4 : gI (sI (sI (sI (sI (sI (sI τ 1 0) 7 (-1)) 2 (iI n)) 3 0) 4 (-1)) 6 0) 4 = -1 := by rw [gI_sIn _ (by omega), gI_sI]
  have rI' : ∀ k, ¬ (1 ≤ k ∧ k ≤ 7) → gI (sI (sI (sI (sI (sI (sI τ 1 0) 7 (-1)) 2 (iI n)) 3 0) 4 (-1)) 6 0) k = gI τ k := fun k hk => by rw [gI_sIn _ (by omega), gI_sIn _ (by omega), gI_sIn _ (by omega), gI_sIn _ (by omega), gI_sIn _ (by omega), gI_sIn _ (by omega)]
  have rA' : ∀ j, gA (sI (sI (sI (sI (sI (sI τ 1 0) 7 (-1)) 2 (iI n)) 3 0) 4 (-1)) 6 0) j = gA τ j := fun _ => rfl
  have eb : x_X10_begins (iI n) τ = some (sI (sI (sI (sI (sI (sI τ 1 0) 7 (-1)) 2 (iI n)) 3 0) 4 (-1)) 6 0) := by
    unfold x_X10_begins
    rw [bd_some, bd_some, bd_some, bd_some, bd_some, bd_some]
  generalize sI (sI (sI (sI (sI (sI τ 1 0) 7 (-1)) 2 (iI n)) 3 0) 4 (-1)) 6 0 = τa at *
  obtain ⟨τb, em, hM, mI, mA, md⟩ := m_clears τa
  have hc : MdC n σ7 τb := ⟨hn, (cI 12 (by omega)).trans s12, (mI 2 (by omega)).trans r2, fun k hk => by rw [cA 0 (by omega), sA', mA 1 (by omega), rA']; exact ht k hk⟩
  obtain ⟨b0, rb0⟩ := run_ex (fun k => gA σ7 0 k = 32) (Nat.zero_le n)
  have hmd : Md n true σ7 τb := Md.good hc (Nat.zero_le n) (Nat.zero_le n) ((cI 13 (by omega)).trans s13) ((mI 3 (by omega)).trans r3) ⟨(cI 15 (by omega)).trans s15, (mI 4 (by omega)).trans r4, (cI 11 (by omega)).trans s11⟩ rb0 rb0
  have hd : DrR T0 (fun _ => -1) (fun k => k) σ7 τb := ⟨T0_ok, hC, hM, fun k hk => cl k hk, fun k hk => absurd hk (by show ¬ k < 0; omega), fun k hk => absurd hk (by show ¬ k < 0; omega), fun _ _ _ => rfl, fun k hk => ⟨cd k hk, md k hk⟩, Bij.id 24, fun _ _ _ => rfl, fun k _ h6 => cz (6 * k + 5) (by omega)⟩
  obtain ⟨b, k1, k2, k3, k4⟩ := hmd.skipC
  rw [k1, bd_some] at ec
  have g0 : LpG n (sI σ7 13 (iI b)) τb 0 (0, sI σ7 13 (iI b)) (0, 0, τb) := ⟨sI σ7 13 (iI b), τb, 0, T0, fun _ => -1, fun k => k, b, rfl, rfl, k2, hd.eq (fun k _ _ => gI_sIn _ (by omega) _) (fun _ _ _ => rfl) (fun _ _ _ => rfl) (fun _ _ _ => rfl), k3, gI_sI _ _ _, k4, by rw [gI_sIn _ (by omega), cI 16 (by omega)]; exact s16, Or.inl ⟨rfl, by rw [gI_sIn _ (by omega), cI 17 (by omega)]; exact s17, rfl, rfl⟩, ⟨fun _ => rfl, fun _ => rfl⟩, FrL.rfl, FrT.rfl⟩
  obtain ⟨⟨v1, v2⟩, ⟨x1, x2, x3⟩, p1, p2, ok, hk, fL, fT, hok⟩ := lp2_gen (LpG n (sI σ7 13 (iI b)) τb) (LpK n (sI σ7 13 (iI b)) τb) 60 (fun i v x hi hg => both_clause hi hg) _ _ g0 FU FU (by unfold FU; omega) (by unfold FU; omega)
  rw [p1, bd2_some] at ec
  refine ⟨v2, τa, τb, x3, x1, x2, ok, ec, eb, em, p2, hk, ⟨fun k hk => ?_, fun j hj => ?_⟩, ⟨fun k hk => ?_, fun j hj => ?_⟩, ?_, hok⟩
  · rw [fL.1 k (by omega), gI_sIn _ (by omega), cI k (by omega), sI' k (by omega)]
  · rw [fL.2 j hj, gA_sI, cA j (by omega), sA']
  · rw [fT.1 k (by omega), mI k (by omega), rI' k (by omega)]
  · rw [fT.2 j hj, mA j (by omega), rA']
  · rw [fT.1 1 (by omega), mI 1 (by omega)]; exact r1
/-- the text is read and told, the shop stays -/
theorem InvX.toldBad {T : Td} {s : Sk} {n : Nat} {ims : List Sk} {σ τ σ2 τ2 : St} (h : InvX T s n ims σ τ) (c1 : ∀ k, k ≤ 3 ∨ k = 10 → gI σ2 k = gI σ k) (c2 : ∀ j, (1 ≤ j ∧ j ≤ 7) ∨ (15 ≤ j ∧ j ≤ 30) ∨ j = 35 → gA σ2 j = gA σ j)
    (m1 : ∀ k, (8 ≤ k ∧ k ≤ 11) ∨ k = 19 ∨ k = 23 → gI τ2 k = gI τ k) (m2 : ∀ j, j = 0 ∨ (2 ≤ j ∧ j ≤ 8) ∨ (16 ≤ j ∧ j ≤ 18) ∨ j = 35 → gA τ2 j = gA τ j) (n1 : gI σ2 8 = 0) (n2 : gI τ2 1 = 0) (f : gI σ2 9 = gI τ2 7) : InvX T s 0 ims σ2 τ2 := by
  obtain ⟨h1, h2, h3, h4, h5, h6, h7, h8, h9⟩ := h
  refine ⟨h1, h2, h3.eq (fun k _ hk => c1 k (by omega)) (fun j _ hj => c2 j (by omega)), h4.eq (fun k _ hk => m1 k (by omega)) (fun j _ hj => m2 j (by omega)), h5.eq (fun j _ hj => c2 j (by omega)), h6.eq (fun j hj => m2 j (by omega)), ⟨by omega, n1, n2, fun k hk => absurd hk (by omega), f, ?_⟩, ?_, (m1 19 (by omega)).trans h9⟩
  · rw [c2 35 (by omega), m2 0 (by omega)]
    exact h7.2.2.2.2.2
  · unfold ImB at h8 ⊢
    rw [c1 10 (by omega), m1 23 (by omega)]
    refine ⟨h8.1, h8.2.1, h8.2.2.1, fun i s hi => ?_⟩
    obtain ⟨k1, k2, k3⟩ := h8.2.2.2 i s hi
    have hl : i < ims.length := (List.getElem?_eq_some_iff.mp hi).1
    exact ⟨k1, k2.eq (fun j _ hj => c2 j (by omega)), k3.eq (m2 35 (by omega))⟩
theorem op_shop {σ τ : St} (h : Inv σ τ) (p1 : Int32) : StT [(3, 1)] (x_X9_shop p1 σ) (x_X10_shop p1 τ) := by
  obtain ⟨T, s, n, ims, h⟩ := h
  obtain ⟨z, hz, rfl⟩ := ex_iI p1
  obtain ⟨τ1, e1, h0, h1⟩ := h.st
  have hi : Inv σ τ1 := ⟨T, s, n, ims, h1⟩
  have hh := h1
  obtain ⟨hT, hs, hC, hM, hSC, hSM, hB, hI, hb⟩ := hh
  have hC8 := hT.1
  have hS24 := hT.2.1
  have hL6 := hT.2.2.1
  obtain ⟨z1, z2⟩ := hz
  obtain ⟨b1, b2, b3, b4, b5, b6⟩ := hB
  have ex : x_X10_shop (iI z) τ = x_X10_shop (iI z) τ := rfl
  have ec : x_X9_shop (iI z) σ = x_X9_shop (iI z) σ := rfl
  conv at ex => rhs; unfold x_X10_shop x_X10_shop_b22 x_X10_shop_b23
  conv at ec => rhs; unfold x_X9_shop x_X9_shop_b17 x_X9_shop_b18
  rw [b2] at ec
  rw [bd_some, e1, b3] at ex
  simp (disch := omega) only [ql0, iI_ltD] at ec ex
  by_cases e : 0 ≤ z ∧ z ≤ n
  · obtain ⟨k, rfl⟩ := Int.eq_ofNat_of_zero_le e.1
    rw [if_neg (by omega), if_neg (by omega), c_need1 (by decide), bt_inl, bd_some] at ec
    rw [if_neg (by omega), if_neg (by omega), m_may1 h0 (by decide), bd2_some, if_neg (by decide)] at ex
    obtain ⟨σ2, τa, τb, τ2, c, o, ok, q1, q2, q3, q4, hmd, fx, fy, t1, hok⟩ := both_read (σ := sI σ 8 0) (τ := τ1) (n := k) (by omega) (fun j hj => b4 j (by omega))
    rw [show x_X3_read (iI (k : Int)) (sI σ 8 0) = _ from q1, bd2_some, bd_some] at ec
    rw [show x_X10_begins (iI (k : Int)) τ1 = _ from q2, bd_some, q3, bd_some, q4, bd3_some] at ex
    unfold x_X10_shop_b296 x_X10_result at ex
    have f8 : gI (sI σ2 9 (gI σ2 11)) 8 = 0 := by rw [gI_sIn _ (by omega), fx.1 8 (by omega), gI_sI]
    have fxI : ∀ j, (j ≤ 3 ∨ j = 10) → gI (sI σ2 9 (gI σ2 11)) j = gI σ j := fun j hj => by rw [gI_sIn _ (by omega), fx.1 j (by omega), gI_sIn _ (by omega)]
    have fxA : ∀ j, ¬ (8 ≤ j ∧ j ≤ 14) → gA (sI σ2 9 (gI σ2 11)) j = gA σ j := fun j hj => fx.2 j hj
    have fyI : ∀ j, ¬ ((1 ≤ j ∧ j ≤ 7) ∨ (12 ≤ j ∧ j ≤ 15)) → gI (sI τ2 7 (gI τ2 4)) j = gI τ1 j := fun j hj => by rw [gI_sIn _ (by omega), fy.1 j hj]
    have fyA : ∀ j, ¬ (9 ≤ j ∧ j ≤ 15) → gA (sI τ2 7 (gI τ2 4)) j = gA τ1 j := fun j hj => fy.2 j hj
    have t1' : gI (sI τ2 7 (gI τ2 4)) 1 = 0 := by rw [gI_sIn _ (by omega)]; exact t1
    have t0' : gI (sI τ2 7 (gI τ2 4)) 0 = 0 := by rw [fyI 0 (by omega)]; exact h0
    have t4' : gI (sI τ2 7 (gI τ2 4)) 4 = gI τ2 4 := gI_sIn _ (by omega) _
    have t7' : gI (sI τ2 7 (gI τ2 4)) 7 = gI τ2 4 := gI_sI _ _ _
    have s9' : gI (sI σ2 9 (gI σ2 11)) 9 = gI σ2 11 := gI_sI _ _ _
    cases ok with
    | false =>
      obtain ⟨_, _, _, _, _, _, _, m1, m2, m3, m4⟩ := hmd.mf
      rw [if_neg m1] at ec
      have efn : x_X10_fine (sI τ2 7 (gI τ2 4)) = some 0 := m_fine0 (by rw [t4']; exact m2)
      rw [bd_some, efn, bd_some, if_pos rfl, bd2_some, gI_sIn _ (show 5 ≠ 7 by omega), ← m4, if_neg (by rw [t4']; exact m2)] at ex
      refine StT.inl ec ex t0' ⟨T, s, 0, ims, h1.toldBad (fun j hj => fxI j hj) (fun j hj => fxA j (by omega)) (fun j hj => fyI j (by omega)) (fun j hj => fyA j (by omega)) f8 t1' ?_⟩
      rw [s9', t7', m3]
    | true =>
      obtain ⟨T2, L, D, hT2, hC2, hM2, l1, l2, l3, l4, d1, d2, d3, -⟩ := hok rfl
      obtain ⟨_, _, _, _, _, _, _, _, m1, m2, m3, _, _⟩ := hmd.mt
      have efn : x_X10_fine (sI τ2 7 (gI τ2 4)) = some 1 := m_fine1 (by rw [t4']; exact m2)
      obtain ⟨σ4, k1, kC, kI, kA, k3, k4⟩ := c_copyT (σ := sI σ2 9 (gI σ2 11)) hT2 (hC2.eq (fun j _ _ => gI_sIn _ (by omega) _) (fun _ _ _ => rfl))
      obtain ⟨σ5, g1, gS, gI', gA'⟩ := c_beginS (σ := σ4) (L := L) (D := D) (fun j hj => by rw [k3 j hj]; exact l1 j hj) (fun j hj => by rw [k4 j hj]; exact (d1 j hj).1)
      obtain ⟨τ4, v1, vM, vS, v23, vI, vA⟩ := m_sets (τ := sI τ2 7 (gI τ2 4)) (D := D) hT2 (hM2.eq (fun j _ _ => gI_sIn _ (by omega) _) (fun _ _ _ => rfl)) l2 l3 l4 (fun j hj => (d1 j hj).2)
      rw [if_pos m1, k1, bd_some, g1, bd_some, bd_some, gI_sIn _ (show 1 ≠ 10 by omega), gI' 1, show gI σ4 1 = iI (tS T2) from kC.2.1] at ec
      rw [bd_some, efn, bd_some, if_neg (by decide), bd2_some, if_pos (by rw [t4']; exact m2), v1, bd_some, show gI τ2 13 = iI (tS T2) from hM2.2.1] at ex
      refine StT.inl ec ex (by rw [vI 0 (by omega)]; exact t0') ⟨T2, skT L D, 0, [], hT2, skT_ok l3 l4 d2 d3, kC.eq (fun j _ hj => by rw [gI_sIn _ (by omega), gI' j]) (fun j _ hj => by rw [gA_sI, gA' j (by omega)]), vM, gS.eq (fun _ _ _ => rfl), vS, ⟨by omega, ?_, ?_, fun j hj => absurd hj (by omega), ?_, fun j hj => ?_⟩, ⟨by show 0 ≤ 3; omega, gI_sI _ _ _, v23, fun i s hi => by cases hi⟩, ?_⟩
      · rw [gI_sIn _ (by omega), gI' 8, kI 8 (by omega)]; exact f8
      · rw [vI 1 (by omega)]; exact t1'
      · rw [gI_sIn _ (by omega), gI' 9, kI 9 (by omega), s9', vI 7 (by omega), t7', m3, m2]
      · rw [gA_sI, gA' 35 (by omega), kA 35 (by omega), fxA 35 (by omega), vA 0 (by omega), fyA 0 (by omega)]; exact b6 j hj
      · rw [vI 19 (by omega), fyI 19 (by omega)]; exact hb
  · rw [show x_X10_may 0 1 2 τ1 = some (0, refM τ1 1 2) from m_may0 (k := 2) h0 (by decide) (by omega), bd2_some, if_pos rfl] at ex
    rw [c_need0, bt_inr] at ec
    have ec2 : x_X9_shop (iI z) σ = some (.inr (3, refC σ 2)) := by
      by_cases c : z < 0
      · rw [if_pos c] at ec; exact ec
      · rw [if_neg c, if_pos (by omega)] at ec; exact ec
    have ex2 : x_X10_shop (iI z) τ = some (0, refM τ1 1 2) := by
      by_cases c : z < 0
      · rw [if_pos c] at ex; exact ex
      · rw [if_neg c, if_pos (by omega)] at ex; exact ex
    exact StT.ref h1 ec2 ex2 List.mem_cons_self
theorem op_fresh : ∃ σf τf, (bd (x_X7_clear 0 sg0) fun σ => x_X5_begin 0 0 σ) = some σf ∧ (bd (x_X10_clears sgM0) fun σ => x_X10_sets σ) = some τf ∧ Inv σf τf := by
  have a8 : gI sg0 8 = 0 := rfl
  have a9 : gI sg0 9 = -1 := rfl
  have a10 : gI sg0 10 = 0 := rfl
  have a35 : ∀ k, gA sg0 35 k = 0 := fun _ => rfl
  have b1 : gI sgM0 1 = 0 := rfl
  have b7 : gI sgM0 7 = -1 := rfl
  have b19 : gI sgM0 19 = 0 := rfl
  have b0 : ∀ k, gA sgM0 0 k = 0 := fun _ => rfl
  generalize sg0 = σ0 at *
  generalize sgM0 = τ0 at *
  obtain ⟨σ1, e1, hC, cI, cA, cl, cd, cz⟩ := c_clear (t := 0) (by omega) σ0
  have hl : ∀ k, k < 24 → gA σ1 3 k = iI ((fun _ : Nat => (-1 : Int)) k) := fun k hk => (cl k hk).trans im1
  have hd : ∀ k, k < 24 → gA σ1 4 k = iI ((fun k : Nat => k) k : Nat) := fun k hk => cd k hk
  obtain ⟨σ2, e2, gS, gI', gA'⟩ := c_beginS (σ := σ1) hl hd
  obtain ⟨τ1, e3, hM, mI, mA, md⟩ := m_clears τ0
  have l4 : ∀ k, tS T0 ≤ k → k < 24 → (fun _ : Nat => (-1 : Int)) k = -1 := fun _ _ _ => rfl
  have l3 : ∀ k, k < tS T0 → 0 ≤ (fun _ : Nat => (-1 : Int)) k ∧ (fun _ : Nat => (-1 : Int)) k < tC T0 := fun k hk => absurd hk (by show ¬ k < 0; omega)
  have l2 : ∀ k, k < tS T0 → gA τ1 14 k = iI ((fun _ : Nat => (-1 : Int)) k) := fun k hk => absurd hk (by show ¬ k < 0; omega)
  have d1 : ∀ k, k < 24 → gA τ1 15 k = iI ((fun k : Nat => k) k : Nat) := fun k hk => md k hk
  have hs : SkOk (tC T0) (tS T0) (skT (fun _ => -1) (fun k => k)) := skT_ok (T := T0) (L := fun _ => -1) (D := fun k => k) l3 l4 (Bij.id 24) (fun _ _ _ => rfl)
  obtain ⟨τ2, e4, vM, vS, v23, vI, vA⟩ := m_sets (τ := τ1) (T := T0) (L := fun _ => -1) (D := fun k => k) T0_ok hM l2 l3 l4 d1
  have q1 : (bd (x_X7_clear 0 σ0) fun σ => x_X5_begin 0 0 σ) = some σ2 := by rw [e1, bd_some, e2]
  have q2 : (bd (x_X10_clears τ0) fun σ => x_X10_sets σ) = some τ2 := by rw [e3, bd_some, e4]
  have hC2 : TdC 0 σ2 T0 := hC.eq (fun j _ _ => gI' j) (fun j _ hj => gA' j (by omega))
  have hB : ShB σ2 τ2 0 := by
    refine ⟨by omega, ?_, ?_, fun j hj => absurd hj (by omega), ?_, fun j hj => ?_⟩
    · rw [gI' 8, cI 8 (by omega), a8]; rfl
    · rw [vI 1 (by omega), mI 1 (by omega), b1]; rfl
    · rw [gI' 9, cI 9 (by omega), vI 7 (by omega), mI 7 (by omega), a9, b7]
    · rw [gA' 35 (by omega), cA 35 (by omega), vA 0 (by omega), mA 0 (by omega), a35, b0]
  have hI : ImB σ2 τ2 (tC T0) (tS T0) [] := by
    refine ⟨by show 0 ≤ 3; omega, ?_, v23, fun i s hi => by cases hi⟩
    rw [gI' 10, cI 10 (by omega), a10]; rfl
  have h19 : gI τ2 19 = 0 := by rw [vI 19 (by omega), mI 19 (by omega), b19]
  exact ⟨σ2, τ2, q1, q2, T0, skT (fun _ => -1) (fun k => k), 0, [], T0_ok, hs, hC2, vM, gS, vS, hB, hI, h19⟩
