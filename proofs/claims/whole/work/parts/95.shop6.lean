/-! shop: discs, sleeves -/
theorem disc_bad {n : Nat} {σ τ : St} (h : Md n false σ τ) (w1 w2 u1 u2 : Int32) : ∃ σ2 τ2, x_X3_readDisc_b44 w1 w2 σ = some σ2 ∧ x_X10_readOther_b222 u1 u2 τ = some τ ∧ x_X10_sign 59 τ = some τ2 ∧ Md n false σ2 τ2 ∧ FrN σ σ2 ∧ FrO τ τ2 := by
  obtain ⟨σ2, τ2, a, b, h2, f, g⟩ := ends_false h
  refine ⟨σ2, τ2, ?_, ?_, b, h2, f, g⟩
  · unfold x_X3_readDisc_b44
    rw [a, bd2_some, if_pos rfl]
  · unfold x_X10_readOther_b222
    rw [h.fine0, bd_some, if_pos rfl]
theorem Md.fault {n : Nat} {σ τ : St} (h : Md n false σ τ) : gI σ 15 ≠ 0 := by
  obtain ⟨_, _, _, _, _, _, _, q⟩ := h.mf
  exact q.1
theorem both_disc {n : Nat} {σ τ : St} {T : Td} {L : Nat → Int} {D : Nat → Nat} (h : Md n true σ τ) (hd : DrR T L D σ τ) (hc1 : 1 ≤ tC T) : ClR n σ τ (x_X3_readDisc σ) (x_X10_readOther (WO 3) τ) (fun T2 => 1 ≤ tC T2) := by
  have hS24 := hd.1.2.1
  obtain ⟨s4, s5, s6⟩ := gI5 hd.2.1
  obtain ⟨s12, s13, s14⟩ := gI13 hd.2.2.1
  have ec : x_X3_readDisc σ = x_X3_readDisc σ := rfl
  have em : x_X10_readOther (WO 3) τ = x_X10_readOther (WO 3) τ := rfl
  conv at ec => rhs; unfold x_X3_readDisc
  conv at em => rhs; unfold x_X10_readOther
  rw [s5, qs1] at ec
  rw [m_of (i := 1) (by decide), bd_some, if_neg (of_ne (i := 3) (j := 1) (by decide) (by decide) (by decide)), m_of (i := 2) (by decide), bd_some, if_neg (of_ne (i := 3) (j := 2) (by decide) (by decide) (by decide)), m_of (i := 3) (by decide), bd_some, if_pos rfl, s13, qs1] at em
  obtain ⟨o1, r1, σ1, q1, τ1, a1, b1, h1, f1, g1, u1, z1⟩ := both_number 0 ((tS T : Int) - 1) (by omega) (by omega) h
  obtain ⟨c0, τs, hh1, hh2, hs, gs, b, hbn, hb⟩ := both_here h1
  rw [show x_X3_number 0 (iI ((tS T : Int) - 1)) σ = _ from a1, bd2_some, f1.1 5 (by omega), s5, qs1] at ec
  rw [show x_X10_readNumber 0 (iI ((tS T : Int) - 1)) τ = _ from b1, bd2_some, hh1, bd2_some, gs.1 13 (by omega), g1.1 13 (by omega), s13, qs1] at em
  rcases number_cases 0 ((tS T : Int) - 1) (by omega) (by omega) hs with ⟨r2, σ2, τ2, a2, b2, h2, f2, g2⟩ | ⟨ho, v, σ2, τ2, v1, v2, a2, b2, h2, f2, g2, pl⟩
  · rw [show x_X3_number 0 (iI ((tS T : Int) - 1)) σ1 = _ from a2, bd2_some, c_blame0 h2.fault, bd_some] at ec
    rw [show x_X10_readNumber 0 (iI ((tS T : Int) - 1)) τs = _ from b2, bd2_some, h2.fine0, bd_some, if_pos rfl] at em
    obtain ⟨σ3, τ3, k1, k2, k3, h3, f3, g3⟩ := disc_bad h2 r1 r2 q1 0
    rw [k1] at ec
    rw [k2] at em
    refine ClR.bad (σ2 := σ3) ?_ em k3 h3 (f1.trans (f2.trans f3)).q (g1.trans (gs.trans (g2.trans g3))).t
    rw [ec]; split <;> rfl
  · obtain ⟨-, ⟨w, w1, w2, rfl, rfl⟩, -⟩ := u1 ho
    have fN2 := f1.trans f2
    have gO2 := g1.trans (gs.trans g2)
    obtain ⟨k, rfl⟩ := Int.eq_ofNat_of_zero_le v1
    obtain ⟨j, rfl⟩ := Int.eq_ofNat_of_zero_le w1
    have hk : k < tS T := by omega
    have hj : j < tS T := by omega
    rw [show x_X3_number 0 (iI ((tS T : Int) - 1)) σ1 = _ from a2, bd2_some, r_eq (by omega) (by omega) (by omega) (by omega)] at ec
    rw [show x_X10_readNumber 0 (iI ((tS T : Int) - 1)) τs = _ from b2, bd2_some, h2.fine1, bd_some, if_neg (by decide), r_eq (by omega) (by omega) (by omega) (by omega)] at em
    obtain ⟨hc2, aa, aa', bb, haa, haa', h13, h3', h15, h4', h11, -, -⟩ := h2.mt
    by_cases e : (k : Int) = j
    · rw [if_pos e, c_blame1 h15, bd_some, pl c0 τs hh2] at ec
      rw [if_pos e.symm, m_wrong1 h4', bd_some] at em
      have hbad : Md n false (sI (sI σ2 15 2) 11 (gI τs 3)) (sI (sI τ2 4 (gI τs 3)) 5 2) := Md.tell hc2 haa haa' h13 h3' (by decide) (by rw [hb]; exact iI_nm1 (by have := hc2.1; omega))
      obtain ⟨σ3, τ3, k1, k2, k3, h3, f3, g3⟩ := disc_bad hbad (iI j) (iI k) (iI j) (iI k)
      rw [k1] at ec
      rw [k2] at em
      exact ClR.bad ec em k3 h3 (fN2.trans ((FrN.sI (by omega)).trans ((FrN.sI (by omega)).trans f3))).q (gO2.trans ((FrO.sI (by omega)).trans ((FrO.sI (by omega)).trans g3))).t
    · rw [if_neg e] at ec
      rw [if_neg (fun q => e q.symm)] at em
      have eb : x_X10_readOther_b222 (iI j) (iI k) τ2 = some (sA τ2 15 (upd (upd (gA τ2 15) j (gA τ2 15 k)) k (gA τ2 15 j))) := by
        unfold x_X10_readOther_b222
        rw [h2.fine1, bd_some, if_neg (by decide), ldI_in (show j < lenM 15 from (show j < 24 by omega)) (by decide), bd_some, ldI_in (show k < lenM 15 from (show k < 24 by omega)) (by decide), bd_some, stI_in (show j < lenM 15 from (show j < 24 by omega)) (by decide), bd_some, stI_in (show k < lenM 15 from (show k < 24 by omega)) (by decide), bd_some, gA_sA, sA_sA]
      rw [eb] at em
      unfold x_X3_readDisc_b44 at ec
      have gT : FrT τ (sA τ2 15 (upd (upd (gA τ2 15) j (gA τ2 15 k)) k (gA τ2 15 j))) := gO2.t.trans (FrT.sA (by omega))
      rcases ends_cases (h2.sM (j := 15) (f := upd (upd (gA τ2 15) j (gA τ2 15 k)) k (gA τ2 15 j)) (by omega)) with ⟨σ3, τ3, a3, b3, h3, f3, g3⟩ | ⟨-, σ3, τ3, a3, b3, h3, f3, g3⟩
      · rw [a3, bd2_some, if_pos rfl] at ec
        exact ClR.bad ec em b3 h3 (fN2.trans f3).q (gT.trans g3.t)
      · have fN := fN2.trans f3
        rw [a3, bd2_some, if_neg (by decide), f_swap, putF_in (show j < lenN 11 from (show j < 24 by omega)) (by decide), putF_in (show k < lenN 11 from (show k < 24 by omega)) (by decide), atF_in (show j < lenN 11 from (show j < 24 by omega)) (by decide), atF_in (show k < lenN 11 from (show k < 24 by omega)) (by decide), bd_some] at ec
        refine ⟨true, _, _, τ3, ec, em, b3, h3.sC (by omega), fN.q.trans (FrQ.sA (by omega)), gT.trans g3.t, fun _ => ⟨T, L, swapN D j k, ?_, hc1⟩⟩
        have eC : ∀ i, i ≠ 11 → gA (sA σ3 11 (upd (upd (gA σ3 11) j (gA σ3 11 k)) k (gA σ3 11 j))) i = gA σ i := fun i hi => (gA_sAn _ hi _).trans (fN.2 i)
        have eC11 : gA (sA σ3 11 (upd (upd (gA σ3 11) j (gA σ3 11 k)) k (gA σ3 11 j))) 11 = upd (upd (gA σ 11) j (gA σ 11 k)) k (gA σ 11 j) := by rw [gA_sA, fN.2 11]
        have eCi : ∀ i, 4 ≤ i ∧ i ≤ 7 → gI (sA σ3 11 (upd (upd (gA σ3 11) j (gA σ3 11 k)) k (gA σ3 11 j))) i = gI σ i := fun i hi => fN.1 i (by omega)
        have eM : ∀ i, i ≠ 15 → gA τ3 i = gA τ i := fun i hi => by rw [g3.2 i, gA_sAn _ hi, gO2.2 i]
        have eM15 : gA τ3 15 = upd (upd (gA τ 15) j (gA τ 15 k)) k (gA τ 15 j) := by rw [g3.2 15, gA_sA, gO2.2 15]
        have eMi : ∀ i, 12 ≤ i ∧ i ≤ 15 → gI τ3 i = gI τ i := fun i hi => by rw [g3.1 i (by omega), gI_sA, gO2.1 i (by omega)]
        obtain ⟨⟨t1, t2, t3, t4, t5, t6, t7, t8, t9, t10, t11⟩, ⟨c1, c2, c3, c4, c5, c6, c7, c8, c9, c10⟩, ⟨m1, m2, m3, m4, m5, m6, m7, m8, m9⟩, l1, l2, l3, l4, d1, d2, d3, z5⟩ := hd
        refine ⟨⟨t1, t2, t3, t4, t5, t6, t7, t8, t9, t10, t11⟩, ⟨(eCi 4 (by omega)).trans c1, (eCi 5 (by omega)).trans c2, (eCi 6 (by omega)).trans c3, (eCi 7 (by omega)).trans c4, fun c hc => (congrFun (eC 8 (by omega)) _).trans (c5 c hc), fun k w hk hw => (congrFun (eC 9 (by omega)) _).trans (c6 k w hk hw), fun k hk => (congrFun (eC 9 (by omega)) _).trans (c7 k hk), fun k w hk hw => (congrFun (eC 12 (by omega)) _).trans (c8 k w hk hw), fun f h1 h2 => (congrFun (eC 13 (by omega)) _).trans (c9 f h1 h2), fun i hi => (congrFun (eC 14 (by omega)) _).trans (c10 i hi)⟩, ⟨(eMi 12 (by omega)).trans m1, (eMi 13 (by omega)).trans m2, (eMi 14 (by omega)).trans m3, (eMi 15 (by omega)).trans m4, fun c hc => (congrFun (eM 9 (by omega)) _).trans (m5 c hc), fun k w hk hw => (congrFun (eM 10 (by omega)) _).trans (m6 k w hk hw), fun k w hk hw => (congrFun (eM 11 (by omega)) _).trans (m7 k w hk hw), fun f h1 h2 => (congrFun (eM 12 (by omega)) _).trans (m8 f h1 h2), fun i hi => (congrFun (eM 13 (by omega)) _).trans (m9 i hi)⟩, fun k hk => (congrFun (eC 10 (by omega)) _).trans (l1 k hk), fun k hk => (congrFun (eM 14 (by omega)) _).trans (l2 k hk), l3, l4, ?_, ?_, ?_, fun k h1 h2 => (congrFun (eC 12 (by omega)) _).trans (z5 k h1 h2)⟩
        · intro i hi
          rw [eC11, eM15]
          unfold upd swapN
          by_cases e1 : i = k
          · rw [if_pos e1, if_pos e1, if_pos e1]; exact d1 j (by omega)
          · rw [if_neg e1, if_neg e1, if_neg e1]
            by_cases e2 : i = j
            · rw [if_pos e2, if_pos e2, if_pos e2]; exact d1 k (by omega)
            · rw [if_neg e2, if_neg e2, if_neg e2]; exact d1 i hi
        · exact d2.swap (by omega) (by omega)
        · intro i i1 i2
          unfold swapN
          rw [if_neg (by omega), if_neg (by omega)]
          exact d3 i i1 i2
theorem c_ownCrate {σ : St} {T : Td} {x : Int} (hT : TdOk T) (hC : TdC 1 σ T) (hc1 : 1 ≤ tC T) (hx : ok32 x) : x_X7_ownCrate 1 (iI x) σ = some (iI (ownN (tLe T) x (tC T))) := by
  have hC8 := hT.1
  obtain ⟨x1, x2⟩ := hx
  have key := lp_run (f := fun w : (Int32 × Int32) => x_X7_ownCrate_L4 1 (iI x) σ w.1 w.2) (fun i => (iI (ownN (tLe T) x (i + 1) : Nat), iI ((i + 1 : Nat) : Int))) (w := (iI (ownN (tLe T) x (tC T) : Nat), iI ((tC T : Nat) : Int))) (tC T - 1) FU (by unfold FU; omega) (fun i hi => ?_) ?_
  · have e0 : ownN (tLe T) x (0 + 1) = 0 := by
      show (if tLe T 0 ≤ x then 0 else ownN (tLe T) x 0) = 0
      split <;> rfl
    unfold x_X7_ownCrate
    simp only [e0] at key
    show bd2 (lp _ FU (iI ((0 : Nat) : Int), iI ((0 + 1 : Nat) : Int))) _ = _
    rw [key]; rfl
  · have hle := hT.2.2.2.2.2.1 (i + 1) (by omega)
    show x_X7_ownCrate_L4 1 (iI x) σ (iI (ownN (tLe T) x (i + 1) : Nat)) (iI ((i + 1 : Nat) : Int)) = _
    unfold x_X7_ownCrate_L4
    rw [show gI σ (4 * 1) = iI (tC T) from hC.1]
    simp (disch := omega) only [iI_leD]
    rw [if_neg (by omega), show x_X2_at (1 + 7 * 1) (iI ((i + 1 : Nat) : Int)) σ = _ from f_at 8 _ σ, bd_some, atF_in (show i + 1 < lenN 8 from (show i + 1 < 8 by omega)) (by decide), show gA σ 8 (i + 1) = iI (tLe T (i + 1)) from hC.2.2.2.2.1 (i + 1) (by omega)]
    simp (disch := omega) only [iI_ltD, qa1]
    by_cases c : x < tLe T (i + 1)
    · rw [if_pos c, show ownN (tLe T) x (i + 1 + 1) = if tLe T (i + 1) ≤ x then i + 1 else ownN (tLe T) x (i + 1) from rfl, if_neg (by omega)]; rfl
    · rw [if_neg c, show ownN (tLe T) x (i + 1 + 1) = if tLe T (i + 1) ≤ x then i + 1 else ownN (tLe T) x (i + 1) from rfl, if_pos (by omega)]; rfl
  · rw [show tC T - 1 + 1 = tC T from by omega]
    show x_X7_ownCrate_L4 1 (iI x) σ _ (iI ((tC T : Nat) : Int)) = _
    unfold x_X7_ownCrate_L4
    rw [show gI σ (4 * 1) = iI (tC T) from hC.1, if_pos (Int32.le_refl _)]
def slF (f : Nat → Int32) (k : Nat) (a b c d : Int32) : Nat → Int32 := upd (upd (upd (upd f (4 * k) a) (4 * k + 1) b) (4 * k + 2) c) (4 * k + 3) d
theorem c_addSleeve {σ : St} {T : Td} {x : Int} (y z : Int32) (hT : TdOk T) (hC : TdC 1 σ T) (hc1 : 1 ≤ tC T) (hS : tS T < 24) (hx : ok32 x) :
    x_X7_addSleeve 1 (iI x) y z σ = some (sI (sA (sA σ 9 (slF (gA σ 9) (tS T) (iI x) y z (iI (ownN (tLe T) x (tC T))))) 10 (upd (gA σ 10) (tS T) (iI (ownN (tLe T) x (tC T))))) 5 (iI ((tS T : Int) + 1))) := by
  have e5 : gI σ (4 * 1 + 1) = iI (tS T) := hC.2.1
  unfold x_X7_addSleeve
  rw [c_ownCrate hT hC hc1 hx, bd_some, e5, qx4, qa0, qa1, qa2, qa3, show (tS T : Int) * 4 + 0 = ((4 * tS T : Nat) : Int) from by omega, show (tS T : Int) * 4 + 1 = ((4 * tS T + 1 : Nat) : Int) from by omega, show (tS T : Int) * 4 + 2 = ((4 * tS T + 2 : Nat) : Int) from by omega, show (tS T : Int) * 4 + 3 = ((4 * tS T + 3 : Nat) : Int) from by omega]
  show bd (x_X2_put 9 (iI ((4 * tS T : Nat) : Int)) (iI x) σ) _ = _
  rw [f_put, putF_in (show 4 * tS T < lenN 9 from (show 4 * tS T < 96 by omega)) (by decide), bd_some]
  show bd (x_X2_put 9 (iI ((4 * tS T + 1 : Nat) : Int)) y _) _ = _
  rw [f_put, putF_in (show 4 * tS T + 1 < lenN 9 from (show 4 * tS T + 1 < 96 by omega)) (by decide), bd_some, gA_sA, sA_sA]
  show bd (x_X2_put 9 (iI ((4 * tS T + 2 : Nat) : Int)) z _) _ = _
  rw [f_put, putF_in (show 4 * tS T + 2 < lenN 9 from (show 4 * tS T + 2 < 96 by omega)) (by decide), bd_some, gA_sA, sA_sA]
  show bd (x_X2_put 9 (iI ((4 * tS T + 3 : Nat) : Int)) (iI (ownN (tLe T) x (tC T))) _) _ = _
  rw [f_put, putF_in (show 4 * tS T + 3 < lenN 9 from (show 4 * tS T + 3 < 96 by omega)) (by decide), bd_some, gA_sA, sA_sA]
  show bd (x_X2_put 10 (gI σ (4 * 1 + 1)) (iI (ownN (tLe T) x (tC T))) _) _ = _
  rw [e5, f_put, putF_in (show tS T < lenN 10 from hS) (by decide), bd_some]
  show bd (some (sI _ 5 (gI σ (4 * 1 + 1) + 1))) _ = _
  rw [e5, qa1, bd_some, gA_sAn _ (show 10 ≠ 9 by omega)]
  rfl
theorem both_sleeve {n : Nat} {σ τ : St} {T : Td} {L : Nat → Int} {D : Nat → Nat} (h : Md n true σ τ) (hd : DrR T L D σ τ) (hc1 : 1 ≤ tC T) (hS : tS T < 24) : ClR n σ τ (x_X3_readSleeve σ) (x_X10_readOther (WO 1) τ) (fun T2 => 1 ≤ tC T2) := by
  have hC8 := hd.1.1
  have hle := hd.1.2.2.2.2.2.1
  obtain ⟨s12, s13, s14⟩ := gI13 hd.2.2.1
  have ec : x_X3_readSleeve σ = x_X3_readSleeve σ := rfl
  have em : x_X10_readOther (WO 1) τ = x_X10_readOther (WO 1) τ := rfl
  conv at ec => rhs; unfold x_X3_readSleeve
  conv at em => rhs; unfold x_X10_readOther
  rw [m_of (i := 1) (by decide), bd_some, if_pos rfl, s13, qy3, qa1, qa2, show 3 * (tS T : Int) = ((3 * tS T : Nat) : Int) from by omega, show ((3 * tS T : Nat) : Int) + 1 = ((3 * tS T + 1 : Nat) : Int) from by omega, show ((3 * tS T : Nat) : Int) + 2 = ((3 * tS T + 2 : Nat) : Int) from by omega] at em
  obtain ⟨o1, r1, σ1, q1, τ1, a1, b1, h1, f1, g1, u1, -⟩ := both_number 0 25 (by omega) (by omega) h
  have h1s := h1.sM (j := 10) (f := upd (gA τ1 10) (3 * tS T) q1) (by omega)
  obtain ⟨o2, r2, σ2, q2, τ2, a2, b2, h2, f2, g2, u2, -⟩ := both_number 1 99 (by omega) (by omega) h1s
  have e2 : gA τ2 10 = upd (gA τ 10) (3 * tS T) q1 := by rw [g2.2 10, gA_sA, g1.2 10]
  have h2s := h2.sM (j := 10) (f := upd (gA τ2 10) (3 * tS T + 1) q2) (by omega)
  obtain ⟨o3, r3, σ3, q3, τ3, a3, b3, h3, f3, g3, u3, -⟩ := both_number 0 9 (by omega) (by omega) h2s
  have e3 : gA τ3 10 = upd (upd (gA τ 10) (3 * tS T) q1) (3 * tS T + 1) q2 := by rw [g3.2 10, gA_sA, e2]
  have n12 : gI τ3 12 = iI (tC T) := by rw [g3.1 12 (by omega), gI_sA, g2.1 12 (by omega), gI_sA, g1.1 12 (by omega)]; exact s12
  have n13 : gI τ3 13 = iI (tS T) := by rw [g3.1 13 (by omega), gI_sA, g2.1 13 (by omega), gI_sA, g1.1 13 (by omega)]; exact s13
  have o9 : gA τ3 9 = gA τ 9 := by rw [g3.2 9, gA_sAn _ (by omega), g2.2 9, gA_sAn _ (by omega), g1.2 9]
  have o14 : gA τ3 14 = gA τ 14 := by rw [g3.2 14, gA_sAn _ (by omega), g2.2 14, gA_sAn _ (by omega), g1.2 14]
  have o15 : gA τ3 15 = gA τ 15 := by rw [g3.2 15, gA_sAn _ (by omega), g2.2 15, gA_sAn _ (by omega), g1.2 15]
  obtain ⟨x, hx, hq⟩ := ex_iI q1
  rw [show x_X10_readNumber 0 25 τ = _ from b1, bd2_some, stI_in (show 3 * tS T < lenM 10 from (show 3 * tS T < 72 by omega)) (by decide), bd_some, show x_X10_readNumber 1 99 _ = _ from b2, bd2_some, stI_in (show 3 * tS T + 1 < lenM 10 from (show 3 * tS T + 1 < 72 by omega)) (by decide), bd_some, show x_X10_readNumber 0 9 _ = _ from b3, bd2_some, stI_in (show 3 * tS T + 2 < lenM 10 from (show 3 * tS T + 2 < 72 by omega)) (by decide), bd_some, gA_sA, ldI_in (show 3 * tS T < lenM 10 from (show 3 * tS T < 72 by omega)) (by decide), bd_some, e3] at em
  rw [show upd (upd (upd (gA τ 10) (3 * tS T) q1) (3 * tS T + 1) q2) (3 * tS T + 2) q3 (3 * tS T) = iI x from by
    unfold upd
    rw [if_neg (by omega), if_neg (by omega), if_pos rfl, hq], gI_sA, n12, m_ownOf (j := 9) (le := tLe T) rfl hC8 hx (fun c hc => ⟨by rw [gA_sAn _ (by omega), o9]; exact hd.2.2.1.2.2.2.2.1 c hc, by have := hle c hc; exact ⟨by omega, by omega⟩⟩), bd_some, stI_in (show tS T < lenM 14 from hS) (by decide), bd_some, gA_sAn _ (show 14 ≠ 10 by omega), o14, stI_in (show tS T < lenM 15 from hS) (by decide), bd_some, gA_sAn _ (show 15 ≠ 14 by omega), gA_sAn _ (show 15 ≠ 10 by omega), o15, gI_sA, gI_sA, gI_sA, n13, qa1, bd_some] at em
  have hM := (((h3.sM (j := 10) (f := upd (upd (upd (gA τ 10) (3 * tS T) q1) (3 * tS T + 1) q2) (3 * tS T + 2) q3) (by omega)).sM (j := 14) (f := upd (gA τ 14) (tS T) (iI (ownN (tLe T) x (tC T)))) (by omega)).sM (j := 15) (f := upd (gA τ 15) (tS T) (iI (tS T))) (by omega)).sMI (j := 13) (v := iI ((tS T : Int) + 1)) (by omega)
  have gT : FrT τ (sI (sA (sA (sA τ3 10 (upd (upd (upd (gA τ 10) (3 * tS T) q1) (3 * tS T + 1) q2) (3 * tS T + 2) q3)) 14 (upd (gA τ 14) (tS T) (iI (ownN (tLe T) x (tC T))))) 15 (upd (gA τ 15) (tS T) (iI (tS T)))) 13 (iI ((tS T : Int) + 1))) :=
    g1.t.trans ((FrT.sA (by omega)).trans (g2.t.trans ((FrT.sA (by omega)).trans (g3.t.trans ((FrT.sA (by omega)).trans ((FrT.sA (by omega)).trans ((FrT.sA (by omega)).trans (FrT.sI (by omega)))))))))
  rw [show x_X3_number 0 25 σ = _ from a1, bd2_some, show x_X3_number 1 99 σ1 = _ from a2, bd2_some, show x_X3_number 0 9 σ2 = _ from a3, bd2_some] at ec
  have fN3 := f1.trans (f2.trans f3)
  rcases ends_cases hM with ⟨σ4, τ4, a4, b4, h4, f4, g4⟩ | ⟨ho, σ4, τ4, a4, b4, h4, f4, g4⟩
  · rw [a4, bd2_some, if_pos rfl] at ec
    exact ClR.bad ec em b4 h4 (fN3.trans f4).q (gT.trans g4.t)
  · obtain ⟨ho2, ⟨v3, v31, v32, rfl, rfl⟩, -⟩ := u3 ho
    obtain ⟨ho1, ⟨v2, v21, v22, rfl, rfl⟩, -⟩ := u2 ho2
    obtain ⟨-, ⟨v1, v11, v12, rfl, hv1⟩, -⟩ := u1 ho1
    have hxv : x = v1 := by
      have hh := hq.symm.trans hv1
      rw [iI_eqD hx.1 hx.2 (by omega) (by omega)] at hh
      exact hh
    subst hxv
    subst hq
    have fN := fN3.trans f4
    have hC4 : TdC 1 σ4 T := hd.2.1.eq (fun k _ _ => fN.1 k (by omega)) (fun j _ _ => fN.2 j)
    rw [a4, bd2_some, if_neg (by decide), c_addSleeve _ _ hd.1 hC4 hc1 hS hx, bd_some, fN.2 9, fN.2 10] at ec
    have hown := ownN_lt (tLe T) x (n := tC T) (by omega)
    generalize hO : ownN (tLe T) x (tC T) = O at *
    refine ⟨true, _, _, τ4, ec, em, b4, ((h4.sC (by omega)).sC (by omega)).sCI (by omega), fN.q.trans ((FrQ.sA (by omega)).trans ((FrQ.sA (by omega)).trans (FrQ.sI (by omega)))), gT.trans g4.t, fun _ => ⟨((tC T, tS T + 1, tL T, tH T), tLe T, (fun i w => if i = tS T then (if w = 0 then x else if w = 1 then v2 else v3) else tSp T i w), tLk T, tMi T, tWt T), updZ L (tS T) O, D, ?_, hc1⟩⟩
    have eC : ∀ j, j ≠ 9 ∧ j ≠ 10 → gA (sI (sA (sA σ4 9 (slF (gA σ 9) (tS T) (iI x) (iI v2) (iI v3) (iI O))) 10 (upd (gA σ 10) (tS T) (iI O))) 5 (iI ((tS T : Int) + 1))) j = gA σ j := fun j hj => by rw [gA_sI, gA_sAn _ hj.2, gA_sAn _ hj.1, fN.2 j]
    have eC9 : gA (sI (sA (sA σ4 9 (slF (gA σ 9) (tS T) (iI x) (iI v2) (iI v3) (iI O))) 10 (upd (gA σ 10) (tS T) (iI O))) 5 (iI ((tS T : Int) + 1))) 9 = slF (gA σ 9) (tS T) (iI x) (iI v2) (iI v3) (iI O) := by rw [gA_sI, gA_sAn _ (by omega), gA_sA]
    have eC10 : gA (sI (sA (sA σ4 9 (slF (gA σ 9) (tS T) (iI x) (iI v2) (iI v3) (iI O))) 10 (upd (gA σ 10) (tS T) (iI O))) 5 (iI ((tS T : Int) + 1))) 10 = upd (gA σ 10) (tS T) (iI O) := by rw [gA_sI, gA_sA]
    have eCi : ∀ i, i = 4 ∨ i = 6 ∨ i = 7 → gI (sI (sA (sA σ4 9 (slF (gA σ 9) (tS T) (iI x) (iI v2) (iI v3) (iI O))) 10 (upd (gA σ 10) (tS T) (iI O))) 5 (iI ((tS T : Int) + 1))) i = gI σ i := fun i hi => (gI_sIn _ (by omega) _).trans (fN.1 i (by omega))
    have eCi5 : gI (sI (sA (sA σ4 9 (slF (gA σ 9) (tS T) (iI x) (iI v2) (iI v3) (iI O))) 10 (upd (gA σ 10) (tS T) (iI O))) 5 (iI ((tS T : Int) + 1))) 5 = iI ((tS T : Int) + 1) := gI_sI _ _ _
    generalize sI (sA (sA σ4 9 (slF (gA σ 9) (tS T) (iI x) (iI v2) (iI v3) (iI O))) 10 (upd (gA σ 10) (tS T) (iI O))) 5 (iI ((tS T : Int) + 1)) = σ5 at *
    have eM : ∀ j, j ≠ 10 ∧ j ≠ 14 ∧ j ≠ 15 → gA τ4 j = gA τ j := fun j hj => by rw [g4.2 j, gA_sI, gA_sAn _ hj.2.2, gA_sAn _ hj.2.1, gA_sAn _ hj.1, g3.2 j, gA_sAn _ hj.1, g2.2 j, gA_sAn _ hj.1, g1.2 j]
    have eM10 : gA τ4 10 = upd (upd (upd (gA τ 10) (3 * tS T) (iI x)) (3 * tS T + 1) (iI v2)) (3 * tS T + 2) (iI v3) := by rw [g4.2 10, gA_sI, gA_sAn _ (by omega), gA_sAn _ (by omega), gA_sA]
    have eM14 : gA τ4 14 = upd (gA τ 14) (tS T) (iI O) := by rw [g4.2 14, gA_sI, gA_sAn _ (by omega), gA_sA]
    have eM15 : gA τ4 15 = upd (gA τ 15) (tS T) (iI (tS T)) := by rw [g4.2 15, gA_sI, gA_sA]
    have eMi : ∀ i, i = 12 ∨ i = 14 ∨ i = 15 → gI τ4 i = gI τ i := fun i hi => by rw [g4.1 i (by omega), gI_sIn _ (by omega), gI_sA, gI_sA, gI_sA, g3.1 i (by omega), gI_sA, g2.1 i (by omega), gI_sA, g1.1 i (by omega)]
    have eMi13 : gI τ4 13 = iI ((tS T : Int) + 1) := by rw [g4.1 13 (by omega), gI_sI]
    obtain ⟨⟨t1, t2, t3, t4, t5, t6, t7, t8, t9, t10, t11⟩, ⟨c1, c2, c3, c4, c5, c6, c7, c8, c9, c10⟩, ⟨m1, m2, m3, m4, m5, m6, m7, m8, m9⟩, l1, l2, l3, l4, d1, d2, d3, z5⟩ := hd
    refine ⟨⟨t1, show tS T + 1 ≤ 24 by omega, t3, t4, fun q => absurd (show tC T = 0 from q) (by omega), t6, ?_, t8, t9, t10, t11⟩, ⟨(eCi 4 (by omega)).trans c1, eCi5, (eCi 6 (by omega)).trans c3, (eCi 7 (by omega)).trans c4, fun c hc => (congrFun (eC 8 (by omega)) _).trans (c5 c hc), ?_, ?_, fun k w hk hw => (congrFun (eC 12 (by omega)) _).trans (c8 k w hk hw), fun f h1 h2 => (congrFun (eC 13 (by omega)) _).trans (c9 f h1 h2), fun i hi => (congrFun (eC 14 (by omega)) _).trans (c10 i hi)⟩, ⟨(eMi 12 (by omega)).trans m1, eMi13, (eMi 14 (by omega)).trans m3, (eMi 15 (by omega)).trans m4, fun c hc => (congrFun (eM 9 (by omega)) _).trans (m5 c hc), ?_, fun k w hk hw => (congrFun (eM 11 (by omega)) _).trans (m7 k w hk hw), fun f h1 h2 => (congrFun (eM 12 (by omega)) _).trans (m8 f h1 h2), fun i hi => (congrFun (eM 13 (by omega)) _).trans (m9 i hi)⟩, ?_, ?_, ?_, ?_, ?_, d2, fun i i1 i2 => d3 i (by have : tS T + 1 ≤ i := i1; omega) i2, fun k h1 h2 => (congrFun (eC 12 (by omega)) _).trans (z5 k h1 h2)⟩
    · intro i hi
      have hi : i < tS T + 1 := hi
      show 0 ≤ (if i = tS T then (if (0 : Nat) = 0 then x else if (0 : Nat) = 1 then v2 else v3) else tSp T i 0) ∧ (if i = tS T then (if (0 : Nat) = 0 then x else if (0 : Nat) = 1 then v2 else v3) else tSp T i 0) ≤ 25 ∧ 1 ≤ (if i = tS T then (if (1 : Nat) = 0 then x else if (1 : Nat) = 1 then v2 else v3) else tSp T i 1) ∧ (if i = tS T then (if (1 : Nat) = 0 then x else if (1 : Nat) = 1 then v2 else v3) else tSp T i 1) ≤ 99 ∧ 0 ≤ (if i = tS T then (if (2 : Nat) = 0 then x else if (2 : Nat) = 1 then v2 else v3) else tSp T i 2) ∧ (if i = tS T then (if (2 : Nat) = 0 then x else if (2 : Nat) = 1 then v2 else v3) else tSp T i 2) ≤ 9
      by_cases e : i = tS T
      · rw [if_pos e, if_pos e, if_pos e, if_pos rfl, if_neg (by omega), if_pos rfl, if_neg (by omega), if_neg (by omega)]
        exact ⟨v11, v12, v21, v22, v31, v32⟩
      · rw [if_neg e, if_neg e, if_neg e]
        exact t7 i (by omega)
    · intro i w hi hw
      have hi : i < tS T + 1 := hi
      show gA _ 9 (4 * i + w) = iI (if i = tS T then (if w = 0 then x else if w = 1 then v2 else v3) else tSp T i w)
      rw [eC9]
      unfold slF upd
      by_cases e : i = tS T
      · rw [if_pos e, if_neg (by omega)]
        by_cases w0 : w = 0
        · rw [if_pos w0, if_neg (by omega), if_neg (by omega), if_pos (by omega)]
        · rw [if_neg w0]
          by_cases w1 : w = 1
          · rw [if_pos w1, if_neg (by omega), if_pos (by omega)]
          · rw [if_neg w1, if_pos (by omega)]
      · rw [if_neg e, if_neg (by omega), if_neg (by omega), if_neg (by omega), if_neg (by omega)]
        exact c6 i w (by omega) hw
    · intro i hi
      have hi : i < tS T + 1 := hi
      show gA _ 9 (4 * i + 3) = iI (ownN (tLe T) (if i = tS T then (if (0 : Nat) = 0 then x else if (0 : Nat) = 1 then v2 else v3) else tSp T i 0) (tC T))
      rw [eC9]
      unfold slF upd
      by_cases e : i = tS T
      · rw [if_pos e, if_pos rfl, if_pos (by omega), hO]
      · rw [if_neg e, if_neg (by omega), if_neg (by omega), if_neg (by omega), if_neg (by omega)]
        exact c7 i (by omega)
    · intro i w hi hw
      have hi : i < tS T + 1 := hi
      show gA _ 10 (3 * i + w) = iI (if i = tS T then (if w = 0 then x else if w = 1 then v2 else v3) else tSp T i w)
      rw [eM10]
      unfold upd
      by_cases e : i = tS T
      · rw [if_pos e]
        by_cases w0 : w = 0
        · rw [if_pos w0, if_neg (by omega), if_neg (by omega), if_pos (by omega)]
        · rw [if_neg w0]
          by_cases w1 : w = 1
          · rw [if_pos w1, if_neg (by omega), if_pos (by omega)]
          · rw [if_neg w1, if_pos (by omega)]
      · rw [if_neg e, if_neg (by omega), if_neg (by omega), if_neg (by omega)]
        exact m6 i w (by omega) hw
    · intro i hi
      rw [eC10]
      unfold upd updZ
      by_cases e : i = tS T
      · rw [if_pos e, if_pos e]
      · rw [if_neg e, if_neg e]; exact l1 i hi
    · intro i hi
      have hi : i < tS T + 1 := hi
      rw [eM14]
      unfold upd updZ
      by_cases e : i = tS T
      · rw [if_pos e, if_pos e]
      · rw [if_neg e, if_neg e]; exact l2 i (by omega)
    · intro i hi
      have hi : i < tS T + 1 := hi
      show 0 ≤ updZ L (tS T) O i ∧ updZ L (tS T) O i < tC T
      unfold updZ
      by_cases e : i = tS T
      · rw [if_pos e]; omega
      · rw [if_neg e]; exact l3 i (by omega)
    · intro i i1 i2
      have i1 : tS T + 1 ≤ i := i1
      unfold updZ
      rw [if_neg (by omega)]
      exact l4 i (by omega) i2
    · intro i hi
      refine ⟨(congrFun (eC 11 (by omega)) _).trans (d1 i hi).1, ?_⟩
      rw [eM15]
      unfold upd
      by_cases e : i = tS T
      · rw [if_pos e, d3 i (by omega) hi, e]
      · rw [if_neg e]; exact (d1 i hi).2
