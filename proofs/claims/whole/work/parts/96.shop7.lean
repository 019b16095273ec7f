/-! shop: lookers, and how what is held up is put back -/
def lkF (f : Nat → Int32) (k : Nat) (a b c d e : Int32) : Nat → Int32 := upd (upd (upd (upd (upd f (6 * k) a) (6 * k + 1) b) (6 * k + 2) c) (6 * k + 3) d) (6 * k + 4) e
theorem c_addLooker {σ : St} {T : Td} (a b c d e : Int32) (hC : TdC 1 σ T) (hL : tL T < 6) :
    x_X7_addLooker 1 a b c d e σ = some (sI (sA σ 12 (lkF (gA σ 12) (tL T) a b c d e)) 6 (iI ((tL T : Int) + 1))) := by
  have e6 : gI σ (4 * 1 + 2) = iI (tL T) := hC.2.2.1
  unfold x_X7_addLooker
  rw [e6, qx6, qa0, qa1, qa2, qa3, qa4, show (tL T : Int) * 6 + 0 = ((6 * tL T : Nat) : Int) from by omega, show (tL T : Int) * 6 + 1 = ((6 * tL T + 1 : Nat) : Int) from by omega, show (tL T : Int) * 6 + 2 = ((6 * tL T + 2 : Nat) : Int) from by omega, show (tL T : Int) * 6 + 3 = ((6 * tL T + 3 : Nat) : Int) from by omega, show (tL T : Int) * 6 + 4 = ((6 * tL T + 4 : Nat) : Int) from by omega]
  show bd (x_X2_put 12 (iI ((6 * tL T : Nat) : Int)) a σ) _ = _
  rw [f_put, putF_in (show 6 * tL T < lenN 12 from (show 6 * tL T < 36 by omega)) (by decide), bd_some]
  show bd (x_X2_put 12 (iI ((6 * tL T + 1 : Nat) : Int)) b _) _ = _
  rw [f_put, putF_in (show 6 * tL T + 1 < lenN 12 from (show 6 * tL T + 1 < 36 by omega)) (by decide), bd_some, gA_sA, sA_sA]
  show bd (x_X2_put 12 (iI ((6 * tL T + 2 : Nat) : Int)) c _) _ = _
  rw [f_put, putF_in (show 6 * tL T + 2 < lenN 12 from (show 6 * tL T + 2 < 36 by omega)) (by decide), bd_some, gA_sA, sA_sA]
  show bd (x_X2_put 12 (iI ((6 * tL T + 3 : Nat) : Int)) d _) _ = _
  rw [f_put, putF_in (show 6 * tL T + 3 < lenN 12 from (show 6 * tL T + 3 < 36 by omega)) (by decide), bd_some, gA_sA, sA_sA]
  show bd (x_X2_put 12 (iI ((6 * tL T + 4 : Nat) : Int)) e _) _ = _
  rw [f_put, putF_in (show 6 * tL T + 4 < lenN 12 from (show 6 * tL T + 4 < 36 by omega)) (by decide), bd_some, gA_sA, sA_sA]
  show bd (some (sI _ 6 (gI σ (4 * 1 + 2) + 1))) _ = _
  rw [e6, qa1, bd_some]
  rfl
theorem both_looker {n : Nat} {σ τ : St} {T : Td} {L : Nat → Int} {D : Nat → Nat} (h : Md n true σ τ) (hd : DrR T L D σ τ) (hc1 : 1 ≤ tC T) (hL : tL T < 6) : ClR n σ τ (x_X3_readLooker σ) (x_X10_readOther (WO 4) τ) (fun T2 => 1 ≤ tC T2) := by
  obtain ⟨s12, s13, s14⟩ := gI13 hd.2.2.1
  have ec : x_X3_readLooker σ = x_X3_readLooker σ := rfl
  have em : x_X10_readOther (WO 4) τ = x_X10_readOther (WO 4) τ := rfl
  conv at ec => rhs; unfold x_X3_readLooker
  conv at em => rhs; unfold x_X10_readOther
  rw [m_of (i := 1) (by decide), bd_some, if_neg (of_ne (i := 4) (j := 1) (by decide) (by decide) (by decide)), m_of (i := 2) (by decide), bd_some, if_neg (of_ne (i := 4) (j := 2) (by decide) (by decide) (by decide)), m_of (i := 3) (by decide), bd_some, if_neg (of_ne (i := 4) (j := 3) (by decide) (by decide) (by decide)), m_of (i := 4) (by decide), bd_some, if_pos rfl, s14, qy6, qa1, qa2, qa3, qa4, qa5, show 6 * (tL T : Int) = ((6 * tL T : Nat) : Int) from by omega, show ((6 * tL T : Nat) : Int) + 1 = ((6 * tL T + 1 : Nat) : Int) from by omega, show ((6 * tL T : Nat) : Int) + 2 = ((6 * tL T + 2 : Nat) : Int) from by omega, show ((6 * tL T : Nat) : Int) + 3 = ((6 * tL T + 3 : Nat) : Int) from by omega, show ((6 * tL T : Nat) : Int) + 4 = ((6 * tL T + 4 : Nat) : Int) from by omega, show ((6 * tL T : Nat) : Int) + 5 = ((6 * tL T + 5 : Nat) : Int) from by omega] at em
  have i0 : 6 * tL T < lenM 11 := show 6 * tL T < 36 by omega
  have i1 : 6 * tL T + 1 < lenM 11 := show 6 * tL T + 1 < 36 by omega
  have i2 : 6 * tL T + 2 < lenM 11 := show 6 * tL T + 2 < 36 by omega
  have i3 : 6 * tL T + 3 < lenM 11 := show 6 * tL T + 3 < 36 by omega
  have i4 : 6 * tL T + 4 < lenM 11 := show 6 * tL T + 4 < 36 by omega
  have i5 : 6 * tL T + 5 < lenM 11 := show 6 * tL T + 5 < 36 by omega
  obtain ⟨o1, r1, σ1, q1, τ1, a1, b1, h1, f1, g1, u1, -⟩ := both_number 0 600 (by omega) (by omega) h
  obtain ⟨o2, r2, σ2, q2, τ2, a2, b2, h2, f2, g2, u2, -⟩ := both_number 1 8 (by omega) (by omega) (h1.sM (j := 11) (f := upd (gA τ1 11) (6 * tL T) q1) (by omega))
  have e2 : gA τ2 11 = upd (gA τ 11) (6 * tL T) q1 := by rw [g2.2 11, gA_sA, g1.2 11]
  obtain ⟨o3, r3, σ3, q3, τ3, a3, b3, h3, f3, g3, u3, -⟩ := both_number 0 9 (by omega) (by omega) (h2.sM (j := 11) (f := upd (gA τ2 11) (6 * tL T + 1) q2) (by omega))
  have e3 : gA τ3 11 = upd (upd (gA τ 11) (6 * tL T) q1) (6 * tL T + 1) q2 := by rw [g3.2 11, gA_sA, e2]
  obtain ⟨o4, r4, σ4, q4, τ4, a4, b4, h4, f4, g4, u4, -⟩ := both_number 0 99 (by omega) (by omega) (h3.sM (j := 11) (f := upd (gA τ3 11) (6 * tL T + 2) q3) (by omega))
  have e4 : gA τ4 11 = upd (upd (upd (gA τ 11) (6 * tL T) q1) (6 * tL T + 1) q2) (6 * tL T + 2) q3 := by rw [g4.2 11, gA_sA, e3]
  obtain ⟨o5, r5, σ5, q5, τ5, a5, b5, h5, f5, g5, u5, -⟩ := both_number 0 999 (by omega) (by omega) (h4.sM (j := 11) (f := upd (gA τ4 11) (6 * tL T + 3) q4) (by omega))
  have e5 : gA τ5 11 = upd (upd (upd (upd (gA τ 11) (6 * tL T) q1) (6 * tL T + 1) q2) (6 * tL T + 2) q3) (6 * tL T + 3) q4 := by rw [g5.2 11, gA_sA, e4]
  have gT5 : FrT τ τ5 := g1.t.trans ((FrT.sA (by omega)).trans (g2.t.trans ((FrT.sA (by omega)).trans (g3.t.trans ((FrT.sA (by omega)).trans (g4.t.trans ((FrT.sA (by omega)).trans g5.t)))))))
  have gI5' : ∀ i, 12 ≤ i ∧ i ≤ 15 → gI τ5 i = gI τ i := fun i hi => by rw [g5.1 i (by omega), gI_sA, g4.1 i (by omega), gI_sA, g3.1 i (by omega), gI_sA, g2.1 i (by omega), gI_sA, g1.1 i (by omega)]
  have gA5' : ∀ j, j ≠ 11 → gA τ5 j = gA τ j := fun j hj => by rw [g5.2 j, gA_sAn _ hj, g4.2 j, gA_sAn _ hj, g3.2 j, gA_sAn _ hj, g2.2 j, gA_sAn _ hj, g1.2 j]
  rw [show x_X10_readNumber 0 600 τ = _ from b1, bd2_some, stI_in i0 (by decide), bd_some, show x_X10_readNumber 1 8 _ = _ from b2, bd2_some, stI_in i1 (by decide), bd_some, show x_X10_readNumber 0 9 _ = _ from b3, bd2_some, stI_in i2 (by decide), bd_some, show x_X10_readNumber 0 99 _ = _ from b4, bd2_some, stI_in i3 (by decide), bd_some, show x_X10_readNumber 0 999 _ = _ from b5, bd2_some, stI_in i4 (by decide), bd_some, stI_in i5 (by decide), bd_some, gA_sA, sA_sA, gI_sA, gI5' 14 (by omega), s14, qa1, bd_some, e5] at em
  have em : x_X10_readOther (WO 4) τ = some (sI (sA τ5 11 (upd (lkF (gA τ 11) (tL T) q1 q2 q3 q4 q5) (6 * tL T + 5) 0)) 14 (iI ((tL T : Int) + 1))) := em
  have hM := (h5.sM (j := 11) (f := upd (lkF (gA τ 11) (tL T) q1 q2 q3 q4 q5) (6 * tL T + 5) 0) (by omega)).sMI (j := 14) (v := iI ((tL T : Int) + 1)) (by omega)
  have gT : FrT τ (sI (sA τ5 11 (upd (lkF (gA τ 11) (tL T) q1 q2 q3 q4 q5) (6 * tL T + 5) 0)) 14 (iI ((tL T : Int) + 1))) := gT5.trans ((FrT.sA (by omega)).trans (FrT.sI (by omega)))
  rw [show x_X3_number 0 600 σ = _ from a1, bd2_some, show x_X3_number 1 8 σ1 = _ from a2, bd2_some, show x_X3_number 0 9 σ2 = _ from a3, bd2_some, show x_X3_number 0 99 σ3 = _ from a4, bd2_some, show x_X3_number 0 999 σ4 = _ from a5, bd2_some] at ec
  have fN5 := f1.trans (f2.trans (f3.trans (f4.trans f5)))
  rcases ends_cases hM with ⟨σ6, τ6, a6, b6, h6, f6, g6⟩ | ⟨ho, σ6, τ6, a6, b6, h6, f6, g6⟩
  · rw [a6, bd2_some, if_pos rfl] at ec
    exact ClR.bad ec em b6 h6 (fN5.trans f6).q (gT.trans g6.t)
  · obtain ⟨ho4, ⟨v5, v51, v52, rfl, rfl⟩, -⟩ := u5 ho
    obtain ⟨ho3, ⟨v4, v41, v42, rfl, rfl⟩, -⟩ := u4 ho4
    obtain ⟨ho2, ⟨v3, v31, v32, rfl, rfl⟩, -⟩ := u3 ho3
    obtain ⟨ho1, ⟨v2, v21, v22, rfl, rfl⟩, -⟩ := u2 ho2
    obtain ⟨-, ⟨v1, v11, v12, rfl, rfl⟩, -⟩ := u1 ho1
    have fN := fN5.trans f6
    have hC6 : TdC 1 σ6 T := hd.2.1.eq (fun k _ _ => fN.1 k (by omega)) (fun j _ _ => fN.2 j)
    rw [a6, bd2_some, if_neg (by decide), c_addLooker _ _ _ _ _ hC6 hL, bd_some, fN.2 12] at ec
    refine ⟨true, _, _, τ6, ec, em, b6, (h6.sC (by omega)).sCI (by omega), fN.q.trans ((FrQ.sA (by omega)).trans (FrQ.sI (by omega))), gT.trans g6.t, fun _ => ⟨((tC T, tS T, tL T + 1, tH T), tLe T, tSp T, (fun i w => if i = tL T then (if w = 0 then v1 else if w = 1 then v2 else if w = 2 then v3 else if w = 3 then v4 else if w = 4 then v5 else 0) else tLk T i w), tMi T, tWt T), L, D, ?_, hc1⟩⟩
    have eC : ∀ j, j ≠ 12 → gA (sI (sA σ6 12 (lkF (gA σ 12) (tL T) (iI v1) (iI v2) (iI v3) (iI v4) (iI v5))) 6 (iI ((tL T : Int) + 1))) j = gA σ j := fun j hj => by rw [gA_sI, gA_sAn _ hj, fN.2 j]
    have eC12 : gA (sI (sA σ6 12 (lkF (gA σ 12) (tL T) (iI v1) (iI v2) (iI v3) (iI v4) (iI v5))) 6 (iI ((tL T : Int) + 1))) 12 = lkF (gA σ 12) (tL T) (iI v1) (iI v2) (iI v3) (iI v4) (iI v5) := by rw [gA_sI, gA_sA]
    have eCi : ∀ i, i = 4 ∨ i = 5 ∨ i = 7 → gI (sI (sA σ6 12 (lkF (gA σ 12) (tL T) (iI v1) (iI v2) (iI v3) (iI v4) (iI v5))) 6 (iI ((tL T : Int) + 1))) i = gI σ i := fun i hi => (gI_sIn _ (by omega) _).trans (fN.1 i (by omega))
    have eCi6 : gI (sI (sA σ6 12 (lkF (gA σ 12) (tL T) (iI v1) (iI v2) (iI v3) (iI v4) (iI v5))) 6 (iI ((tL T : Int) + 1))) 6 = iI ((tL T : Int) + 1) := gI_sI _ _ _
    generalize sI (sA σ6 12 (lkF (gA σ 12) (tL T) (iI v1) (iI v2) (iI v3) (iI v4) (iI v5))) 6 (iI ((tL T : Int) + 1)) = σ7 at *
    have eM : ∀ j, j ≠ 11 → gA τ6 j = gA τ j := fun j hj => by rw [g6.2 j, gA_sI, gA_sAn _ hj, gA5' j hj]
    have eM11 : gA τ6 11 = upd (lkF (gA τ 11) (tL T) (iI v1) (iI v2) (iI v3) (iI v4) (iI v5)) (6 * tL T + 5) 0 := by rw [g6.2 11, gA_sI, gA_sA]
    have eMi : ∀ i, i = 12 ∨ i = 13 ∨ i = 15 → gI τ6 i = gI τ i := fun i hi => by rw [g6.1 i (by omega), gI_sIn _ (by omega), gI_sA, gI5' i (by omega)]
    have eMi14 : gI τ6 14 = iI ((tL T : Int) + 1) := by rw [g6.1 14 (by omega), gI_sI]
    obtain ⟨⟨t1, t2, t3, t4, t5, t6, t7, t8, t9, t10, t11⟩, ⟨c1, c2, c3, c4, c5, c6, c7, c8, c9, c10⟩, ⟨m1, m2, m3, m4, m5, m6, m7, m8, m9⟩, l1, l2, l3, l4, d1, d2, d3, z5⟩ := hd
    refine ⟨⟨t1, t2, show tL T + 1 ≤ 6 by omega, t4, fun q => absurd (show tC T = 0 from q) (by omega), t6, t7, ?_, t9, t10, t11⟩, ⟨(eCi 4 (by omega)).trans c1, (eCi 5 (by omega)).trans c2, eCi6, (eCi 7 (by omega)).trans c4, fun c hc => (congrFun (eC 8 (by omega)) _).trans (c5 c hc), fun k w hk hw => (congrFun (eC 9 (by omega)) _).trans (c6 k w hk hw), fun k hk => (congrFun (eC 9 (by omega)) _).trans (c7 k hk), ?_, fun f h1 h2 => (congrFun (eC 13 (by omega)) _).trans (c9 f h1 h2), fun i hi => (congrFun (eC 14 (by omega)) _).trans (c10 i hi)⟩, ⟨(eMi 12 (by omega)).trans m1, (eMi 13 (by omega)).trans m2, eMi14, (eMi 15 (by omega)).trans m4, fun c hc => (congrFun (eM 9 (by omega)) _).trans (m5 c hc), fun k w hk hw => (congrFun (eM 10 (by omega)) _).trans (m6 k w hk hw), ?_, fun f h1 h2 => (congrFun (eM 12 (by omega)) _).trans (m8 f h1 h2), fun i hi => (congrFun (eM 13 (by omega)) _).trans (m9 i hi)⟩, fun k hk => (congrFun (eC 10 (by omega)) _).trans (l1 k hk), fun k hk => (congrFun (eM 14 (by omega)) _).trans (l2 k hk), l3, l4, fun k hk => ⟨(congrFun (eC 11 (by omega)) _).trans (d1 k hk).1, (congrFun (eM 15 (by omega)) _).trans (d1 k hk).2⟩, d2, d3, ?_⟩
    · intro i hi
      have hi : i < tL T + 1 := hi
      by_cases e : i = tL T
      · have ev : ∀ w, (if i = tL T then (if w = 0 then v1 else if w = 1 then v2 else if w = 2 then v3 else if w = 3 then v4 else if w = 4 then v5 else 0) else tLk T i w) = (if w = 0 then v1 else if w = 1 then v2 else if w = 2 then v3 else if w = 3 then v4 else if w = 4 then v5 else 0) := fun w => if_pos e
        have ev0 := ev 0
        have ev1 := ev 1
        have ev2 := ev 2
        have ev3 := ev 3
        have ev4 := ev 4
        have ev5 := ev 5
        refine ⟨?_, ?_, ?_, ?_, ?_, ?_, ?_, ?_, ?_, ?_, ?_, ?_⟩
        · exact (show (0 : Int) ≤ (if i = tL T then _ else tLk T i 0) from by rw [ev0]; exact v11)
        · exact (show (if i = tL T then _ else tLk T i 0) ≤ (600 : Int) from by rw [ev0]; exact v12)
        · exact (show (1 : Int) ≤ (if i = tL T then _ else tLk T i 1) from by rw [ev1]; exact v21)
        · exact (show (if i = tL T then _ else tLk T i 1) ≤ (8 : Int) from by rw [ev1]; exact v22)
        · exact (show (0 : Int) ≤ (if i = tL T then _ else tLk T i 2) from by rw [ev2]; exact v31)
        · exact (show (if i = tL T then _ else tLk T i 2) ≤ (9 : Int) from by rw [ev2]; exact v32)
        · exact (show (0 : Int) ≤ (if i = tL T then _ else tLk T i 3) from by rw [ev3]; exact v41)
        · exact (show (if i = tL T then _ else tLk T i 3) ≤ (99 : Int) from by rw [ev3]; exact v42)
        · exact (show (0 : Int) ≤ (if i = tL T then _ else tLk T i 4) from by rw [ev4]; exact v51)
        · exact (show (if i = tL T then _ else tLk T i 4) ≤ (999 : Int) from by rw [ev4]; exact v52)
        · exact (show (0 : Int) ≤ (if i = tL T then _ else tLk T i 5) from by rw [ev5]; exact Int.le_refl 0)
        · exact (show (if i = tL T then _ else tLk T i 5) ≤ (1 : Int) from by rw [ev5]; exact Int.zero_le_ofNat 1)
      · have ev : (fun w => if i = tL T then (if w = 0 then v1 else if w = 1 then v2 else if w = 2 then v3 else if w = 3 then v4 else if w = 4 then v5 else 0) else tLk T i w) = (fun w => tLk T i w) := funext (fun w => if_neg e)
        have q := t8 i (by omega)
        rw [show tLk T i = (fun w => tLk T i w) from rfl, ← ev] at q
        exact q
    · intro i w hi hw
      have hi : i < tL T + 1 := hi
      show gA _ 12 (6 * i + w) = iI (if i = tL T then (if w = 0 then v1 else if w = 1 then v2 else if w = 2 then v3 else if w = 3 then v4 else if w = 4 then v5 else 0) else tLk T i w)
      rw [eC12]
      unfold lkF upd
      by_cases e : i = tL T
      · rw [if_pos e]
        by_cases w0 : w = 0
        · rw [if_pos w0, if_neg (by omega), if_neg (by omega), if_neg (by omega), if_neg (by omega), if_pos (by omega)]
        · rw [if_neg w0]
          by_cases w1 : w = 1
          · rw [if_pos w1, if_neg (by omega), if_neg (by omega), if_neg (by omega), if_pos (by omega)]
          · rw [if_neg w1]
            by_cases w2 : w = 2
            · rw [if_pos w2, if_neg (by omega), if_neg (by omega), if_pos (by omega)]
            · rw [if_neg w2]
              by_cases w3 : w = 3
              · rw [if_pos w3, if_neg (by omega), if_pos (by omega)]
              · rw [if_neg w3]
                by_cases w4 : w = 4
                · rw [if_pos w4, if_pos (by omega)]
                · rw [if_neg w4, if_neg (by omega), if_neg (by omega), if_neg (by omega), if_neg (by omega), if_neg (by omega), show 6 * i + w = 6 * tL T + 5 by omega]
                  exact z5 (tL T) (Nat.le_refl _) hL
      · rw [if_neg e, if_neg (by omega), if_neg (by omega), if_neg (by omega), if_neg (by omega), if_neg (by omega)]
        exact c8 i w (by omega) hw
    · intro i w hi hw
      have hi : i < tL T + 1 := hi
      show gA _ 11 (6 * i + w) = iI (if i = tL T then (if w = 0 then v1 else if w = 1 then v2 else if w = 2 then v3 else if w = 3 then v4 else if w = 4 then v5 else 0) else tLk T i w)
      rw [eM11]
      unfold lkF upd
      by_cases e : i = tL T
      · rw [if_pos e]
        by_cases w0 : w = 0
        · rw [if_pos w0, if_neg (by omega), if_neg (by omega), if_neg (by omega), if_neg (by omega), if_neg (by omega), if_pos (by omega)]
        · rw [if_neg w0]
          by_cases w1 : w = 1
          · rw [if_pos w1, if_neg (by omega), if_neg (by omega), if_neg (by omega), if_neg (by omega), if_pos (by omega)]
          · rw [if_neg w1]
            by_cases w2 : w = 2
            · rw [if_pos w2, if_neg (by omega), if_neg (by omega), if_neg (by omega), if_pos (by omega)]
            · rw [if_neg w2]
              by_cases w3 : w = 3
              · rw [if_pos w3, if_neg (by omega), if_neg (by omega), if_pos (by omega)]
              · rw [if_neg w3]
                by_cases w4 : w = 4
                · rw [if_pos w4, if_neg (by omega), if_pos (by omega)]
                · rw [if_neg w4, if_pos (by omega)]; rfl
      · rw [if_neg e, if_neg (by omega), if_neg (by omega), if_neg (by omega), if_neg (by omega), if_neg (by omega), if_neg (by omega)]
        exact m7 i w (by omega) hw
    · intro i j1 j2
      have j1 : tL T + 1 ≤ i := j1
      rw [eC12]
      unfold lkF upd
      rw [if_neg (by omega), if_neg (by omega), if_neg (by omega), if_neg (by omega), if_neg (by omega)]
      exact z5 i (by omega) j2
/-- one of the four numbers -/
theorem back_one {n : Nat} {ok : Bool} {σ τ : St} (h : Md n ok σ τ) (j : Nat) (hj : j < 4) (u16 u17 : Int32) :
    ∃ (ok2 : Bool) (r : Int32) (σ2 : St) (q p : Int32) (τ2 : St), x_X3_number 0 9 σ = some (r, σ2) ∧ x_X10_readOther_L486 u16 u17 (iI j) τ = some (true, (u16 + q, p, iI ((j + 1 : Nat) : Int), τ2)) ∧ Md n ok2 σ2 τ2 ∧ FrN σ σ2 ∧ FrT τ τ2 ∧ (∀ i, 12 ≤ i ∧ i ≤ 15 → gI τ2 i = gI τ i) ∧ (∀ i, i ≠ 13 → gA τ2 i = gA τ i) ∧ gA τ2 13 = upd (gA τ 13) j q ∧
      (ok2 = true → ok = true ∧ (∃ v : Int, 0 ≤ v ∧ v ≤ 9 ∧ r = iI v ∧ q = iI v) ∧ gI σ2 14 = p ∧ p ≠ -1) := by
  obtain ⟨c0, τs, k1, k2, hs, gs, b, hbn, hb⟩ := both_here h
  obtain ⟨o1, r1, σ1, q1, τ1, a1, b1, h1, f1, g1, u1, -⟩ := both_number 0 9 (by omega) (by omega) hs
  have hn := h.1.1
  refine ⟨o1, r1, σ1, q1, gI τs 3, sA τ1 13 (upd (gA τ1 13) j q1), a1, ?_, h1.sM (by omega), f1, gs.t.trans (g1.t.trans (FrT.sA (by omega))), fun i hi => ?_, fun i hi => ?_, ?_, fun q => ?_⟩
  · unfold x_X10_readOther_L486
    simp (disch := omega) only [qM4]
    rw [if_neg (by omega), k1, bd2_some, show x_X10_readNumber 0 9 τs = _ from b1, bd2_some, stI_in (show j < lenM 13 from (show j < 4 by omega)) (by decide), bd_some, gA_sA, ldI_in (show j < lenM 13 from (show j < 4 by omega)) (by decide), bd_some, qa1, show upd (gA τ1 13) j q1 j = q1 from by unfold upd; rw [if_pos rfl]]
    rfl
  · rw [gI_sA, g1.1 i (by omega), gs.1 i (by omega)]
  · rw [gA_sAn _ hi, g1.2 i, gs.2 i]
  · rw [gA_sA, g1.2 13, gs.2 13]
  · obtain ⟨e1, e2, e3⟩ := u1 q
    exact ⟨e1, e2, e3 c0 τs k2, by rw [hb]; exact iI_nm1 (by omega)⟩
theorem both_back {n : Nat} {σ τ : St} {T : Td} {L : Nat → Int} {D : Nat → Nat} (h : Md n true σ τ) (hd : DrR T L D σ τ) (hc1 : 1 ≤ tC T) : ClR n σ τ (x_X3_readBack σ) (x_X10_readOther (WO 8) τ) (fun T2 => 1 ≤ tC T2) := by
  obtain ⟨o1, r1, σ1, q1, p1, τ1, a1, b1, h1, f1, g1, gi1, ga1, gw1, u1⟩ := back_one h 0 (by omega) 0 (gI τ 3)
  obtain ⟨o2, r2, σ2, q2, p2, τ2, a2, b2, h2, f2, g2, gi2, ga2, gw2, u2⟩ := back_one h1 1 (by omega) (0 + q1) p1
  obtain ⟨o3, r3, σ3, q3, p3, τ3, a3, b3, h3, f3, g3, gi3, ga3, gw3, u3⟩ := back_one h2 2 (by omega) (0 + q1 + q2) p2
  obtain ⟨o4, r4, σ4, q4, p4, τ4, a4, b4, h4, f4, g4, gi4, ga4, gw4, u4⟩ := back_one h3 3 (by omega) (0 + q1 + q2 + q3) p3
  have fN4 := f1.trans (f2.trans (f3.trans f4))
  have gT4 := g1.trans (g2.trans (g3.trans g4))
  have hlp : lp (fun v : (Int32 × Int32 × Int32 × St) => x_X10_readOther_L486 v.1 v.2.1 v.2.2.1 v.2.2.2) FU (0, (gI τ 3), 0, τ) = some (0 + q1 + q2 + q3 + q4, p4, iI ((4 : Nat) : Int), τ4) := by
    rw [show FU = 4995 + 1 + 1 + 1 + 1 + 1 from rfl]
    refine (lp_t b1).trans ((lp_t b2).trans ((lp_t b3).trans ((lp_t b4).trans (lp_f ?_))))
    show x_X10_readOther_L486 _ _ (iI ((4 : Nat) : Int)) τ4 = _
    unfold x_X10_readOther_L486
    simp (disch := omega) only [qM4]
    rw [if_pos (by omega)]
  have ec : x_X3_readBack σ = x_X3_readBack σ := rfl
  have em : x_X10_readOther (WO 8) τ = x_X10_readOther (WO 8) τ := rfl
  conv at ec => rhs; unfold x_X3_readBack
  conv at em => rhs; unfold x_X10_readOther
  rw [m_of (i := 1) (by decide), bd_some, if_neg (of_ne (i := 8) (j := 1) (by decide) (by decide) (by decide)), m_of (i := 2) (by decide), bd_some, if_neg (of_ne (i := 8) (j := 2) (by decide) (by decide) (by decide)), m_of (i := 3) (by decide), bd_some, if_neg (of_ne (i := 8) (j := 3) (by decide) (by decide) (by decide)), m_of (i := 4) (by decide), bd_some, if_neg (of_ne (i := 8) (j := 4) (by decide) (by decide) (by decide)), m_of (i := 5) (by decide), bd_some, if_neg (of_ne (i := 8) (j := 5) (by decide) (by decide) (by decide)), m_of (i := 6) (by decide), bd_some, if_neg (of_ne (i := 8) (j := 6) (by decide) (by decide) (by decide)), m_of (i := 7) (by decide), bd_some, if_neg (of_ne (i := 8) (j := 7) (by decide) (by decide) (by decide)), hlp, bd4_some, h4.fine, bd_some] at em
  rw [a1, bd2_some, a2, bd2_some, a3, bd2_some, a4, bd2_some] at ec
  cases o4 with
  | false =>
    obtain ⟨σ5, τ5, a5, b5, h5, f5, g5⟩ := ends_false h4
    have e53 : x_X3_readBack_b53 r1 r2 r3 r4 σ4 = some σ5 := by
      unfold x_X3_readBack_b53
      rw [a5, bd2_some, if_pos rfl]
    rw [c_blame0 h4.fault, bd_some, e53] at ec
    rw [if_pos (by decide)] at em
    refine ClR.bad (σ2 := σ5) ?_ em b5 h5 (fN4.trans f5).q (gT4.trans g5.t)
    rw [ec]; split <;> rfl
  | true =>
    obtain ⟨ho3, ⟨v4, v41, v42, rfl, rfl⟩, hp, hpn⟩ := u4 rfl
    obtain ⟨ho2, ⟨v3, v31, v32, rfl, rfl⟩, -, -⟩ := u3 ho3
    obtain ⟨ho1, ⟨v2, v21, v22, rfl, rfl⟩, -, -⟩ := u2 ho2
    obtain ⟨-, ⟨v1, v11, v12, rfl, rfl⟩, -, -⟩ := u1 ho1
    rw [iI_add, iI_add, iI_add] at ec
    rw [if_neg (by decide), Int32.zero_add, iI_add, iI_add, iI_add] at em
    simp (disch := omega) only [qe0] at ec em
    obtain ⟨hc4, aa, aa', bb, haa, haa', h13, h3', h15, h4', h11, -, -⟩ := h4.mt
    by_cases e : v1 + v2 + v3 + v4 = 0
    · rw [if_pos e, c_blame1 h15, bd_some, hp] at ec
      rw [if_pos e, m_wrong1 h4', bd_some] at em
      have hbad : Md n false (sI (sI σ4 15 2) 11 p4) (sI (sI τ4 4 p4) 5 2) := Md.tell hc4 haa haa' h13 h3' (by decide) hpn
      obtain ⟨σ5, τ5, a5, b5, h5, f5, g5⟩ := ends_false hbad
      unfold x_X3_readBack_b53 at ec
      rw [a5, bd2_some, if_pos rfl] at ec
      exact ClR.bad ec em b5 h5 (fN4.trans ((FrN.sI (by omega)).trans ((FrN.sI (by omega)).trans f5))).q (gT4.trans ((FrT.sI (by omega)).trans ((FrT.sI (by omega)).trans g5.t)))
    · rw [if_neg e] at ec em
      unfold x_X3_readBack_b53 at ec
      rcases ends_cases h4 with ⟨σ5, τ5, a5, b5, h5, f5, g5⟩ | ⟨-, σ5, τ5, a5, b5, h5, f5, g5⟩
      · rw [a5, bd2_some, if_pos rfl] at ec
        exact ClR.bad ec em b5 h5 (fN4.trans f5).q (gT4.trans g5.t)
      · have fN := fN4.trans f5
        have ep : ∀ (j : Nat) (v : Int32) (ρ : St), j < 4 → x_X2_put 14 (iI j) v ρ = some (sA ρ 14 (upd (gA ρ 14) j v)) := fun j v ρ hj => by
          rw [f_put, putF_in (show j < lenN 14 from (show j < 4 by omega)) (by decide)]
        rw [a5, bd2_some, if_neg (by decide), show x_X2_put 14 0 (iI v1) σ5 = _ from ep 0 _ _ (by omega), bd_some, show x_X2_put 14 1 (iI v2) _ = _ from ep 1 _ _ (by omega), bd_some, gA_sA, sA_sA, show x_X2_put 14 2 (iI v3) _ = _ from ep 2 _ _ (by omega), bd_some, gA_sA, sA_sA, show x_X2_put 14 3 (iI v4) _ = _ from ep 3 _ _ (by omega), bd_some, gA_sA, sA_sA] at ec
        have eW : ∀ (f : Nat → Int32) i, i < 4 → upd (upd (upd (upd f 0 (iI v1)) 1 (iI v2)) 2 (iI v3)) 3 (iI v4) i = iI (if i = 0 then v1 else if i = 1 then v2 else if i = 2 then v3 else v4) := fun f i hi => by
          have : i = 0 ∨ i = 1 ∨ i = 2 ∨ i = 3 := by omega
          rcases this with rfl | rfl | rfl | rfl <;> rfl
        refine ⟨true, _, _, τ5, ec, em, b5, h5.sC (by omega), fN.q.trans (FrQ.sA (by omega)), gT4.trans g5.t, fun _ => ⟨(T.1, tLe T, tSp T, tLk T, tMi T, (fun i => if i = 0 then v1 else if i = 1 then v2 else if i = 2 then v3 else v4)), L, D, ?_, hc1⟩⟩
        have eC : ∀ j, j ≠ 14 → gA (sA σ5 14 (upd (upd (upd (upd (gA σ5 14) 0 (iI v1)) 1 (iI v2)) 2 (iI v3)) 3 (iI v4))) j = gA σ j := fun j hj => (gA_sAn _ hj _).trans (fN.2 j)
        have eC14 : gA (sA σ5 14 (upd (upd (upd (upd (gA σ5 14) 0 (iI v1)) 1 (iI v2)) 2 (iI v3)) 3 (iI v4))) 14 = upd (upd (upd (upd (gA σ 14) 0 (iI v1)) 1 (iI v2)) 2 (iI v3)) 3 (iI v4) := by rw [gA_sA, fN.2 14]
        have eCi : ∀ i, 4 ≤ i ∧ i ≤ 7 → gI (sA σ5 14 (upd (upd (upd (upd (gA σ5 14) 0 (iI v1)) 1 (iI v2)) 2 (iI v3)) 3 (iI v4))) i = gI σ i := fun i hi => fN.1 i (by omega)
        have eM : ∀ j, j ≠ 13 → gA τ5 j = gA τ j := fun j hj => by rw [g5.2 j, ga4 j hj, ga3 j hj, ga2 j hj, ga1 j hj]
        have eM13 : gA τ5 13 = upd (upd (upd (upd (gA τ 13) 0 (iI v1)) 1 (iI v2)) 2 (iI v3)) 3 (iI v4) := by rw [g5.2 13, gw4, gw3, gw2, gw1]
        have eMi : ∀ i, 12 ≤ i ∧ i ≤ 15 → gI τ5 i = gI τ i := fun i hi => by rw [g5.1 i (by omega), gi4 i hi, gi3 i hi, gi2 i hi, gi1 i hi]
        obtain ⟨⟨t1, t2, t3, t4, t5, t6, t7, t8, t9, t10, t11⟩, ⟨c1, c2, c3, c4, c5, c6, c7, c8, c9, c10⟩, ⟨m1, m2, m3, m4, m5, m6, m7, m8, m9⟩, l1, l2, l3, l4, d1, d2, d3, z5⟩ := hd
        refine ⟨⟨t1, t2, t3, t4, t5, t6, t7, t8, t9, ?_, ?_⟩, ⟨(eCi 4 (by omega)).trans c1, (eCi 5 (by omega)).trans c2, (eCi 6 (by omega)).trans c3, (eCi 7 (by omega)).trans c4, fun c hc => (congrFun (eC 8 (by omega)) _).trans (c5 c hc), fun k w hk hw => (congrFun (eC 9 (by omega)) _).trans (c6 k w hk hw), fun k hk => (congrFun (eC 9 (by omega)) _).trans (c7 k hk), fun k w hk hw => (congrFun (eC 12 (by omega)) _).trans (c8 k w hk hw), fun f h1 h2 => (congrFun (eC 13 (by omega)) _).trans (c9 f h1 h2), ?_⟩, ⟨(eMi 12 (by omega)).trans m1, (eMi 13 (by omega)).trans m2, (eMi 14 (by omega)).trans m3, (eMi 15 (by omega)).trans m4, fun c hc => (congrFun (eM 9 (by omega)) _).trans (m5 c hc), fun k w hk hw => (congrFun (eM 10 (by omega)) _).trans (m6 k w hk hw), fun k w hk hw => (congrFun (eM 11 (by omega)) _).trans (m7 k w hk hw), fun f h1 h2 => (congrFun (eM 12 (by omega)) _).trans (m8 f h1 h2), ?_⟩, fun k hk => (congrFun (eC 10 (by omega)) _).trans (l1 k hk), fun k hk => (congrFun (eM 14 (by omega)) _).trans (l2 k hk), l3, l4, fun k hk => ⟨(congrFun (eC 11 (by omega)) _).trans (d1 k hk).1, (congrFun (eM 15 (by omega)) _).trans (d1 k hk).2⟩, d2, d3, fun k h1 h2 => (congrFun (eC 12 (by omega)) _).trans (z5 k h1 h2)⟩
        · intro i hi
          show 0 ≤ (if i = 0 then v1 else if i = 1 then v2 else if i = 2 then v3 else v4) ∧ (if i = 0 then v1 else if i = 1 then v2 else if i = 2 then v3 else v4) ≤ 9
          split
          · omega
          · split
            · omega
            · split <;> omega
        · show 1 ≤ v1 + v2 + v3 + v4
          omega
        · intro i hi
          show gA _ 14 i = iI (if i = 0 then v1 else if i = 1 then v2 else if i = 2 then v3 else v4)
          rw [eC14]
          exact eW _ i hi
        · intro i hi
          show gA _ 13 i = iI (if i = 0 then v1 else if i = 1 then v2 else if i = 2 then v3 else v4)
          rw [eM13]
          exact eW _ i hi
