/-! shop: clauses that lie, miss, and bring a crate -/
theorem ends_false {n : Nat} {σ τ : St} (h : Md n false σ τ) : ∃ (σ2 τ2 : St), x_X3_ends σ = some (0, σ2) ∧ x_X10_sign 59 τ = some τ2 ∧ Md n false σ2 τ2 ∧ FrN σ σ2 ∧ FrO τ τ2 := by
  obtain ⟨o2, r2, σ2, τ2, a2, b2, h2, f2, g2, u2, z2⟩ := both_ends h
  cases o2 with
  | false => rw [z2 rfl] at a2; exact ⟨σ2, τ2, a2, b2, h2, f2, g2⟩
  | true => exact absurd (u2 rfl).1 (by decide)
theorem number_false {n : Nat} {σ τ : St} (lo hi : Int) (hlo : 0 ≤ lo ∧ lo ≤ 100) (hhi : -1 ≤ hi ∧ hi ≤ 999) (h : Md n false σ τ) : ∃ (r : Int32) (σ2 τ2 : St), x_X3_number (iI lo) (iI hi) σ = some (r, σ2) ∧ x_X10_readNumber (iI lo) (iI hi) τ = some (0, τ2) ∧ Md n false σ2 τ2 ∧ FrN σ σ2 ∧ FrO τ τ2 := by
  obtain ⟨o1, r1, σ1, q1, τ1, a1, b1, h1, f1, g1, u1, z1⟩ := both_number lo hi hlo hhi h
  cases o1 with
  | false => rw [z1 rfl] at b1; exact ⟨r1, σ1, τ1, a1, b1, h1, f1, g1⟩
  | true => exact absurd (u1 rfl).1 (by decide)
/-- a number's cases: none (the reference answers 0), or the same in both -/
theorem number_cases {n : Nat} {ok : Bool} {σ τ : St} (lo hi : Int) (hlo : 0 ≤ lo ∧ lo ≤ 100) (hhi : -1 ≤ hi ∧ hi ≤ 999) (h : Md n ok σ τ) :
    (∃ (r : Int32) (σ2 τ2 : St), x_X3_number (iI lo) (iI hi) σ = some (r, σ2) ∧ x_X10_readNumber (iI lo) (iI hi) τ = some (0, τ2) ∧ Md n false σ2 τ2 ∧ FrN σ σ2 ∧ FrO τ τ2) ∨
    (ok = true ∧ ∃ (v : Int) (σ2 τ2 : St), lo ≤ v ∧ v ≤ hi ∧ x_X3_number (iI lo) (iI hi) σ = some (iI v, σ2) ∧ x_X10_readNumber (iI lo) (iI hi) τ = some (iI v, τ2) ∧ Md n true σ2 τ2 ∧ FrN σ σ2 ∧ FrO τ τ2 ∧ ∀ c τs, x_X10_here τ = some (c, τs) → gI σ2 14 = gI τs 3) := by
  obtain ⟨o1, r1, σ1, q1, τ1, a1, b1, h1, f1, g1, u1, z1⟩ := both_number lo hi hlo hhi h
  cases o1 with
  | false => rw [z1 rfl] at b1; exact Or.inl ⟨r1, σ1, τ1, a1, b1, h1, f1, g1⟩
  | true =>
    obtain ⟨e, ⟨v, v1, v2, rfl, rfl⟩, p⟩ := u1 rfl
    exact Or.inr ⟨e, v, σ1, τ1, v1, v2, a1, b1, h1, f1, g1, p⟩
theorem ends_cases {n : Nat} {ok : Bool} {σ τ : St} (h : Md n ok σ τ) :
    (∃ (σ2 τ2 : St), x_X3_ends σ = some (0, σ2) ∧ x_X10_sign 59 τ = some τ2 ∧ Md n false σ2 τ2 ∧ FrN σ σ2 ∧ FrO τ τ2) ∨
    (ok = true ∧ ∃ (σ2 τ2 : St), x_X3_ends σ = some (1, σ2) ∧ x_X10_sign 59 τ = some τ2 ∧ Md n true σ2 τ2 ∧ FrN σ σ2 ∧ FrO τ τ2) := by
  obtain ⟨o2, r2, σ2, τ2, a2, b2, h2, f2, g2, u2, z2⟩ := both_ends h
  cases o2 with
  | false => rw [z2 rfl] at a2; exact Or.inl ⟨σ2, τ2, a2, b2, h2, f2, g2⟩
  | true =>
    obtain ⟨e, rfl⟩ := u2 rfl
    exact Or.inr ⟨e, σ2, τ2, a2, b2, h2, f2, g2⟩
/-- a clause with a fault in it -/
theorem ClR.bad {n : Nat} {σ τ σ2 τ1 τ2 : St} {x y : Option St} {P : Td → Prop} (h1 : x = some σ2) (h2 : y = some τ1) (h3 : x_X10_sign 59 τ1 = some τ2) (h4 : Md n false σ2 τ2) (h5 : FrQ σ σ2) (h6 : FrT τ τ2) : ClR n σ τ x y P := ⟨false, σ2, τ1, τ2, h1, h2, h3, h4, h5, h6, fun q => absurd q (by decide)⟩
theorem both_lies {n : Nat} {σ τ : St} {T : Td} {L : Nat → Int} {D : Nat → Nat} (h : Md n true σ τ) (hd : DrR T L D σ τ) (hc1 : 1 ≤ tC T) : ClR n σ τ (x_X3_readLies σ) (x_X10_readOther (WO 2) τ) (fun T2 => 1 ≤ tC T2) := by
  have hC8 := hd.1.1
  have hS24 := hd.1.2.1
  obtain ⟨s4, s5, s6⟩ := gI5 hd.2.1
  obtain ⟨s12, s13, s14⟩ := gI13 hd.2.2.1
  have ec : x_X3_readLies σ = x_X3_readLies σ := rfl
  have em : x_X10_readOther (WO 2) τ = x_X10_readOther (WO 2) τ := rfl
  conv at ec => rhs; unfold x_X3_readLies
  conv at em => rhs; unfold x_X10_readOther
  rw [s5, qs1] at ec
  rw [m_of (i := 1) (by decide), bd_some, if_neg (of_ne (i := 2) (j := 1) (by decide) (by decide) (by decide)), m_of (i := 2) (by decide), bd_some, if_pos rfl, s13, qs1] at em
  rcases number_cases 0 ((tS T : Int) - 1) (by omega) (by omega) h with ⟨r1, σ1, τ1, a1, b1, h1, f1, g1⟩ | ⟨-, v, σ1, τ1, v1, v2, a1, b1, h1, f1, g1, -⟩
  · obtain ⟨r2, σ2, τ2, a2, b2, h2, f2, g2⟩ := number_false 0 ((tC T : Int) - 1) (by omega) (by omega) h1
    obtain ⟨σ3, τ3, a3, b3, h3, f3, g3⟩ := ends_false h2
    rw [show x_X3_number 0 (iI ((tS T : Int) - 1)) σ = _ from a1, bd2_some, f1.1 4 (by omega), s4, qs1, show x_X3_number 0 (iI ((tC T : Int) - 1)) σ1 = _ from a2, bd2_some, a3, bd2_some, if_pos rfl] at ec
    rw [show x_X10_readNumber 0 (iI ((tS T : Int) - 1)) τ = _ from b1, bd2_some, g1.1 12 (by omega), s12, qs1, show x_X10_readNumber 0 (iI ((tC T : Int) - 1)) τ1 = _ from b2, bd2_some, h2.fine0, bd_some, if_pos rfl] at em
    exact ClR.bad ec em b3 h3 (f1.trans (f2.trans f3)).q (g1.trans (g2.trans g3)).t
  · obtain ⟨k, rfl⟩ := Int.eq_ofNat_of_zero_le v1
    rw [show x_X3_number 0 (iI ((tS T : Int) - 1)) σ = _ from a1, bd2_some, f1.1 4 (by omega), s4, qs1] at ec
    rw [show x_X10_readNumber 0 (iI ((tS T : Int) - 1)) τ = _ from b1, bd2_some, g1.1 12 (by omega), s12, qs1] at em
    rcases number_cases 0 ((tC T : Int) - 1) (by omega) (by omega) h1 with ⟨r2, σ2, τ2, a2, b2, h2, f2, g2⟩ | ⟨-, u, σ2, τ2, u1, u2, a2, b2, h2, f2, g2, -⟩
    · obtain ⟨σ3, τ3, a3, b3, h3, f3, g3⟩ := ends_false h2
      rw [show x_X3_number 0 (iI ((tC T : Int) - 1)) σ1 = _ from a2, bd2_some, a3, bd2_some, if_pos rfl] at ec
      rw [show x_X10_readNumber 0 (iI ((tC T : Int) - 1)) τ1 = _ from b2, bd2_some, h2.fine0, bd_some, if_pos rfl] at em
      exact ClR.bad ec em b3 h3 (f1.trans (f2.trans f3)).q (g1.trans (g2.trans g3)).t
    · rw [show x_X3_number 0 (iI ((tC T : Int) - 1)) σ1 = _ from a2, bd2_some] at ec
      rw [show x_X10_readNumber 0 (iI ((tC T : Int) - 1)) τ1 = _ from b2, bd2_some, h2.fine1, bd_some, if_neg (by decide), stI_in (show k < lenM 14 from (show k < 24 by omega)) (by decide), bd_some] at em
      have gT : FrT τ (sA τ2 14 (upd (gA τ2 14) k (iI u))) := (g1.trans g2).t.trans (FrT.sA (by omega))
      rcases ends_cases (h2.sM (j := 14) (f := upd (gA τ2 14) k (iI u)) (by omega)) with ⟨σ3, τ3, a3, b3, h3, f3, g3⟩ | ⟨-, σ3, τ3, a3, b3, h3, f3, g3⟩
      · rw [a3, bd2_some, if_pos rfl] at ec
        exact ClR.bad ec em b3 h3 (f1.trans (f2.trans f3)).q (gT.trans g3.t)
      · have fN := f1.trans (f2.trans f3)
        rw [a3, bd2_some, if_neg (by decide), f_put, putF_in (show k < lenN 10 from (show k < 24 by omega)) (by decide), bd_some] at ec
        refine ⟨true, _, _, τ3, ec, em, b3, h3.sC (by omega), fN.q.trans (FrQ.sA (by omega)), gT.trans g3.t, fun _ => ⟨T, updZ L k u, D, ?_, hc1⟩⟩
        have eC : ∀ j, j ≠ 10 → gA (sA σ3 10 (upd (gA σ3 10) k (iI u))) j = gA σ j := fun j hj => (gA_sAn _ hj _).trans (fN.2 j)
        have eC10 : gA (sA σ3 10 (upd (gA σ3 10) k (iI u))) 10 = upd (gA σ 10) k (iI u) := by rw [gA_sA, fN.2 10]
        have eCi : ∀ i, 4 ≤ i ∧ i ≤ 7 → gI (sA σ3 10 (upd (gA σ3 10) k (iI u))) i = gI σ i := fun i hi => fN.1 i (by omega)
        have eM : ∀ j, j ≠ 14 → gA τ3 j = gA τ j := fun j hj => by rw [g3.2 j, gA_sAn _ hj, g2.2 j, g1.2 j]
        have eM14 : gA τ3 14 = upd (gA τ 14) k (iI u) := by rw [g3.2 14, gA_sA, g2.2 14, g1.2 14]
        have eMi : ∀ i, 12 ≤ i ∧ i ≤ 15 → gI τ3 i = gI τ i := fun i hi => by rw [g3.1 i (by omega), gI_sA, g2.1 i (by omega), g1.1 i (by omega)]
        obtain ⟨⟨t1, t2, t3, t4, t5, t6, t7, t8, t9, t10, t11⟩, ⟨c1, c2, c3, c4, c5, c6, c7, c8, c9, c10⟩, ⟨m1, m2, m3, m4, m5, m6, m7, m8, m9⟩, l1, l2, l3, l4, d1, d2, d3, z5⟩ := hd
        refine ⟨⟨t1, t2, t3, t4, t5, t6, t7, t8, t9, t10, t11⟩, ⟨(eCi 4 (by omega)).trans c1, (eCi 5 (by omega)).trans c2, (eCi 6 (by omega)).trans c3, (eCi 7 (by omega)).trans c4, fun c hc => (congrFun (eC 8 (by omega)) _).trans (c5 c hc), fun k w hk hw => (congrFun (eC 9 (by omega)) _).trans (c6 k w hk hw), fun k hk => (congrFun (eC 9 (by omega)) _).trans (c7 k hk), fun k w hk hw => (congrFun (eC 12 (by omega)) _).trans (c8 k w hk hw), fun f h1 h2 => (congrFun (eC 13 (by omega)) _).trans (c9 f h1 h2), fun i hi => (congrFun (eC 14 (by omega)) _).trans (c10 i hi)⟩, ⟨(eMi 12 (by omega)).trans m1, (eMi 13 (by omega)).trans m2, (eMi 14 (by omega)).trans m3, (eMi 15 (by omega)).trans m4, fun c hc => (congrFun (eM 9 (by omega)) _).trans (m5 c hc), fun k w hk hw => (congrFun (eM 10 (by omega)) _).trans (m6 k w hk hw), fun k w hk hw => (congrFun (eM 11 (by omega)) _).trans (m7 k w hk hw), fun f h1 h2 => (congrFun (eM 12 (by omega)) _).trans (m8 f h1 h2), fun i hi => (congrFun (eM 13 (by omega)) _).trans (m9 i hi)⟩, ?_, ?_, ?_, ?_, fun k hk => ⟨(congrFun (eC 11 (by omega)) _).trans (d1 k hk).1, (congrFun (eM 15 (by omega)) _).trans (d1 k hk).2⟩, d2, d3, fun k h1 h2 => (congrFun (eC 12 (by omega)) _).trans (z5 k h1 h2)⟩
        · intro i hi
          rw [eC10]
          unfold upd updZ
          by_cases e : i = k
          · rw [if_pos e, if_pos e]
          · rw [if_neg e, if_neg e]; exact l1 i hi
        · intro i hi
          rw [eM14]
          unfold upd updZ
          by_cases e : i = k
          · rw [if_pos e, if_pos e]
          · rw [if_neg e, if_neg e]; exact l2 i hi
        · intro i hi
          have := l3 i hi
          unfold updZ
          split <;> omega
        · intro i i1 i2
          unfold updZ
          rw [if_neg (by omega)]
          exact l4 i i1 i2
theorem both_miss {n : Nat} {σ τ : St} {T : Td} {L : Nat → Int} {D : Nat → Nat} (h : Md n true σ τ) (hd : DrR T L D σ τ) (hc1 : 1 ≤ tC T) : ClR n σ τ (x_X3_readMiss σ) (x_X10_readOther (WO 6) τ) (fun T2 => 1 ≤ tC T2) := by
  have ec : x_X3_readMiss σ = x_X3_readMiss σ := rfl
  have em : x_X10_readOther (WO 6) τ = x_X10_readOther (WO 6) τ := rfl
  conv at ec => rhs; unfold x_X3_readMiss
  conv at em => rhs; unfold x_X10_readOther
  rw [m_of (i := 1) (by decide), bd_some, if_neg (of_ne (i := 6) (j := 1) (by decide) (by decide) (by decide)), m_of (i := 2) (by decide), bd_some, if_neg (of_ne (i := 6) (j := 2) (by decide) (by decide) (by decide)), m_of (i := 3) (by decide), bd_some, if_neg (of_ne (i := 6) (j := 3) (by decide) (by decide) (by decide)), m_of (i := 4) (by decide), bd_some, if_neg (of_ne (i := 6) (j := 4) (by decide) (by decide) (by decide)), m_of (i := 5) (by decide), bd_some, if_neg (of_ne (i := 6) (j := 5) (by decide) (by decide) (by decide)), m_of (i := 6) (by decide), bd_some, if_pos rfl] at em
  rcases number_cases 1 8 (by omega) (by omega) h with ⟨r1, σ1, τ1, a1, b1, h1, f1, g1⟩ | ⟨-, v, σ1, τ1, v1, v2, a1, b1, h1, f1, g1, -⟩
  · obtain ⟨r2, σ2, τ2, a2, b2, h2, f2, g2⟩ := number_false 0 8 (by omega) (by omega) h1
    rw [show x_X10_readNumber 1 8 τ = _ from b1, bd2_some, show x_X10_readNumber 0 8 τ1 = _ from b2, bd2_some, show stI τ2 12 (lenM 12) 0 0 = _ from stI_in (k := 0) (show 0 < lenM 12 from by decide) (by decide), bd_some] at em
    obtain ⟨σ3, τ3, a3, b3, h3, f3, g3⟩ := ends_false (h2.sM (j := 12) (f := upd (gA τ2 12) 0 0) (by omega))
    rw [show x_X3_number 1 8 σ = _ from a1, bd2_some, show x_X3_number 0 8 σ1 = _ from a2, bd2_some, a3, bd2_some, if_pos rfl] at ec
    exact ClR.bad ec em b3 h3 (f1.trans (f2.trans f3)).q ((g1.trans g2).t.trans ((FrT.sA (by omega)).trans g3.t))
  · obtain ⟨k, rfl⟩ := Int.eq_ofNat_of_zero_le (a := v) (by omega)
    rw [show x_X3_number 1 8 σ = _ from a1, bd2_some] at ec
    rw [show x_X10_readNumber 1 8 τ = _ from b1, bd2_some] at em
    rcases number_cases 0 8 (by omega) (by omega) h1 with ⟨r2, σ2, τ2, a2, b2, h2, f2, g2⟩ | ⟨-, u, σ2, τ2, u1, u2, a2, b2, h2, f2, g2, -⟩
    · rw [show x_X10_readNumber 0 8 τ1 = _ from b2, bd2_some, stI_in (show k < lenM 12 from (show k < 9 by omega)) (by decide), bd_some] at em
      obtain ⟨σ3, τ3, a3, b3, h3, f3, g3⟩ := ends_false (h2.sM (j := 12) (f := upd (gA τ2 12) k 0) (by omega))
      rw [show x_X3_number 0 8 σ1 = _ from a2, bd2_some, a3, bd2_some, if_pos rfl] at ec
      exact ClR.bad ec em b3 h3 (f1.trans (f2.trans f3)).q ((g1.trans g2).t.trans ((FrT.sA (by omega)).trans g3.t))
    · rw [show x_X3_number 0 8 σ1 = _ from a2, bd2_some] at ec
      rw [show x_X10_readNumber 0 8 τ1 = _ from b2, bd2_some, stI_in (show k < lenM 12 from (show k < 9 by omega)) (by decide), bd_some] at em
      have gT : FrT τ (sA τ2 12 (upd (gA τ2 12) k (iI u))) := (g1.trans g2).t.trans (FrT.sA (by omega))
      rcases ends_cases (h2.sM (j := 12) (f := upd (gA τ2 12) k (iI u)) (by omega)) with ⟨σ3, τ3, a3, b3, h3, f3, g3⟩ | ⟨-, σ3, τ3, a3, b3, h3, f3, g3⟩
      · rw [a3, bd2_some, if_pos rfl] at ec
        exact ClR.bad ec em b3 h3 (f1.trans (f2.trans f3)).q (gT.trans g3.t)
      · have fN := f1.trans (f2.trans f3)
        rw [a3, bd2_some, if_neg (by decide), f_put, putF_in (show k < lenN 13 from (show k < 9 by omega)) (by decide), bd_some] at ec
        refine ⟨true, _, _, τ3, ec, em, b3, h3.sC (by omega), fN.q.trans (FrQ.sA (by omega)), gT.trans g3.t, fun _ => ⟨(T.1, tLe T, tSp T, tLk T, (fun f => if f = k then u else tMi T f), tWt T), L, D, ?_, hc1⟩⟩
        have eC : ∀ j, j ≠ 13 → gA (sA σ3 13 (upd (gA σ3 13) k (iI u))) j = gA σ j := fun j hj => (gA_sAn _ hj _).trans (fN.2 j)
        have eC13 : gA (sA σ3 13 (upd (gA σ3 13) k (iI u))) 13 = upd (gA σ 13) k (iI u) := by rw [gA_sA, fN.2 13]
        have eCi : ∀ i, 4 ≤ i ∧ i ≤ 7 → gI (sA σ3 13 (upd (gA σ3 13) k (iI u))) i = gI σ i := fun i hi => fN.1 i (by omega)
        have eM : ∀ j, j ≠ 12 → gA τ3 j = gA τ j := fun j hj => by rw [g3.2 j, gA_sAn _ hj, g2.2 j, g1.2 j]
        have eM12 : gA τ3 12 = upd (gA τ 12) k (iI u) := by rw [g3.2 12, gA_sA, g2.2 12, g1.2 12]
        have eMi : ∀ i, 12 ≤ i ∧ i ≤ 15 → gI τ3 i = gI τ i := fun i hi => by rw [g3.1 i (by omega), gI_sA, g2.1 i (by omega), g1.1 i (by omega)]
        obtain ⟨⟨t1, t2, t3, t4, t5, t6, t7, t8, t9, t10, t11⟩, ⟨c1, c2, c3, c4, c5, c6, c7, c8, c9, c10⟩, ⟨m1, m2, m3, m4, m5, m6, m7, m8, m9⟩, l1, l2, l3, l4, d1, d2, d3, z5⟩ := hd
        refine ⟨⟨t1, t2, t3, t4, t5, t6, t7, t8, ?_, t10, t11⟩, ⟨(eCi 4 (by omega)).trans c1, (eCi 5 (by omega)).trans c2, (eCi 6 (by omega)).trans c3, (eCi 7 (by omega)).trans c4, fun c hc => (congrFun (eC 8 (by omega)) _).trans (c5 c hc), fun k w hk hw => (congrFun (eC 9 (by omega)) _).trans (c6 k w hk hw), fun k hk => (congrFun (eC 9 (by omega)) _).trans (c7 k hk), fun k w hk hw => (congrFun (eC 12 (by omega)) _).trans (c8 k w hk hw), ?_, fun i hi => (congrFun (eC 14 (by omega)) _).trans (c10 i hi)⟩, ⟨(eMi 12 (by omega)).trans m1, (eMi 13 (by omega)).trans m2, (eMi 14 (by omega)).trans m3, (eMi 15 (by omega)).trans m4, fun c hc => (congrFun (eM 9 (by omega)) _).trans (m5 c hc), fun k w hk hw => (congrFun (eM 10 (by omega)) _).trans (m6 k w hk hw), fun k w hk hw => (congrFun (eM 11 (by omega)) _).trans (m7 k w hk hw), ?_, fun i hi => (congrFun (eM 13 (by omega)) _).trans (m9 i hi)⟩, fun k hk => (congrFun (eC 10 (by omega)) _).trans (l1 k hk), fun k hk => (congrFun (eM 14 (by omega)) _).trans (l2 k hk), l3, l4, fun k hk => ⟨(congrFun (eC 11 (by omega)) _).trans (d1 k hk).1, (congrFun (eM 15 (by omega)) _).trans (d1 k hk).2⟩, d2, d3, fun k h1 h2 => (congrFun (eC 12 (by omega)) _).trans (z5 k h1 h2)⟩
        · intro f q1 q2
          have := t9 f q1 q2
          show 0 ≤ (if f = k then u else tMi T f) ∧ (if f = k then u else tMi T f) ≤ 8
          split <;> omega
        · intro f q1 q2
          show gA _ 13 f = iI (if f = k then u else tMi T f)
          rw [eC13]
          unfold upd
          by_cases e : f = k
          · rw [if_pos e, if_pos e]
          · rw [if_neg e, if_neg e]; exact c9 f q1 q2
        · intro f q1 q2
          show gA _ 12 f = iI (if f = k then u else tMi T f)
          rw [eM12]
          unfold upd
          by_cases e : f = k
          · rw [if_pos e, if_pos e]
          · rw [if_neg e, if_neg e]; exact m8 f q1 q2
/-- a crate: 'lo', 'hi' are what its letter may be -/
theorem both_crate {n : Nat} {σ τ : St} {T : Td} {L : Nat → Int} {D : Nat → Nat} (h : Md n true σ τ) (hd : DrR T L D σ τ) (h8 : tC T < 8) (hS0 : tS T = 0) (hL0 : tL T = 0) (lo hi : Int) (hlo : 0 ≤ lo ∧ lo ≤ 100) (hhi : hi = 0 ∨ hi = 25) :
    ClR n σ τ (x_X3_readCrate_b58 (iI lo) (iI hi) σ) (bd2 (x_X10_readNumber (iI lo) (iI hi) τ) fun v σ36 => bd (stI σ36 9 (lenM 9) (gI τ 12) v) fun σ24 => bd (some (sI σ24 12 ((gI σ24 12) + 1))) fun σ25 => some σ25) (fun T2 => 1 ≤ tC T2 ∧ tS T2 = 0 ∧ tL T2 = 0) := by
  obtain ⟨s4, s5, s6⟩ := gI5 hd.2.1
  obtain ⟨s12, s13, s14⟩ := gI13 hd.2.2.1
  have ec : x_X3_readCrate_b58 (iI lo) (iI hi) σ = x_X3_readCrate_b58 (iI lo) (iI hi) σ := rfl
  conv at ec => rhs; unfold x_X3_readCrate_b58
  rcases number_cases lo hi (by omega) (by omega) h with ⟨r1, σ1, τ1, a1, b1, h1, f1, g1⟩ | ⟨-, v, σ1, τ1, v1, v2, a1, b1, h1, f1, g1, -⟩
  · obtain ⟨σ3, τ3, a3, b3, h3, f3, g3⟩ := ends_false ((h1.sM (j := 9) (f := upd (gA τ1 9) (tC T) 0) (by omega)).sMI (j := 12) (v := iI ((tC T : Int) + 1)) (by omega))
    rw [a1, bd2_some, a3, bd2_some, if_pos rfl] at ec
    refine ClR.bad ec (τ1 := sI (sA τ1 9 (upd (gA τ1 9) (tC T) 0)) 12 (iI ((tC T : Int) + 1))) ?_ b3 h3 (f1.trans f3).q (g1.t.trans ((FrT.sA (by omega)).trans ((FrT.sI (by omega)).trans g3.t)))
    rw [b1, bd2_some, s12, stI_in (show tC T < lenM 9 from h8) (by decide), bd_some, gI_sA, g1.1 12 (by omega), s12, qa1, bd_some]
  · have em : (bd2 (x_X10_readNumber (iI lo) (iI hi) τ) fun v σ36 => bd (stI σ36 9 (lenM 9) (gI τ 12) v) fun σ24 => bd (some (sI σ24 12 ((gI σ24 12) + 1))) fun σ25 => some σ25) = some (sI (sA τ1 9 (upd (gA τ1 9) (tC T) (iI v))) 12 (iI ((tC T : Int) + 1))) := by
      rw [b1, bd2_some, s12, stI_in (show tC T < lenM 9 from h8) (by decide), bd_some, gI_sA, g1.1 12 (by omega), s12, qa1, bd_some]
    rw [a1, bd2_some] at ec
    have gT : FrT τ (sI (sA τ1 9 (upd (gA τ1 9) (tC T) (iI v))) 12 (iI ((tC T : Int) + 1))) := g1.t.trans ((FrT.sA (by omega)).trans (FrT.sI (by omega)))
    rcases ends_cases ((h1.sM (j := 9) (f := upd (gA τ1 9) (tC T) (iI v)) (by omega)).sMI (j := 12) (v := iI ((tC T : Int) + 1)) (by omega)) with ⟨σ3, τ3, a3, b3, h3, f3, g3⟩ | ⟨-, σ3, τ3, a3, b3, h3, f3, g3⟩
    · rw [a3, bd2_some, if_pos rfl] at ec
      exact ClR.bad ec em b3 h3 (f1.trans f3).q (gT.trans g3.t)
    · have fN := f1.trans f3
      have ea : x_X7_addCrate 1 (iI v) σ3 = some (sI (sA σ3 8 (upd (gA σ3 8) (tC T) (iI v))) 4 (iI ((tC T : Int) + 1))) := by
        unfold x_X7_addCrate
        rw [show gI σ3 (4 * 1) = iI (tC T) from (fN.1 4 (by omega)).trans s4, f_put, show putF (gA σ3 (1 + 7 * 1)) (lenN (1 + 7 * 1)) (iI (tC T : Int)) (iI v) = _ from putF_in (show tC T < lenN 8 from h8) (by decide), bd_some, gI_sA, show gI σ3 (4 * 1) = iI (tC T) from (fN.1 4 (by omega)).trans s4, qa1, bd_some]
      rw [a3, bd2_some, if_neg (by decide), ea, bd_some] at ec
      refine ⟨true, _, _, τ3, ec, em, b3, (h3.sC (by omega)).sCI (by omega), fN.q.trans ((FrQ.sA (by omega)).trans (FrQ.sI (by omega))), gT.trans g3.t, fun _ => ⟨((tC T + 1, tS T, tL T, tH T), (fun c => if c = tC T then v else tLe T c), tSp T, tLk T, tMi T, tWt T), L, D, ?_, by show 1 ≤ tC T + 1; omega, hS0, hL0⟩⟩
      have eC : ∀ j, j ≠ 8 → gA (sI (sA σ3 8 (upd (gA σ3 8) (tC T) (iI v))) 4 (iI ((tC T : Int) + 1))) j = gA σ j := fun j hj => (gA_sAn _ hj _).trans (fN.2 j)
      have eC8 : gA (sI (sA σ3 8 (upd (gA σ3 8) (tC T) (iI v))) 4 (iI ((tC T : Int) + 1))) 8 = upd (gA σ 8) (tC T) (iI v) := by rw [gA_sI, gA_sA, fN.2 8]
      have eCi : ∀ i, 5 ≤ i ∧ i ≤ 7 → gI (sI (sA σ3 8 (upd (gA σ3 8) (tC T) (iI v))) 4 (iI ((tC T : Int) + 1))) i = gI σ i := fun i hi => (gI_sIn _ (by omega) _).trans (fN.1 i (by omega))
      have eM : ∀ j, j ≠ 9 → gA τ3 j = gA τ j := fun j hj => by rw [g3.2 j, gA_sI, gA_sAn _ hj, g1.2 j]
      have eM9 : gA τ3 9 = upd (gA τ 9) (tC T) (iI v) := by rw [g3.2 9, gA_sI, gA_sA, g1.2 9]
      have eMi : ∀ i, 13 ≤ i ∧ i ≤ 15 → gI τ3 i = gI τ i := fun i hi => by rw [g3.1 i (by omega), gI_sIn _ (by omega), gI_sA, g1.1 i (by omega)]
      obtain ⟨⟨t1, t2, t3, t4, t5, t6, t7, t8, t9, t10, t11⟩, ⟨c1, c2, c3, c4, c5, c6, c7, c8, c9, c10⟩, ⟨m1, m2, m3, m4, m5, m6, m7, m8, m9⟩, l1, l2, l3, l4, d1, d2, d3, z5⟩ := hd
      refine ⟨⟨show tC T + 1 ≤ 8 by omega, t2, t3, t4, fun q => absurd (show tC T + 1 = 0 from q) (by omega), ?_, t7, t8, t9, t10, t11⟩, ⟨gI_sI _ _ _, (eCi 5 (by omega)).trans c2, (eCi 6 (by omega)).trans c3, (eCi 7 (by omega)).trans c4, ?_, fun k w hk hw => (congrFun (eC 9 (by omega)) _).trans (c6 k w hk hw), fun k hk => absurd (show k < tS T from hk) (by omega), fun k w hk hw => (congrFun (eC 12 (by omega)) _).trans (c8 k w hk hw), fun f h1 h2 => (congrFun (eC 13 (by omega)) _).trans (c9 f h1 h2), fun i hi => (congrFun (eC 14 (by omega)) _).trans (c10 i hi)⟩, ⟨?_, (eMi 13 (by omega)).trans m2, (eMi 14 (by omega)).trans m3, (eMi 15 (by omega)).trans m4, ?_, fun k w hk hw => (congrFun (eM 10 (by omega)) _).trans (m6 k w hk hw), fun k w hk hw => (congrFun (eM 11 (by omega)) _).trans (m7 k w hk hw), fun f h1 h2 => (congrFun (eM 12 (by omega)) _).trans (m8 f h1 h2), fun i hi => (congrFun (eM 13 (by omega)) _).trans (m9 i hi)⟩, fun k hk => (congrFun (eC 10 (by omega)) _).trans (l1 k hk), fun k hk => (congrFun (eM 14 (by omega)) _).trans (l2 k hk), fun k hk => absurd (show k < tS T from hk) (by omega), l4, fun k hk => ⟨(congrFun (eC 11 (by omega)) _).trans (d1 k hk).1, (congrFun (eM 15 (by omega)) _).trans (d1 k hk).2⟩, d2, d3, fun k h1 h2 => (congrFun (eC 12 (by omega)) _).trans (z5 k h1 h2)⟩
      · intro c hc
        show 0 ≤ (if c = tC T then v else tLe T c) ∧ (if c = tC T then v else tLe T c) ≤ 25
        by_cases e : c = tC T
        · rw [if_pos e]; omega
        · rw [if_neg e]; exact t6 c (by have : c < tC T + 1 := hc; omega)
      · intro c hc
        show gA _ 8 c = iI (if c = tC T then v else tLe T c)
        rw [eC8]
        unfold upd
        by_cases e : c = tC T
        · rw [if_pos e, if_pos e]
        · rw [if_neg e, if_neg e]; exact c5 c (by have : c < tC T + 1 := hc; omega)
      · show gI τ3 12 = _
        rw [g3.1 12 (by omega), gI_sI]; rfl
      · intro c hc
        show gA _ 9 c = iI (if c = tC T then v else tLe T c)
        rw [eM9]
        unfold upd
        by_cases e : c = tC T
        · rw [if_pos e, if_pos e]
        · rw [if_neg e, if_neg e]; exact m5 c (by have : c < tC T + 1 := hc; omega)
