/-! shop: the draft, and its clauses -/
/-- the draft, on both sides -/
def DrR (T : Td) (L : Nat → Int) (D : Nat → Nat) (σ τ : St) : Prop :=
  TdOk T ∧ TdC 1 σ T ∧ TdM 1 τ T ∧ (∀ k, k < 24 → gA σ 10 k = iI (L k)) ∧ (∀ k, k < tS T → gA τ 14 k = iI (L k)) ∧ (∀ k, k < tS T → 0 ≤ L k ∧ L k < tC T) ∧ (∀ k, tS T ≤ k → k < 24 → L k = -1) ∧ (∀ k, k < 24 → gA σ 11 k = iI (D k) ∧ gA τ 15 k = iI (D k)) ∧ Bij 24 D ∧ (∀ k, tS T ≤ k → k < 24 → D k = k) ∧ (∀ k, tL T ≤ k → k < 6 → gA σ 12 (6 * k + 5) = 0)
def FrQ (σ σ2 : St) : Prop := (∀ k, ¬ ((4 ≤ k ∧ k ≤ 7) ∨ k = 11 ∨ k = 13 ∨ k = 14 ∨ k = 15) → gI σ2 k = gI σ k) ∧ (∀ j, ¬ (8 ≤ j ∧ j ≤ 14) → gA σ2 j = gA σ j)
def FrT (τ τ2 : St) : Prop := (∀ k, ¬ (k = 3 ∨ k = 4 ∨ k = 5 ∨ (12 ≤ k ∧ k ≤ 15)) → gI τ2 k = gI τ k) ∧ (∀ j, ¬ (9 ≤ j ∧ j ≤ 15) → gA τ2 j = gA τ j)
theorem FrQ.rfl {σ : St} : FrQ σ σ := ⟨fun _ _ => Eq.refl _, fun _ _ => Eq.refl _⟩
theorem FrT.rfl {σ : St} : FrT σ σ := ⟨fun _ _ => Eq.refl _, fun _ _ => Eq.refl _⟩
theorem FrQ.trans {a b c : St} (h : FrQ a b) (k : FrQ b c) : FrQ a c := ⟨fun i h1 => (k.1 i h1).trans (h.1 i h1), fun j hj => (k.2 j hj).trans (h.2 j hj)⟩
theorem FrT.trans {a b c : St} (h : FrT a b) (k : FrT b c) : FrT a c := ⟨fun i h1 => (k.1 i h1).trans (h.1 i h1), fun j hj => (k.2 j hj).trans (h.2 j hj)⟩
theorem FrN.q {a b : St} (h : FrN a b) : FrQ a b := ⟨fun k hk => h.1 k (by omega), fun j _ => h.2 j⟩
theorem FrO.t {a b : St} (h : FrO a b) : FrT a b := ⟨fun k hk => h.1 k (by omega), fun j _ => h.2 j⟩
theorem FrQ.sI {σ : St} {k : Nat} {v : Int32} (h : (4 ≤ k ∧ k ≤ 7) ∨ k = 11 ∨ k = 13 ∨ k = 14 ∨ k = 15) : FrQ σ (sI σ k v) := ⟨fun i h1 => gI_sIn _ (by omega) _, fun _ _ => Eq.refl _⟩
theorem FrQ.sA {σ : St} {j : Nat} {f : Nat → Int32} (h : 8 ≤ j ∧ j ≤ 14) : FrQ σ (sA σ j f) := ⟨fun _ _ => Eq.refl _, fun i hi => gA_sAn _ (by omega) _⟩
theorem FrT.sI {σ : St} {k : Nat} {v : Int32} (h : k = 3 ∨ k = 4 ∨ k = 5 ∨ (12 ≤ k ∧ k ≤ 15)) : FrT σ (sI σ k v) := ⟨fun i h1 => gI_sIn _ (by omega) _, fun _ _ => Eq.refl _⟩
theorem FrT.sA {σ : St} {j : Nat} {f : Nat → Int32} (h : 9 ≤ j ∧ j ≤ 15) : FrT σ (sA σ j f) := ⟨fun _ _ => Eq.refl _, fun i hi => gA_sAn _ (by omega) _⟩
theorem Md.sM {n : Nat} {ok : Bool} {σ τ : St} {j : Nat} {f : Nat → Int32} (h : Md n ok σ τ) (hj : 9 ≤ j) : Md n ok σ (sA τ j f) := h.eq (fun _ _ => Eq.refl _) (Eq.refl _) (fun _ _ _ => Eq.refl _) (gA_sAn _ (by omega) _)
theorem Md.sMI {n : Nat} {ok : Bool} {σ τ : St} {j : Nat} {v : Int32} (h : Md n ok σ τ) (hj : 12 ≤ j) : Md n ok σ (sI τ j v) := h.eq (fun _ _ => Eq.refl _) (Eq.refl _) (fun _ _ _ => gI_sIn _ (by omega) _) (Eq.refl _)
theorem Md.sC {n : Nat} {ok : Bool} {σ τ : St} {j : Nat} {f : Nat → Int32} (h : Md n ok σ τ) (hj : 8 ≤ j) : Md n ok (sA σ j f) τ := h.eq (fun _ _ => Eq.refl _) (gA_sAn _ (by omega) _) (fun _ _ _ => Eq.refl _) (Eq.refl _)
theorem Md.sCI {n : Nat} {ok : Bool} {σ τ : St} {j : Nat} {v : Int32} (h : Md n ok σ τ) (hj : j ≤ 7) : Md n ok (sI σ j v) τ := h.eq (fun _ _ => gI_sIn _ (by omega) _) (Eq.refl _) (fun _ _ _ => Eq.refl _) (Eq.refl _)
/-- what a clause does on both sides -/
def ClR (n : Nat) (σ τ : St) (x y : Option St) (P : Td → Prop) : Prop :=
  ∃ (ok : Bool) (σ2 τ1 τ2 : St), x = some σ2 ∧ y = some τ1 ∧ x_X10_sign 59 τ1 = some τ2 ∧ Md n ok σ2 τ2 ∧ FrQ σ σ2 ∧ FrT τ τ2 ∧ (ok = true → ∃ T L D, DrR T L D σ2 τ2 ∧ P T)
/-- the reference looks for the next sign -/
theorem both_here {n : Nat} {ok : Bool} {σ τ : St} (h : Md n ok σ τ) : ∃ c τs, x_X10_here τ = some (c, τs) ∧ x_X10_here τs = some (c, τs) ∧ Md n ok σ τs ∧ FrO τ τs ∧ ∃ b : Nat, b ≤ n ∧ gI τs 3 = iI b := by
  obtain ⟨hc, a, a', ha, ha', h13, h3, hm⟩ := h
  obtain ⟨b, rb⟩ := run_ex (fun k => gA τ 1 k = 32) ha'
  have f : FrO τ (sI τ 3 (iI b)) := FrO.sI (by omega)
  have hc2 := hc.fr (FrN.rfl (σ := σ)) f
  have h1 := m_here hc.1 hc.2.2.1 h3 rb
  have h2 : x_X10_here (sI τ 3 (iI b)) = some (if b < n then gA τ 1 b else 0, sI τ 3 (iI b)) := by
    rw [m_here hc.1 hc2.2.2.1 (gI_sI _ _ _) rb.again, sI_sI]; rfl
  refine ⟨_, _, h1, h2, ⟨hc2, a, b, ha, rb.2.1, h13, gI_sI _ _ _, ?_⟩, f, b, rb.2.1, gI_sI _ _ _⟩
  cases ok with
  | false =>
    rw [if_neg (by decide)] at hm ⊢
    unfold MdF at hm ⊢
    rw [gI_sIn _ (by omega), gI_sIn _ (by omega)]
    exact hm
  | true =>
    rw [if_pos rfl] at hm ⊢
    obtain ⟨q1, q2, q3, b2, q4, q5⟩ := hm
    have e := (q5.tape hc.2.2.2).uniq rb
    subst e
    exact ⟨q1, by rw [gI_sIn _ (by omega)]; exact q2, q3, b2, q4, q4.again⟩
theorem both_stop {n : Nat} {σ τ : St} {T : Td} {L : Nat → Int} {D : Nat → Nat} (h : Md n true σ τ) (hd : DrR T L D σ τ) (hc1 : 1 ≤ tC T) : ClR n σ τ (x_X3_readStop σ) (x_X10_readOther (WO 7) τ) (fun T2 => 1 ≤ tC T2) := by
  obtain ⟨o1, r1, σ1, q1, τ1, a1, b1, h1, f1, g1, u1, z1⟩ := both_number 0 30 (by omega) (by omega) h
  obtain ⟨o2, r2, σ2, τ2, a2, b2, h2, f2, g2, u2, z2⟩ := both_ends (h1.sMI (j := 15) (v := q1) (by omega))
  have fN := f1.trans f2
  have em : x_X10_readOther (WO 7) τ = some (sI τ1 15 q1) := by
    unfold x_X10_readOther
    rw [m_of (i := 1) (by decide), bd_some, if_neg (of_ne (i := 7) (j := 1) (by decide) (by decide) (by decide)), m_of (i := 2) (by decide), bd_some, if_neg (of_ne (i := 7) (j := 2) (by decide) (by decide) (by decide)), m_of (i := 3) (by decide), bd_some, if_neg (of_ne (i := 7) (j := 3) (by decide) (by decide) (by decide)), m_of (i := 4) (by decide), bd_some, if_neg (of_ne (i := 7) (j := 4) (by decide) (by decide) (by decide)), m_of (i := 5) (by decide), bd_some, if_neg (of_ne (i := 7) (j := 5) (by decide) (by decide) (by decide)), m_of (i := 6) (by decide), bd_some, if_neg (of_ne (i := 7) (j := 6) (by decide) (by decide) (by decide)), m_of (i := 7) (by decide), bd_some, if_pos rfl, show x_X10_readNumber 0 30 τ = _ from b1, bd2_some, bd_some]
  have ec : x_X3_readStop σ = if r2 = 0 then some σ2 else some (sI σ2 7 r1) := by
    unfold x_X3_readStop
    rw [show x_X3_number 0 30 σ = _ from a1, bd2_some, a2, bd2_some, bd_some]
  have fT : FrT τ τ2 := g1.t.trans ((FrT.sI (by omega)).trans g2.t)
  cases o2 with
  | false =>
    rw [z2 rfl, if_pos rfl] at ec
    exact ⟨false, _, _, τ2, ec, em, b2, h2, fN.q, fT, fun q => absurd q (by decide)⟩
  | true =>
    obtain ⟨e1, rfl⟩ := u2 rfl
    obtain ⟨-, ⟨v, v1, v2, rfl, rfl⟩, -⟩ := u1 e1
    rw [if_neg (by decide)] at ec
    refine ⟨true, _, _, τ2, ec, em, b2, h2.sCI (by omega), fN.q.trans (FrQ.sI (by omega)), fT, fun _ => ⟨((tC T, tS T, tL T, v), T.2), L, D, ?_, hc1⟩⟩
    have eC : ∀ j, j ≤ 14 → gA (sI σ2 7 (iI v)) j = gA σ j := fun j _ => fN.2 j
    have eCi : ∀ k, k = 4 ∨ k = 5 ∨ k = 6 → gI (sI σ2 7 (iI v)) k = gI σ k := fun k hk => by rw [gI_sIn _ (by omega), fN.1 k (by omega)]
    have eM : ∀ j, j ≤ 15 → gA τ2 j = gA τ j := fun j _ => (g2.2 j).trans (g1.2 j)
    have eMi : ∀ k, k = 12 ∨ k = 13 ∨ k = 14 → gI τ2 k = gI τ k := fun k hk => by rw [g2.1 k (by omega), gI_sIn _ (by omega), g1.1 k (by omega)]
    obtain ⟨⟨t1, t2, t3, t4, t5, t6, t7, t8, t9, t10, t11⟩, ⟨c1, c2, c3, c4, c5, c6, c7, c8, c9, c10⟩, ⟨m1, m2, m3, m4, m5, m6, m7, m8, m9⟩, l1, l2, l3, l4, d1, d2, d3, z5⟩ := hd
    exact ⟨⟨t1, t2, t3, ⟨v1, v2⟩, t5, t6, t7, t8, t9, t10, t11⟩, ⟨(eCi 4 (by omega)).trans c1, (eCi 5 (by omega)).trans c2, (eCi 6 (by omega)).trans c3, gI_sI _ _ _, fun c hc => (congrFun (eC 8 (by omega)) _).trans (c5 c hc), fun k w hk hw => (congrFun (eC 9 (by omega)) _).trans (c6 k w hk hw), fun k hk => (congrFun (eC 9 (by omega)) _).trans (c7 k hk), fun k w hk hw => (congrFun (eC 12 (by omega)) _).trans (c8 k w hk hw), fun f h1 h2 => (congrFun (eC 13 (by omega)) _).trans (c9 f h1 h2), fun i hi => (congrFun (eC 14 (by omega)) _).trans (c10 i hi)⟩, ⟨(eMi 12 (by omega)).trans m1, (eMi 13 (by omega)).trans m2, (eMi 14 (by omega)).trans m3, by show gI τ2 15 = _; rw [g2.1 15 (by omega)]; exact gI_sI _ _ _, fun c hc => (congrFun (eM 9 (by omega)) _).trans (m5 c hc), fun k w hk hw => (congrFun (eM 10 (by omega)) _).trans (m6 k w hk hw), fun k w hk hw => (congrFun (eM 11 (by omega)) _).trans (m7 k w hk hw), fun f h1 h2 => (congrFun (eM 12 (by omega)) _).trans (m8 f h1 h2), fun i hi => (congrFun (eM 13 (by omega)) _).trans (m9 i hi)⟩, fun k hk => (congrFun (eC 10 (by omega)) _).trans (l1 k hk), fun k hk => (congrFun (eM 14 (by omega)) _).trans (l2 k hk), l3, l4, fun k hk => ⟨(congrFun (eC 11 (by omega)) _).trans (d1 k hk).1, (congrFun (eM 15 (by omega)) _).trans (d1 k hk).2⟩, d2, d3, fun k h1 h2 => (congrFun (eC 12 (by omega)) _).trans (z5 k h1 h2)⟩
theorem gI5 {σ : St} {T : Td} (h : TdC 1 σ T) : gI σ 4 = iI (tC T) ∧ gI σ 5 = iI (tS T) ∧ gI σ 6 = iI (tL T) := ⟨h.1, h.2.1, h.2.2.1⟩
theorem gI13 {τ : St} {T : Td} (h : TdM 1 τ T) : gI τ 12 = iI (tC T) ∧ gI τ 13 = iI (tS T) ∧ gI τ 14 = iI (tL T) := ⟨h.1, h.2.1, h.2.2.1⟩
theorem Md.fine {n : Nat} {ok : Bool} {σ τ : St} (h : Md n ok σ τ) : x_X10_fine τ = some (if ok = true then 1 else 0) := by
  cases ok with
  | false => exact m_fine0 h.mf.2.choose_spec.choose_spec.2.2.2.2.2.1
  | true =>
    obtain ⟨_, _, _, _, _, _, _, _, _, q, _⟩ := h.mt
    exact m_fine1 q
theorem Md.fine0 {n : Nat} {σ τ : St} (h : Md n false σ τ) : x_X10_fine τ = some 0 := h.fine
theorem Md.fine1 {n : Nat} {σ τ : St} (h : Md n true σ τ) : x_X10_fine τ = some 1 := h.fine
theorem both_left {n : Nat} {σ τ : St} {T : Td} {L : Nat → Int} {D : Nat → Nat} (h : Md n true σ τ) (hd : DrR T L D σ τ) (hc1 : 1 ≤ tC T) : ClR n σ τ (x_X3_readLeft σ) (x_X10_readOther (WO 5) τ) (fun T2 => 1 ≤ tC T2) := by
  have hL6 := hd.1.2.2.1
  obtain ⟨s4, s5, s6⟩ := gI5 hd.2.1
  obtain ⟨s12, s13, s14⟩ := gI13 hd.2.2.1
  obtain ⟨o1, r1, σ1, q1, τ1, a1, b1, h1, f1, g1, u1, z1⟩ := both_number 0 ((tL T : Int) - 1) (by omega) (by omega) h
  have em0 : x_X10_readOther (WO 5) τ = if (if o1 = true then (1 : Int32) else 0) = 0 then some τ1 else bd (stI τ1 11 (lenM 11) (6 * q1 + 5) 1) fun σ43 => some σ43 := by
    unfold x_X10_readOther
    rw [m_of (i := 1) (by decide), bd_some, if_neg (of_ne (i := 5) (j := 1) (by decide) (by decide) (by decide)), m_of (i := 2) (by decide), bd_some, if_neg (of_ne (i := 5) (j := 2) (by decide) (by decide) (by decide)), m_of (i := 3) (by decide), bd_some, if_neg (of_ne (i := 5) (j := 3) (by decide) (by decide) (by decide)), m_of (i := 4) (by decide), bd_some, if_neg (of_ne (i := 5) (j := 4) (by decide) (by decide) (by decide)), m_of (i := 5) (by decide), bd_some, if_pos rfl, s14, qs1, show x_X10_readNumber 0 (iI ((tL T : Int) - 1)) τ = _ from b1, bd2_some, h1.fine, bd_some]
  cases o1 with
  | false =>
    obtain ⟨o2, r2, σ2, τ2, a2, b2, h2, f2, g2, u2, z2⟩ := both_ends h1
    have ho2 : o2 = false := by
      cases o2 with
      | false => rfl
      | true => exact absurd (u2 rfl).1 (by decide)
    subst ho2
    have ec : x_X3_readLeft σ = some σ2 := by
      unfold x_X3_readLeft
      rw [s6, qs1, show x_X3_number 0 (iI ((tL T : Int) - 1)) σ = _ from a1, bd2_some, a2, bd2_some, z2 rfl, if_pos rfl]
    rw [if_pos (by decide)] at em0
    exact ⟨false, _, _, τ2, ec, em0, b2, h2, (f1.trans f2).q, (g1.trans g2).t, fun q => absurd q (by decide)⟩
  | true =>
    obtain ⟨-, ⟨v, v1, v2, rfl, rfl⟩, -⟩ := u1 rfl
    obtain ⟨k, rfl⟩ := Int.eq_ofNat_of_zero_le v1
    have hk : k < tL T := by omega
    rw [if_neg (by decide), qy6, qa5, show 6 * (k : Int) + 5 = ((6 * k + 5 : Nat) : Int) from by omega, stI_in (show 6 * k + 5 < lenM 11 from (show 6 * k + 5 < 36 by omega)) (by decide), bd_some] at em0
    obtain ⟨o2, r2, σ2, τ2, a2, b2, h2, f2, g2, u2, z2⟩ := both_ends (h1.sM (j := 11) (f := upd (gA τ1 11) (6 * k + 5) 1) (by omega))
    have fN := f1.trans f2
    have fT : FrT τ τ2 := g1.t.trans ((FrT.sA (by omega)).trans g2.t)
    have ec : x_X3_readLeft σ = if r2 = 0 then some σ2 else bd (x_X7_turnLeft 1 (iI (k : Int)) σ2) fun σ5 => some σ5 := by
      unfold x_X3_readLeft
      rw [s6, qs1, show x_X3_number 0 (iI ((tL T : Int) - 1)) σ = _ from a1, bd2_some, a2, bd2_some]
    cases o2 with
    | false =>
      rw [z2 rfl, if_pos rfl] at ec
      exact ⟨false, _, _, τ2, ec, em0, b2, h2, fN.q, fT, fun q => absurd q (by decide)⟩
    | true =>
      obtain ⟨-, rfl⟩ := u2 rfl
      have et : x_X7_turnLeft 1 (iI (k : Int)) σ2 = some (sA σ2 12 (upd (gA σ2 12) (6 * k + 5) 1)) := by
        unfold x_X7_turnLeft
        rw [qx6, qa5, show (k : Int) * 6 + 5 = ((6 * k + 5 : Nat) : Int) from by omega, f_put, putF_in (show 6 * k + 5 < lenN 12 from (show 6 * k + 5 < 36 by omega)) (by decide), bd_some]
      rw [if_neg (by decide), et, bd_some] at ec
      refine ⟨true, _, _, τ2, ec, em0, b2, h2.sC (by omega), fN.q.trans (FrQ.sA (by omega)), fT, fun _ => ⟨(T.1, tLe T, tSp T, (fun i w => if i = k ∧ w = 5 then 1 else tLk T i w), tMi T, tWt T), L, D, ?_, hc1⟩⟩
      have eC : ∀ j, j ≠ 12 → gA (sA σ2 12 (upd (gA σ2 12) (6 * k + 5) 1)) j = gA σ j := fun j hj => (gA_sAn _ hj _).trans (fN.2 j)
      have eC12 : gA (sA σ2 12 (upd (gA σ2 12) (6 * k + 5) 1)) 12 = upd (gA σ 12) (6 * k + 5) 1 := by rw [gA_sA, fN.2 12]
      have eCi : ∀ i, 4 ≤ i ∧ i ≤ 7 → gI (sA σ2 12 (upd (gA σ2 12) (6 * k + 5) 1)) i = gI σ i := fun i hi => fN.1 i (by omega)
      have eM : ∀ j, j ≠ 11 → gA τ2 j = gA τ j := fun j hj => by rw [g2.2 j, gA_sAn _ hj, g1.2 j]
      have eM11 : gA τ2 11 = upd (gA τ 11) (6 * k + 5) 1 := by rw [g2.2 11, gA_sA, g1.2 11]
      have eMi : ∀ i, 12 ≤ i ∧ i ≤ 15 → gI τ2 i = gI τ i := fun i hi => by rw [g2.1 i (by omega), gI_sA, g1.1 i (by omega)]
      obtain ⟨⟨t1, t2, t3, t4, t5, t6, t7, t8, t9, t10, t11⟩, ⟨c1, c2, c3, c4, c5, c6, c7, c8, c9, c10⟩, ⟨m1, m2, m3, m4, m5, m6, m7, m8, m9⟩, l1, l2, l3, l4, d1, d2, d3, z5⟩ := hd
      refine ⟨⟨t1, t2, t3, t4, t5, t6, t7, ?_, t9, t10, t11⟩, ⟨(eCi 4 (by omega)).trans c1, (eCi 5 (by omega)).trans c2, (eCi 6 (by omega)).trans c3, (eCi 7 (by omega)).trans c4, fun c hc => (congrFun (eC 8 (by omega)) _).trans (c5 c hc), fun k w hk hw => (congrFun (eC 9 (by omega)) _).trans (c6 k w hk hw), fun k hk => (congrFun (eC 9 (by omega)) _).trans (c7 k hk), ?_, fun f h1 h2 => (congrFun (eC 13 (by omega)) _).trans (c9 f h1 h2), fun i hi => (congrFun (eC 14 (by omega)) _).trans (c10 i hi)⟩, ⟨(eMi 12 (by omega)).trans m1, (eMi 13 (by omega)).trans m2, (eMi 14 (by omega)).trans m3, (eMi 15 (by omega)).trans m4, fun c hc => (congrFun (eM 9 (by omega)) _).trans (m5 c hc), fun k w hk hw => (congrFun (eM 10 (by omega)) _).trans (m6 k w hk hw), ?_, fun f h1 h2 => (congrFun (eM 12 (by omega)) _).trans (m8 f h1 h2), fun i hi => (congrFun (eM 13 (by omega)) _).trans (m9 i hi)⟩, fun k hk => (congrFun (eC 10 (by omega)) _).trans (l1 k hk), fun k hk => (congrFun (eM 14 (by omega)) _).trans (l2 k hk), l3, l4, fun k hk => ⟨(congrFun (eC 11 (by omega)) _).trans (d1 k hk).1, (congrFun (eM 15 (by omega)) _).trans (d1 k hk).2⟩, d2, d3, ?_⟩
      · intro i hi
        have := t8 i hi
        show 0 ≤ (if i = k ∧ (0 : Nat) = 5 then (1 : Int) else tLk T i 0) ∧ (if i = k ∧ (0 : Nat) = 5 then (1 : Int) else tLk T i 0) ≤ 600 ∧ 1 ≤ (if i = k ∧ (1 : Nat) = 5 then (1 : Int) else tLk T i 1) ∧ (if i = k ∧ (1 : Nat) = 5 then (1 : Int) else tLk T i 1) ≤ 8 ∧ 0 ≤ (if i = k ∧ (2 : Nat) = 5 then (1 : Int) else tLk T i 2) ∧ (if i = k ∧ (2 : Nat) = 5 then (1 : Int) else tLk T i 2) ≤ 9 ∧ 0 ≤ (if i = k ∧ (3 : Nat) = 5 then (1 : Int) else tLk T i 3) ∧ (if i = k ∧ (3 : Nat) = 5 then (1 : Int) else tLk T i 3) ≤ 99 ∧ 0 ≤ (if i = k ∧ (4 : Nat) = 5 then (1 : Int) else tLk T i 4) ∧ (if i = k ∧ (4 : Nat) = 5 then (1 : Int) else tLk T i 4) ≤ 999 ∧ 0 ≤ (if i = k ∧ (5 : Nat) = 5 then (1 : Int) else tLk T i 5) ∧ (if i = k ∧ (5 : Nat) = 5 then (1 : Int) else tLk T i 5) ≤ 1
        rw [if_neg (by omega), if_neg (by omega), if_neg (by omega), if_neg (by omega), if_neg (by omega)]
        refine ⟨by omega, by omega, by omega, by omega, by omega, by omega, by omega, by omega, by omega, by omega, ?_, ?_⟩
        · split <;> omega
        · split <;> omega
      · intro i w hi hw
        show gA _ 12 (6 * i + w) = iI (if i = k ∧ w = 5 then 1 else tLk T i w)
        rw [eC12]
        unfold upd
        by_cases e : i = k ∧ w = 5
        · rw [if_pos (by omega), if_pos e]; rfl
        · rw [if_neg (by omega), if_neg e]; exact c8 i w hi hw
      · intro i w hi hw
        show gA _ 11 (6 * i + w) = iI (if i = k ∧ w = 5 then 1 else tLk T i w)
        rw [eM11]
        unfold upd
        by_cases e : i = k ∧ w = 5
        · rw [if_pos (by omega), if_pos e]; rfl
        · rw [if_neg (by omega), if_neg e]; exact m7 i w hi hw
      · intro i i1 i2
        rw [eC12]
        unfold upd
        rw [if_neg (by have : tL T ≤ i := i1; omega)]
        exact z5 i i1 i2
