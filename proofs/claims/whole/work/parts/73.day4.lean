/-! a day: one comes to a crate -/
def DayB (σ τ : St) (T : Td) (s : Sk) (lf : Nat → Bool) : Prop := TdC 0 σ T ∧ TdM 0 τ T ∧ SkOk (tC T) (tS T) s ∧ SkC σ 4 s ∧ SkM τ (tS T) s ∧ gI σ 21 = gI τ 16 ∧ (∃ spn, MnR σ τ T spn) ∧ gI σ 18 = gI τ 18 ∧ ((gI σ 22 = 0 ∧ gI τ 19 = 0) ∨ (gI σ 22 = 1 ∧ gI τ 19 = 1)) ∧ (∀ k, k < tL T → x_X9_hasBit (gI σ 19) (iI k) = some (if lf k then 1 else 0) ∧ gA τ 26 k = if lf k then 1 else 0)
def FrD (σ σ2 : St) : Prop := (∀ k, ¬ (k = 18 ∨ k = 20 ∨ k = 21 ∨ k = 23) → gI σ2 k = gI σ k) ∧ (∀ j, ¬ (j = 31 ∨ j = 32 ∨ j = 33 ∨ j = 34 ∨ j = 36 ∨ j = 37 ∨ j = 38 ∨ j = 39 ∨ j = 40 ∨ j = 41 ∨ j = 42) → gA σ2 j = gA σ j)
def FrE (τ τ2 : St) : Prop := (∀ k, ¬ (k = 16 ∨ k = 17 ∨ k = 18) → gI τ2 k = gI τ k) ∧ (∀ j, ¬ (j = 7 ∨ j = 16 ∨ j = 17 ∨ j = 19 ∨ j = 20 ∨ j = 21 ∨ j = 22 ∨ j = 23 ∨ j = 24 ∨ j = 25 ∨ j = 27) → gA τ2 j = gA τ j)
theorem FrD.rfl {σ : St} : FrD σ σ := ⟨fun _ _ => Eq.refl _, fun _ _ => Eq.refl _⟩
theorem FrE.rfl {σ : St} : FrE σ σ := ⟨fun _ _ => Eq.refl _, fun _ _ => Eq.refl _⟩
theorem FrD.trans {a b c : St} (h : FrD a b) (k : FrD b c) : FrD a c := ⟨fun i h1 => (k.1 i h1).trans (h.1 i h1), fun j hj => (k.2 j hj).trans (h.2 j hj)⟩
theorem FrE.trans {a b c : St} (h : FrE a b) (k : FrE b c) : FrE a c := ⟨fun i h1 => (k.1 i h1).trans (h.1 i h1), fun j hj => (k.2 j hj).trans (h.2 j hj)⟩
theorem FrC.d {a b : St} (h : FrC a b) : FrD a b := ⟨fun k hk => h.1 k (by omega), fun j hj => h.2 j (by omega)⟩
theorem FrM.e {a b : St} (h : FrM a b) : FrE a b := ⟨fun k hk => h.1 k (by omega) (by omega), fun j hj => h.2 j (by omega)⟩
theorem FrD.sA {σ : St} {j : Nat} {f : Nat → Int32} (h : j = 31 ∨ j = 32 ∨ j = 33 ∨ j = 34 ∨ j = 36 ∨ j = 37 ∨ j = 38 ∨ j = 39 ∨ j = 40 ∨ j = 41 ∨ j = 42) : FrD σ (sA σ j f) := ⟨fun _ _ => Eq.refl _, fun i hi => gA_sAn _ (by omega) _⟩
theorem FrE.sA {σ : St} {j : Nat} {f : Nat → Int32} (h : j = 7 ∨ j = 16 ∨ j = 17 ∨ j = 19 ∨ j = 20 ∨ j = 21 ∨ j = 22 ∨ j = 23 ∨ j = 24 ∨ j = 25 ∨ j = 27) : FrE σ (sA σ j f) := ⟨fun _ _ => Eq.refl _, fun i hi => gA_sAn _ (by omega) _⟩
theorem FrD.sI {σ : St} {k : Nat} {v : Int32} (h : k = 18 ∨ k = 20 ∨ k = 21 ∨ k = 23) : FrD σ (sI σ k v) := ⟨fun i h1 => gI_sIn _ (by omega) _, fun _ _ => Eq.refl _⟩
theorem FrE.sI {σ : St} {k : Nat} {v : Int32} (h : k = 16 ∨ k = 17 ∨ k = 18) : FrE σ (sI σ k v) := ⟨fun i h1 => gI_sIn _ (by omega) _, fun _ _ => Eq.refl _⟩
theorem TdC.frd {σ σ2 : St} {T : Td} (h : TdC 0 σ T) (e : FrD σ σ2) : TdC 0 σ2 T := h.eq (fun k _ _ => e.1 k (by omega)) (fun j _ _ => e.2 j (by omega))
theorem TdM.fre {σ σ2 : St} {T : Td} (h : TdM 0 σ T) (e : FrE σ σ2) : TdM 0 σ2 T := h.eq (fun k _ _ => e.1 k (by omega)) (fun j _ _ => e.2 j (by omega))
theorem MnR.eq {σ τ σ2 τ2 : St} {T : Td} {spn : Nat → Int} (h : MnR σ τ T spn) (h1 : gA σ2 36 = gA σ 36) (h2 : gA σ2 37 = gA σ 37) (h3 : gA τ2 21 = gA τ 21) (h4 : gA τ2 22 = gA τ 22) (h5 : gA τ2 23 = gA τ 23) (h6 : gI τ2 17 = gI τ 17) : MnR σ2 τ2 T spn := by
  unfold MnR
  rw [h1, h2, h3, h4, h5, h6]; exact h
/-- what both have in common does not hang on where they stand -/
theorem DayB.eq {σ τ σ2 τ2 : St} {T : Td} {s : Sk} {lf : Nat → Bool} (h : DayB σ τ T s lf) (hd : FrD σ σ2) (he : FrE τ τ2) (h1 : ∀ j, j = 31 ∨ j = 32 ∨ j = 33 ∨ j = 34 ∨ j = 36 ∨ j = 37 → gA σ2 j = gA σ j) (h2 : ∀ j, j = 7 ∨ j = 16 ∨ j = 17 ∨ j = 21 ∨ j = 22 ∨ j = 23 → gA τ2 j = gA τ j) (h3 : gI σ2 21 = gI σ 21) (h4 : gI τ2 16 = gI τ 16) (h5 : gI τ2 17 = gI τ 17) (h6 : gI σ2 18 = gI τ2 18) : DayB σ2 τ2 T s lf := by
  obtain ⟨hC, hM, hs, hSC, hSM, hsd, ⟨spn, hmn⟩, hh, hbl, hlf⟩ := h
  refine ⟨hC.frd hd, hM.fre he, hs, hSC.eq (fun j _ _ => h1 j (by omega)), ?_, by rw [h3, h4]; exact hsd, ⟨spn, hmn.eq (h1 36 (by omega)) (h1 37 (by omega)) (h2 21 (by omega)) (h2 22 (by omega)) (h2 23 (by omega)) h5⟩, h6, ?_, ?_⟩
  · exact hSM.eq (fun j hj => by
      by_cases z : j = 7 ∨ j = 16 ∨ j = 17 ∨ j = 21 ∨ j = 22 ∨ j = 23
      · exact h2 j z
      · exact he.2 j (by omega))
  · rw [hd.1 22 (by omega), he.1 19 (by omega)]; exact hbl
  · intro k hk
    rw [hd.1 19 (by omega), he.2 26 (by omega)]; exact hlf k hk
theorem c_rounded {a p : Nat} (ha : a < 10000) (hp : 1 ≤ p) (hp2 : p < 1000) : x_X9_roundedUp (iI (a : Int)) (iI (p : Int)) = some (iI (((a + p - 1) / p : Nat) : Int)) := by
  unfold x_X9_roundedUp
  rw [i0]
  simp (disch := omega) only [iI_leD]
  rw [if_neg (by omega), iI_add, i1, iI_sub, show (a : Int) + p - 1 = ((a + p - 1 : Nat) : Int) from by omega, dvN (by omega) (by omega) (by omega), bd_some]
theorem both_come {σ τ : St} {T : Td} {s : Sk} {lf : Nat → Bool} {k c : Nat} (p3 : Int32) (hT : TdOk T) (hk : k < tL T) (hc : c < tC T) (h : DayB σ τ T s lf) :
    ∃ (σ2 τ2 : St) (s2 : Sk) (d : Int32), x_X1_come (iI k) (iI c) p3 σ = some σ2 ∧ x_X10_comes (iI k) (iI c) p3 τ = some τ2 ∧ DayB σ2 τ2 T s2 lf ∧ FrD σ σ2 ∧ FrE τ τ2 ∧ gA σ2 40 = upd (gA σ 40) k (iI c) ∧ gA τ2 19 = upd (gA τ 19) k (iI c) ∧ gA σ2 41 = upd (gA σ 41) k d ∧ gA τ2 20 = upd (gA τ 20) k d ∧ gI σ2 23 = 1 ∧ gI σ2 20 = gI σ 20 ∧ gA σ2 38 = gA σ 38 ∧ gA σ2 39 = gA σ 39 ∧ gA τ2 24 = gA τ 24 ∧ gA τ2 25 = gA τ 25 ∧ (gI τ 19 = 1 → s2 = s) := by
  have hL6 := hT.2.2.1
  have hS24 := hT.2.1
  have hC8 := hT.1
  have hlk := hT.2.2.2.2.2.2.2.1 k hk
  obtain ⟨P, hP⟩ := Int.eq_ofNat_of_zero_le (a := tLk T k 1) (by omega)
  have hsz := rowL_len s c
  -- both note where he stands
  have h7 : DayB (sI (sA σ 40 (upd (gA σ 40) k (iI c))) 23 1) (sA τ 19 (upd (gA τ 19) k (iI c))) T s lf := by
    refine h.eq ((FrD.sA (by omega)).trans (FrD.sI (by omega))) (FrE.sA (by omega)) (fun j hj => gA_sAn _ (by omega) _) (fun j hj => gA_sAn _ (by omega) _) ?_ rfl rfl ?_
    · rw [gI_sIn _ (by omega)]; rfl
    · rw [gI_sIn _ (by omega)]; exact h.2.2.2.2.2.2.2.1
  have ec : x_X1_come (iI k) (iI c) p3 σ = x_X1_come (iI k) (iI c) p3 σ := rfl
  have em : x_X10_comes (iI k) (iI c) p3 τ = x_X10_comes (iI k) (iI c) p3 τ := rfl
  conv at ec => rhs; unfold x_X1_come
  conv at em => rhs; unfold x_X10_comes
  rw [f_put, putF_in (show k < lenN 40 from (show k < 6 by omega)) (by decide), bd_some, bd_some] at ec
  have hsM : ldI (gA τ 16) (lenM 16) (iI (c : Int)) = some (iI ((rowL s c).length : Nat)) := by
    rw [ldI_in (show c < lenM 16 from (show c < 8 by omega)) (by decide), show gA τ 16 c = _ from h.2.2.2.2.1.1.1 c (by omega)]
  rw [hsM, bd_some, stI_in (show k < lenM 19 from (show k < 6 by omega)) (by decide), bd_some] at em
  have f7 : FrD σ (sI (sA σ 40 (upd (gA σ 40) k (iI c))) 23 1) := (FrD.sA (by omega)).trans (FrD.sI (by omega))
  have g7 : FrE τ (sA τ 19 (upd (gA τ 19) k (iI c))) := FrE.sA (by omega)
  have a40 : gA (sI (sA σ 40 (upd (gA σ 40) k (iI c))) 23 1) 40 = upd (gA σ 40) k (iI c) := by rw [gA_sI, gA_sA]
  have a19 : gA (sA τ 19 (upd (gA τ 19) k (iI c))) 19 = upd (gA τ 19) k (iI c) := gA_sA _ _ _
  have i23 : gI (sI (sA σ 40 (upd (gA σ 40) k (iI c))) 23 1) 23 = 1 := gI_sI _ _ _
  have i20 : gI (sI (sA σ 40 (upd (gA σ 40) k (iI c))) 23 1) 20 = gI σ 20 := gI_sIn _ (by omega) _
  have a41 : gA (sI (sA σ 40 (upd (gA σ 40) k (iI c))) 23 1) 41 = gA σ 41 := gA_sAn _ (by omega) _
  have a38 : gA (sI (sA σ 40 (upd (gA σ 40) k (iI c))) 23 1) 38 = gA σ 38 := gA_sAn _ (by omega) _
  have a39 : gA (sI (sA σ 40 (upd (gA σ 40) k (iI c))) 23 1) 39 = gA σ 39 := gA_sAn _ (by omega) _
  have b20 : gA (sA τ 19 (upd (gA τ 19) k (iI c))) 20 = gA τ 20 := gA_sAn _ (by omega) _
  have b24 : gA (sA τ 19 (upd (gA τ 19) k (iI c))) 24 = gA τ 24 := gA_sAn _ (by omega) _
  have b25 : gA (sA τ 19 (upd (gA τ 19) k (iI c))) 25 = gA τ 25 := gA_sAn _ (by omega) _
  generalize sI (sA σ 40 (upd (gA σ 40) k (iI c))) 23 1 = σ7 at *
  generalize sA τ 19 (upd (gA τ 19) k (iI c)) = τ7 at *
  obtain ⟨hC, hM, hs, hSC, hSM, hsd, ⟨spn, hmn⟩, hh, hbl, hlf⟩ := h7
  rw [show x_X5_size 4 (iI c) σ7 = _ from c_size (t := 4) (by omega) hSC hs hC8 c (by omega), bd_some, show x_X7_ofLooker 0 (iI k) 1 σ7 = _ from c_ofLooker (w := 1) (by omega) hC hT hk (by omega), bd_some, hP, c_rounded (by omega) (by omega) (by omega), bd_some] at ec
  have hp7 : ldI (gA τ7 4) (lenM 4) (6 * iI (k : Int) + 1) = some (iI (P : Int)) := by
    rw [qy6, qa1]
    have := m_looker (w := 1) hM hT hk (by omega)
    rw [show ((6 * k + 1 : Nat) : Int) = 6 * (k : Int) + 1 from by omega, hP] at this
    exact this
  have hst : gI σ7 3 = gI τ7 11 := by rw [show gI σ7 3 = iI (tH T) from hC.2.2.2.1, show gI τ7 11 = iI (tH T) from hM.2.2.2.1]
  rcases hbl with ⟨hb1, hb2⟩ | ⟨hb1, hb2⟩
  · -- he looks
    rw [if_pos hb1] at ec
    have see : SeeR σ7 τ7 T s 0 0 := ⟨hC, hM, hs, hSC, hSM, hsd, ⟨spn, hmn⟩, by omega, hb2, fun q hq => absurd hq (by omega)⟩
    obtain ⟨hd, b, n, σ8, τ8, s8, e1, e2, see8, fc8, fm8⟩ := both_pass1 (p3 := p3) hT hk hc see
    obtain ⟨σ9, τ9, s9, e3, e4, see9, fc9, fm9⟩ := both_pass2 (z := hd) (p1 := iI k) (p3 := p3) (p4 := iI ((rowL s c).length : Nat)) (p5 := hd) hT hc see8
    have fc : FrC σ7 σ9 := fc8.trans fc9
    have fm : FrM τ7 τ9 := fm8.trans fm9
    have eg : x_X1_goThrough (iI k) (iI c) σ7 = some (hd, sI σ9 18 (gI σ9 18 + hd)) := by
      unfold x_X1_goThrough
      rw [e1]
      show bd2 (lp (fun v : (Int32 × St) => x_X1_goThrough_L91 (iI c) hd (iI b) v.1 v.2) FU (0, σ8)) _ = _
      rw [e3]
      rfl
    rw [eg, bd2_some] at ec
    unfold x_X1_come_b62 at ec
    rw [f_put, putF_in (show k < lenN 41 from (show k < 6 by omega)) (by decide), bd_some, gA_sI, fc.2 41 (by omega), a41] at ec
    rw [e2] at em
    have em : x_X10_comes (iI k) (iI c) p3 τ = bd2 (lp (fun v : (Int32 × St) => x_X10_comes_L229 (iI k) (iI c) p3 (iI ((rowL s c).length : Nat)) hd (iI b) v.1 v.2) FU (0, τ8)) _ := em
    rw [e4, bd2_some, bd_some, gA_sI, fm.2 4 (by omega), hp7, bd_some, iI_add, i1, iI_sub, show ((rowL s c).length : Int) + P - 1 = (((rowL s c).length + P - 1 : Nat) : Int) from by omega, dvN (by omega) (by omega) (by omega), bd_some, gI_sIn _ (show 11 ≠ 18 by omega), fm.1 11 (by omega) (by omega), ← hst, stI_in (show k < lenM 20 from (show k < 6 by omega)) (by decide), bd_some, gA_sI, fm.2 20 (by omega), b20, Int32.add_assoc] at em
    obtain ⟨hC9, hM9, hs9, hSC9, hSM9, hsd9, ⟨spn9, hmn9⟩, hb249, hbl9, hhl9⟩ := see9
    have fd : FrD σ7 (sA (sI σ9 18 (gI σ9 18 + hd)) 41 (upd (gA σ 41) k (p3 + (iI ((((rowL s c).length + P - 1) / P : Nat) : Int) + gI σ7 3 * hd)))) := fc.d.trans ((FrD.sI (by omega)).trans (FrD.sA (by omega)))
    have fe : FrE τ7 (sA (sI τ9 18 (gI τ9 18 + hd)) 20 (upd (gA τ 20) k (p3 + (iI ((((rowL s c).length + P - 1) / P : Nat) : Int) + gI σ7 3 * hd)))) := fm.e.trans ((FrE.sI (by omega)).trans (FrE.sA (by omega)))
    generalize p3 + (iI ((((rowL s c).length + P - 1) / P : Nat) : Int) + gI σ7 3 * hd) = d at *
    refine ⟨_, _, s9, d, ec, em, ⟨hC.frd fd, hM.fre fe, hs9, ?_, ?_, ?_, ⟨spn9, ?_⟩, ?_, Or.inl ⟨(fd.1 22 (by omega)).trans hb1, (fe.1 19 (by omega)).trans hb2⟩, ?_⟩, f7.trans fd, g7.trans fe, ?_, ?_, ?_, ?_, ?_, ?_, ?_, ?_, ?_, ?_, fun q => absurd (hb2.symm.trans ((g7.1 19 (by omega)).trans q)) (by decide)⟩
    · exact hSC9.eq (fun j _ _ => gA_sAn _ (by omega) _)
    · exact hSM9.eq (fun j _ => gA_sAn _ (by omega) _)
    · rw [gI_sA, gI_sA, gI_sIn _ (by omega), gI_sIn _ (by omega)]; exact hsd9
    · exact hmn9.eq (gA_sAn _ (by omega) _) (gA_sAn _ (by omega) _) (gA_sAn _ (by omega) _) (gA_sAn _ (by omega) _) (gA_sAn _ (by omega) _) (by rw [gI_sA, gI_sIn _ (by omega)])
    · rw [gI_sA, gI_sA, gI_sI, gI_sI, fc.1 18 (by omega), fm.1 18 (by omega) (by omega), hh]
    · intro q hq
      rw [fd.1 19 (by omega), fe.2 26 (by omega)]; exact hlf q hq
    · rw [gA_sAn _ (by omega), gA_sI, fc.2 40 (by omega), a40]
    · rw [gA_sAn _ (by omega), gA_sI, fm.2 19 (by omega), a19]
    · rw [gA_sA]
    · rw [gA_sA]
    · rw [gI_sA, gI_sIn _ (by omega), fc.1 23 (by omega), i23]
    · rw [gI_sA, gI_sIn _ (by omega), fc.1 20 (by omega), i20]
    · rw [gA_sAn _ (by omega), gA_sI, fc.2 38 (by omega), a38]
    · rw [gA_sAn _ (by omega), gA_sI, fc.2 39 (by omega), a39]
    · rw [gA_sAn _ (by omega), gA_sI, fm.2 24 (by omega), b24]
    · rw [gA_sAn _ (by omega), gA_sI, fm.2 25 (by omega), b25]
  · rw [if_neg (by rw [hb1]; decide)] at ec
    unfold x_X1_come_b62 at ec
    rw [f_put, putF_in (show k < lenN 41 from (show k < 6 by omega)) (by decide), bd_some, a41] at ec
    have e2 : lp (fun v : (Int32 × Int32 × Int32 × Int32 × St) => x_X10_comes_L27 (iI k) (iI c) p3 (iI ((rowL s c).length : Nat)) v.1 v.2.1 v.2.2.1 v.2.2.2.1 v.2.2.2.2) FU (0, 0, 0, 0, τ7) = some (0, 0, 0, 0, τ7) := by
      rw [show FU = 4999 + 1 from rfl]
      refine lp_f ?_
      show x_X10_comes_L27 _ _ _ _ 0 0 0 0 τ7 = _
      unfold x_X10_comes_L27
      by_cases z : iI ((rowL s c).length : Int) ≤ 0
      · rw [if_pos z]
      · rw [if_neg z, if_neg (by rw [hb2]; decide)]
    have e4 : lp (fun v : (Int32 × St) => x_X10_comes_L229 (iI k) (iI c) p3 (iI ((rowL s c).length : Nat)) 0 0 v.1 v.2) FU (0, τ7) = some (0, τ7) := by
      rw [show FU = 4999 + 1 from rfl]
      refine lp_f ?_
      show x_X10_comes_L229 _ _ _ _ 0 0 0 τ7 = _
      unfold x_X10_comes_L229
      rw [if_pos (by decide)]
    rw [e2, bd5_some] at em
    rw [e4, bd2_some, bd_some, gA_sI, hp7, bd_some, iI_add, i1, iI_sub, show ((rowL s c).length : Int) + P - 1 = (((rowL s c).length + P - 1 : Nat) : Int) from by omega, dvN (by omega) (by omega) (by omega), bd_some, Int32.mul_zero, Int32.add_zero, Int32.add_zero, stI_in (show k < lenM 20 from (show k < 6 by omega)) (by decide), bd_some, gA_sI, b20] at em
    have fd : FrD σ7 (sA σ7 41 (upd (gA σ 41) k (p3 + iI ((((rowL s c).length + P - 1) / P : Nat) : Int)))) := FrD.sA (by omega)
    have fe : FrE τ7 (sA (sI τ7 18 (gI τ7 18)) 20 (upd (gA τ 20) k (p3 + iI ((((rowL s c).length + P - 1) / P : Nat) : Int)))) := (FrE.sI (by omega)).trans (FrE.sA (by omega))
    generalize p3 + iI ((((rowL s c).length + P - 1) / P : Nat) : Int) = d at *
    refine ⟨_, _, s, d, ec, em, ⟨hC.frd fd, hM.fre fe, hs, ?_, ?_, ?_, ⟨spn, ?_⟩, ?_, Or.inr ⟨(fd.1 22 (by omega)).trans hb1, (fe.1 19 (by omega)).trans hb2⟩, ?_⟩, f7.trans fd, g7.trans fe, ?_, ?_, ?_, ?_, ?_, ?_, ?_, ?_, ?_, ?_, fun _ => rfl⟩
    · exact hSC.eq (fun j _ _ => gA_sAn _ (by omega) _)
    · exact hSM.eq (fun j _ => gA_sAn _ (by omega) _)
    · rw [gI_sA, gI_sA, gI_sIn _ (by omega)]; exact hsd
    · exact hmn.eq (gA_sAn _ (by omega) _) (gA_sAn _ (by omega) _) (gA_sAn _ (by omega) _) (gA_sAn _ (by omega) _) (gA_sAn _ (by omega) _) (by rw [gI_sA, gI_sIn _ (by omega)])
    · rw [gI_sA, gI_sA, gI_sI, hh]
    · intro q hq
      rw [fd.1 19 (by omega), fe.2 26 (by omega)]; exact hlf q hq
    · rw [gA_sAn _ (by omega), a40]
    · rw [gA_sAn _ (by omega), gA_sI, a19]
    · rw [gA_sA]
    · rw [gA_sA]
    · rw [gI_sA, i23]
    · rw [gI_sA, i20]
    · rw [gA_sAn _ (by omega), a38]
    · rw [gA_sAn _ (by omega), a39]
    · rw [gA_sAn _ (by omega), gA_sI, b24]
    · rw [gA_sAn _ (by omega), gA_sI, b25]
