/-! shop: one clause -/
theorem shop200_bad {i : Nat} {ot w cr : Int32} {n : Nat} {σ τ : St} (h : Md n false σ τ) : x200 i ot w cr τ = some (false, (iI i, ot, τ)) := by
  unfold x200 x_X10_shop_b46_200
  rw [h.fine0, bd_some, if_pos rfl]
theorem readCrate_eq {σ : St} {T : Td} (hT : TdOk T) (hC : TdC 1 σ T) : x_X3_readCrate σ = x_X3_readCrate_b58 (iI (if tC T = 0 then 0 else tLe T (tC T - 1) + 1)) (iI (if tC T = 0 then 0 else 25)) σ := by
  obtain ⟨s4, -, -⟩ := gI5 hC
  have h8 := hT.1
  unfold x_X3_readCrate x_X3_readCrate_b15 x_X3_readCrate_b45
  rw [s4]
  simp (disch := omega) only [qe0]
  by_cases c : tC T = 0
  · rw [if_pos (by omega), if_neg (by decide), if_neg (by decide), if_pos c, if_pos c]
    rfl
  · rw [if_neg (by omega)]
    simp only [if_true]
    rw [if_neg c, if_neg c, qs1, show (tC T : Int) - 1 = ((tC T - 1 : Nat) : Int) from by omega, f_at, bd_some, atF_in (show tC T - 1 < lenN 8 from (show tC T - 1 < 8 by omega)) (by decide), show gA σ 8 (tC T - 1) = iI (tLe T (tC T - 1)) from hC.2.2.2.2.1 (tC T - 1) (by omega), qa1]
    rfl
theorem both_clause {n : Nat} {σ0 τ0 : St} {i : Nat} {v : Int32 × St} {x : Int32 × Int32 × St} (hi : i ≤ 60) (hg : LpG n σ0 τ0 i v x) :
    (i < 60 ∧ ∃ v2 x2, x_X3_read_L43 v.1 v.2 = some (true, v2) ∧ x_X10_shop_L46 x.1 x.2.1 x.2.2 = some (true, x2) ∧ LpG n σ0 τ0 (i + 1) v2 x2) ∨ (∃ v2 x2, (∀ N, lp (fun v : (Int32 × St) => x_X3_read_L43 v.1 v.2) (N + 2) v = some v2) ∧ (∀ N, lp (fun v : (Int32 × Int32 × St) => x_X10_shop_L46 v.1 v.2.1 v.2.2) (N + 2) x = some x2) ∧ LpK n σ0 τ0 v2 x2) := by
  obtain ⟨σ, τ, ot, T, L, D, b, rfl, rfl, hmd, hd, hbn, h13, rb, h16, hfl, hic, fL, fT⟩ := hg
  obtain ⟨hc, a1, a', b0, ha1, ha', h13', h3, h15, h4, h11, r1, r2⟩ := hmd.mt
  have hn := hc.1
  have eab : (a1 : Int) = b := by
    have q := h13'.symm.trans h13
    rw [iI_eqD (by omega) (by omega) (by omega) (by omega)] at q
    exact q
  obtain rfl : a1 = b := by omega
  obtain rfl : b0 = a1 := r1.uniq rb
  have hT := hd.1
  have t1 := hT.1
  have t6 := hT.2.2.2.2.2.1
  have hhere := m_here hn hc.2.2.1 h3 (r2.tape hc.2.2.2)
  have eL : x_X3_read_L43 (iI i) σ = if n ≤ b0 then some (false, (iI (i : Int), σ)) else bd (x_X3_readClause σ) fun σ11 => bd (x_X3_skipBlanks σ11) fun σ12 => some (true, (iI ((i + 1 : Nat) : Int), σ12)) := by
    unfold x_X3_read_L43
    rw [hc.2.1, h13]
    simp (disch := omega) only [qg60, iI_leD, qa1]
    rw [if_neg (by omega), if_pos h15]
    exact ifc (by omega)
  have gi3 : gI (sI τ 3 (iI b0)) 3 = iI b0 := gI_sI _ _ _
  have gi2 : gI (sI τ 3 (iI b0)) 2 = iI n := by rw [gI_sIn _ (by omega)]; exact hc.2.2.1
  have eM : x_X10_shop_L46 (iI i) ot τ = if n ≤ b0 then some (false, (iI (i : Int), ot, sI τ 3 (iI b0))) else bd2 (x_X10_word (sI τ 3 (iI b0))) fun v83 σ84 => bd (x_X10_of 0) fun v85 => if v83 = v85 then x_X10_shop_b46_81 (iI i) ot v83 1 σ84 else x_X10_shop_b46_81 (iI i) ot v83 0 σ84 := by
    unfold x_X10_shop_L46 x_X10_isMore
    rw [hmd.fine1, bd_some, if_neg (by decide), hhere, bd2_some, gi2, gi3]
    simp (disch := omega) only [iI_leD]
    by_cases q : n ≤ b0
    · rw [if_pos (by omega), if_pos q, bd2_some, if_pos rfl]
    · rw [if_neg (by omega), if_neg q, bd2_some, if_neg (by decide)]
  by_cases hend : n ≤ b0
  · right
    rw [if_pos hend] at eL eM
    refine ⟨(iI i, σ), (iI i, ot, sI τ 3 (iI b0)), fun N => lp_f (N := N + 1) eL, fun N => lp_f (N := N + 1) eM, true, Md.good (hc.fr FrN.rfl (FrO.sI (by omega))) hbn hbn h13 gi3 ⟨h15, ?_, h11⟩ rb rb, fL, fT.trans (FrT.sI (by omega)), fun _ => ⟨T, L, D, hd.eq (fun _ _ _ => rfl) (fun _ _ _ => rfl) (fun k _ _ => gI_sIn _ (by omega) _) (fun _ _ _ => rfl)⟩⟩
    show gI (sI τ 3 (iI b0)) 4 = -1
    rw [gI_sIn _ (by omega)]; exact h4
  · rw [if_neg hend] at eL eM
    obtain ⟨e, re⟩ := run_ex (Lt (gA σ 0)) hbn
    obtain ⟨hbe, hen, re3, re4⟩ := re
    have reM : Run (Lt (gA τ 1)) n b0 e := ⟨hbe, hen, fun k k1 k2 => by
      have q := re3 k k1 k2
      have w := hc.2.2.2 k (by omega)
      unfold Lt at q ⊢
      rw [← w]; exact q, fun q w => re4 q (by
      have w2 := hc.2.2.2 e q
      unfold Lt at w ⊢
      rw [w2]; exact w)⟩
    obtain ⟨z, hz, ew⟩ := c_readWord hn hc.2.1 h13 ⟨hbe, hen, re3, re4⟩
    have emw := m_word (τ := sI τ 3 (iI b0)) hn gi2 gi3 ((rb.tape hc.2.2.2)) reM
    rw [sI_sI] at emw
    have a1' : gA (sI τ 3 (iI b0)) 1 = gA τ 1 := rfl
    rw [a1'] at emw
    have hw : ∀ k : Nat, k < 9 → (wordV (gA τ 1) b0 (e - b0) = WO k ↔ z = k) := fun k hk => by
      rw [word_iff reM hk, ← Wd.tape hen hbe hc.2.2.2]
      rcases hz with ⟨rfl, q⟩ | ⟨j, hj, rfl, q⟩
      · constructor
        · intro w; exact absurd w (q k hk)
        · intro w; omega
      · constructor
        · intro w
          by_cases ejk : j = k
          · rw [ejk]
          · exfalso
            have u1 := (word_iff reM hk).mpr ((Wd.tape hen hbe hc.2.2.2).mp w)
            have u2 := (word_iff reM hj).mpr ((Wd.tape hen hbe hc.2.2.2).mp q)
            exact of_ne hj hk ejk (u2.symm.trans u1)
        · intro w
          have : j = k := by omega
          rw [← this]; exact q
    have hzr : -1 ≤ z ∧ z ≤ 8 := by
      rcases hz with ⟨rfl, _⟩ | ⟨j, hj, rfl, _⟩ <;> omega
    generalize wordV (gA τ 1) b0 (e - b0) = w at *
    have g4 : gI (sI τ 3 (iI b0)) 4 = -1 := by rw [gI_sIn _ (by omega)]; exact h4
    have e81 : x_X10_shop_L46 (iI i) ot τ = x_X10_shop_b46_81 (iI i) ot w (if z = 0 then 1 else 0) (sI τ 3 (iI b0)) := by
      rw [eM, emw, bd2_some, m_of (i := 0) (by decide), bd_some]
      by_cases c : z = 0
      · rw [if_pos ((hw 0 (by decide)).mpr c), if_pos c]
      · rw [if_neg (fun q => c ((hw 0 (by decide)).mp q)), if_neg c]
    have hC5 : TdC 1 (sI σ 13 (iI e)) T := hd.2.1.eq (fun k _ _ => gI_sIn _ (by omega) _) (fun _ _ _ => rfl)
    have hM5 : TdM 1 (sI τ 3 (iI b0)) T := hd.2.2.1.eq (fun k _ _ => gI_sIn _ (by omega) _) (fun _ _ _ => rfl)
    have e16 : gI (sI σ 13 (iI e)) 16 = iI i := by rw [gI_sIn _ (by omega)]; exact h16
    have e17 : gI (sI σ 13 (iI e)) 17 = gI σ 17 := gI_sIn _ (by omega) _
    have e15 : gI (sI σ 13 (iI e)) 15 = 0 := by rw [gI_sIn _ (by omega)]; exact h15
    have e11 : gI (sI σ 13 (iI e)) 11 = -1 := by rw [gI_sIn _ (by omega)]; exact h11
    have hcE := hc.fr (FrN.sI (σ := σ) (k := 13) (v := iI e) (by omega)) (FrO.sI (σ := τ) (k := 3) (v := iI b0) (by omega))
    have hbf := both_fault (σ := sI σ 13 (iI e)) (τ := sI τ 3 (iI b0)) (w := w) (ot := ot) (z := z) (i := i) hT hC5 hM5 hi e16 (by rw [e17]; rcases hfl with q | q; exact Or.inl ⟨q.1, q.2.1⟩; exact Or.inr q) hic hzr hw g4
    rcases hbf with ⟨kd, kd0, q1, q2⟩ | ⟨q1, q2, z0, i60, hz0, hz1, hS, hL⟩
    · -- the word can't stand here
      right
      have hbad : Md n false (sI (sI (sI σ 13 (iI e)) 15 kd) 11 (iI b0)) (sI (sI (sI τ 3 (iI b0)) 4 (iI b0)) 5 kd) := Md.tell hcE hen hbn (gI_sI _ _ _) gi3 kd0 (iI_nm1 (by omega))
      obtain ⟨b2, s1, s2, s3, s4⟩ := hbad.skipC
      have ev : x_X3_read_L43 (iI i) σ = some (true, (iI ((i + 1 : Nat) : Int), sI (sI (sI (sI σ 13 (iI e)) 15 kd) 11 (iI b0)) 13 (iI b2))) := by
        rw [eL]
        unfold x_X3_readClause
        rw [ew, bd2_some, q1, bd_some, if_neg kd0, h13, c_blame1 e15, bd_some, bd_some, s1, bd_some]
      have ex : x_X10_shop_L46 (iI i) ot τ = some (false, (iI (i : Int), ot, sI (sI (sI τ 3 (iI b0)) 4 (iI b0)) 5 kd)) := by
        rw [e81, q2, gi3]
        exact shop200_bad hbad
      refine ⟨(iI ((i + 1 : Nat) : Int), sI (sI (sI (sI σ 13 (iI e)) 15 kd) 11 (iI b0)) 13 (iI b2)), (iI (i : Int), ot, sI (sI (sI τ 3 (iI b0)) 4 (iI b0)) 5 kd), fun N => (lp_t (N := N + 1) ev).trans (lp_f ?_), fun N => lp_f (N := N + 1) ex, false, s2, fL.trans ((FrL.sI (by omega)).trans ((FrL.sI (by omega)).trans ((FrL.sI (by omega)).trans (FrL.sI (by omega))))), fT.trans ((FrT.sI (by omega)).trans ((FrT.sI (by omega)).trans (FrT.sI (by omega)))), fun q => absurd q (by decide)⟩
      show x_X3_read_L43 (iI ((i + 1 : Nat) : Int)) _ = _
      unfold x_X3_read_L43
      simp (disch := omega) only [qg60]
      rw [if_neg s2.fault]
      exact ite_self _
    · -- it can
      have epass := m_pass (τ := sI τ 3 (iI b0)) hn gi2 gi3 reM
      rw [sI_sI] at epass
      have hcE2 := hc.fr (FrN.sI (σ := σ) (k := 13) (v := iI e) (by omega)) (FrO.sI (σ := τ) (k := 3) (v := iI e) (by omega))
      obtain ⟨b2, rb2⟩ := run_ex (fun k => gA (sI σ 13 (iI e)) 0 k = 32) hen
      have g4e : gI (sI τ 3 (iI e)) 4 = -1 := by rw [gI_sIn _ (by omega)]; exact h4
      have hmE : Md n true (sI σ 13 (iI e)) (sI τ 3 (iI e)) := Md.good hcE2 hen hen (gI_sI _ _ _) (gI_sI _ _ _) ⟨e15, g4e, e11⟩ rb2 rb2
      have hdE : DrR T L D (sI σ 13 (iI e)) (sI τ 3 (iI e)) := hd.eq (fun k _ _ => gI_sIn _ (by omega) _) (fun _ _ _ => rfl) (fun k _ _ => gI_sIn _ (by omega) _) (fun _ _ _ => rfl)
      have hfine : x_X10_fine (sI τ 3 (iI b0)) = some 1 := m_fine1 g4
      by_cases c : z = 0
      · -- a crate
        subst c
        obtain ⟨hc8, hot⟩ := hz0 rfl
        obtain ⟨hS0, hL0⟩ : tS T = 0 ∧ tL T = 0 := by
          rcases hfl with q | q
          · exact q.2.2
          · exact absurd (hot.symm.trans q.1) (by decide)
        have h17 : gI σ 17 = 1 := by
          rcases hfl with q | q
          · exact q.2.1
          · exact absurd (hot.symm.trans q.1) (by decide)
        have f7 : ∀ k, k ≠ 16 → gI (sI (sI σ 13 (iI e)) 16 (iI ((i + 1 : Nat) : Int))) k = gI (sI σ 13 (iI e)) k := fun k hk => gI_sIn _ hk _
        have hm7 : Md n true (sI (sI σ 13 (iI e)) 16 (iI ((i + 1 : Nat) : Int))) (sI τ 3 (iI e)) := hmE.eq (fun k hk => f7 k (by omega)) rfl (fun _ _ _ => rfl) rfl
        have hd7 : DrR T L D (sI (sI σ 13 (iI e)) 16 (iI ((i + 1 : Nat) : Int))) (sI τ 3 (iI e)) := hdE.eq (fun k _ _ => f7 k (by omega)) (fun _ _ _ => rfl) (fun _ _ _ => rfl) (fun _ _ _ => rfl)
        have hlo : 0 ≤ (if tC T = 0 then 0 else tLe T (tC T - 1) + 1) ∧ (if tC T = 0 then 0 else tLe T (tC T - 1) + 1) ≤ 100 := by
          split
          · omega
          · have := t6 (tC T - 1) (by omega); omega
        have hcl := both_crate hm7 hd7 hc8 hS0 hL0 (if tC T = 0 then 0 else tLe T (tC T - 1) + 1) (if tC T = 0 then 0 else 25) hlo (by split <;> simp)
        refine both_after i60 hcl (fL.trans ((FrL.sI (by omega)).trans (FrL.sI (by omega)))) (fT.trans (FrT.sI (by omega))) (fun σ2 hX => ?_) (fun τ1 τ2 hY hs => ?_) (gI_sI _ _ _) (fun T2 hp => Or.inl ⟨hot, ?_, hp.2.1, hp.2.2⟩) (fun T2 hp => hp.1)
        · show x_X3_read_L43 (iI i) σ = _
          rw [eL]
          unfold x_X3_readClause x_X3_readClause_b46
          rw [ew, bd2_some, q1, bd_some, if_pos rfl, e16, qa1, bd_some, if_pos (show iI 0 = 0 from rfl)]
          have er : x_X3_readNumbers 0 (sI (sI σ 13 (iI e)) 16 (iI ((i + 1 : Nat) : Int))) = some σ2 := by
            unfold x_X3_readNumbers
            rw [if_pos rfl, bd_id, readCrate_eq hT hd7.2.1, hX]
          rw [show x_X3_readNumbers (iI 0) (sI (sI σ 13 (iI e)) 16 (iI ((i : Int) + 1))) = some σ2 from er, bd_some, bd_some]
        · show x_X10_shop_L46 (iI i) ot τ = _
          rw [e81, q2, if_pos rfl]
          unfold x200 x_X10_shop_b46_200
          rw [hfine, bd_some, if_neg (by decide), epass, bd_some, if_neg (by decide)]
          have e12 : gI (sI τ 3 (iI e)) 12 = iI (tC T) := hdE.2.2.1.1
          have e9 : tC T ≠ 0 → ldI (gA (sI τ 3 (iI e)) 9) (lenM 9) (gI (sI τ 3 (iI e)) 12 - 1) = some (iI (tLe T (tC T - 1))) := fun q => by
            rw [e12, qs1, show (tC T : Int) - 1 = ((tC T - 1 : Nat) : Int) from by omega, ldI_in (show tC T - 1 < lenM 9 from (show tC T - 1 < 8 by omega)) (by decide), show gA (sI τ 3 (iI e)) 9 (tC T - 1) = iI (tLe T (tC T - 1)) from hdE.2.2.1.2.2.2.2.1 (tC T - 1) (by omega)]
          have e284 : x_X10_shop_b46_284 (iI i) ot τ1 = some (true, (iI ((i + 1 : Nat) : Int), ot, τ2)) := by
            unfold x_X10_shop_b46_284
            rw [hs, bd_some, qa1]
            rfl
          have e262 : ∀ v s, x_X10_shop_b46_262 (iI i) ot (gI (sI τ 3 (iI e)) 12) v s = bd (stI s 9 (lenM 9) (gI (sI τ 3 (iI e)) 12) v) fun σ24 => bd (some (sI σ24 12 ((gI σ24 12) + 1))) fun σ25 => x_X10_shop_b46_284 (iI i) ot σ25 := fun v s => rfl
          have e0 : (gI (sI τ 3 (iI e)) 12 = 0) = ((tC T : Int) = 0) := by
            rw [e12, qe0 (by omega) (by omega)]
          simp only [e0, e262]
          by_cases c0 : tC T = 0
          · rw [if_pos c0, if_pos c0] at hY
            rw [if_pos (by omega), show (0 : Int32) = iI 0 from rfl, bd3_into hY, e284]
          · rw [if_neg c0, if_neg c0] at hY
            rw [if_neg (by omega), e9 c0, bd_some, qa1, show (25 : Int32) = iI 25 from rfl, bd3_into hY, e284]
        · rw [f7 17 (by omega), e17]; exact h17
      · -- another
        obtain ⟨k, rfl⟩ := Int.eq_ofNat_of_zero_le z0
        have f8 : ∀ j, j ≠ 16 → j ≠ 17 → gI (sI (sI (sI σ 13 (iI e)) 16 (iI ((i + 1 : Nat) : Int))) 17 0) j = gI (sI σ 13 (iI e)) j := fun j h1 h2 => (gI_sIn _ h2 _).trans (gI_sIn _ h1 _)
        have hm7 : Md n true (sI (sI (sI σ 13 (iI e)) 16 (iI ((i + 1 : Nat) : Int))) 17 0) (sI τ 3 (iI e)) := hmE.eq (fun k hk => f8 k (by omega) (by omega)) rfl (fun _ _ _ => rfl) rfl
        have hd7 : DrR T L D (sI (sI (sI σ 13 (iI e)) 16 (iI ((i + 1 : Nat) : Int))) 17 0) (sI τ 3 (iI e)) := hdE.eq (fun k _ _ => f8 k (by omega) (by omega)) (fun _ _ _ => rfl) (fun _ _ _ => rfl) (fun _ _ _ => rfl)
        have hcl := both_other (k := k) hm7 hd7 (hz1 (by omega)) (by omega) (fun q => hS (by omega)) (fun q => hL (by omega))
        refine both_after (ot := 1) i60 hcl (fL.trans ((FrL.sI (by omega)).trans ((FrL.sI (by omega)).trans (FrL.sI (by omega))))) (fT.trans (FrT.sI (by omega))) (fun σ2 hX => ?_) (fun τ1 τ2 hY hs => ?_) ?_ (fun T2 hp => Or.inr ⟨rfl, gI_sI _ _ _⟩) (fun T2 hp => hp)
        · show x_X3_read_L43 (iI i) σ = _
          rw [eL]
          unfold x_X3_readClause x_X3_readClause_b46
          rw [ew, bd2_some, q1, bd_some, if_pos rfl, e16, qa1, bd_some, if_neg (show ¬ iI (k : Int) = 0 by rw [qe0 (by omega) (by omega)]; exact c), bd_some]
          rw [show x_X3_readNumbers (iI (k : Int)) (sI (sI (sI σ 13 (iI e)) 16 (iI ((i : Int) + 1))) 17 0) = some σ2 from hX, bd_some, bd_some]
        · show x_X10_shop_L46 (iI i) ot τ = _
          have hwk : w = WO k := (hw k (by omega)).mpr rfl
          rw [e81, q2, if_neg c]
          unfold x200 x_X10_shop_b46_200
          rw [hfine, bd_some, if_neg (by decide), epass, bd_some, if_pos rfl, hwk, hY, bd_some]
          unfold x_X10_shop_b46_284
          rw [hs, bd_some, qa1]
          rfl
        · rw [gI_sIn _ (by omega), gI_sI]
