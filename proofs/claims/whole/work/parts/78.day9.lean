/-! a day: all its hours -/
theorem iI_ti {u : Int} (h1 : -2147483648 ≤ u) (h2 : u < 2147483648) : (iI u).toInt = u := (iI_inj (ok_iI _) ⟨h1, h2⟩).mp (iI_toInt _)
theorem stays_zero {pos : Nat → Int} : ∀ n, stays pos n = 0 → ∀ k, k < n → pos k = -2 := by
  intro n
  induction n with
  | zero => intro _ k hk; omega
  | succ n ih =>
    intro h k hk
    have h : stays pos n + (if pos n = -2 then 0 else 1) = 0 := h
    by_cases e : pos n = -2
    · rw [if_pos e] at h
      by_cases z : k = n
      · rw [z]; exact e
      · exact ih (by omega) k (by omega)
    · rw [if_neg e] at h; omega
theorem DayR.flag {σ τ : St} {T : Td} {s : Sk} {lf : Nat → Bool} {pos : Nat → Int} (h : DayR σ τ T s lf pos) (v : Int32) : DayR (sI σ 23 v) τ T s lf pos := by
  refine ⟨h.1.eq (FrD.sI (by omega)) FrE.rfl (fun _ _ => rfl) (fun _ _ => rfl) (gI_sIn _ (by omega) _) rfl rfl ?_, h.2.1, h.2.2.1, ?_⟩
  · rw [gI_sIn _ (by omega)]; exact h.1.2.2.2.2.2.2.2.1
  · rw [gI_sIn _ (by omega)]; exact h.2.2.2
theorem both_hours {σ τ : St} {T : Td} {s : Sk} {lf : Nat → Bool} {pos : Nat → Int} (hT : TdOk T) (h : DayR σ τ T s lf pos) (h24 : ∀ k, k < tL T → gA τ 24 k = 0) :
    ∃ (σ2 τ2 : St) (s2 : Sk) (pos2 : Nat → Int) (z : Int32), lp (fun v : (Int32 × St) => x_X1_go_L22 v.1 v.2) FU (0, σ) = some (z, σ2) ∧ lp (fun v : (Int32 × St) => x_X10_goes_L92 v.1 v.2) FU (0, τ) = some (iI ((3600 : Nat) : Int), τ2) ∧ DayR σ2 τ2 T s2 lf pos2 ∧ FrD σ σ2 ∧ FrE τ τ2 ∧ (gI τ 19 = 1 → s2 = s) ∧ (∀ k, k < tL T → ∃ w : Nat, w ≤ 3600 ∧ gA τ2 24 k = iI w) := by
  have hL6 := hT.2.2.1
  have hFU : FU = 5000 := rfl
  have mend : ∀ τi : St, lp (fun v : (Int32 × St) => x_X10_goes_L92 v.1 v.2) (FU - 3600) (iI ((3600 : Nat) : Int), τi) = some (iI ((3600 : Nat) : Int), τi) := by
    intro τi
    rw [show FU - 3600 = 1399 + 1 from rfl]
    refine lp_f ?_
    show x_X10_goes_L92 (iI ((3600 : Nat) : Int)) τi = _
    unfold x_X10_goes_L92
    rw [if_pos (by decide)]
  have key := lp_meas (f := fun v : (Int32 × St) => x_X1_go_L22 v.1 v.2)
    (fun x => ∃ (u : Nat) (σi τi : St) (si : Sk) (pi : Nat → Int), x = (iI u, σi) ∧ u ≤ 3600 ∧ lp (fun v : (Int32 × St) => x_X10_goes_L92 v.1 v.2) FU (0, τ) = lp (fun v : (Int32 × St) => x_X10_goes_L92 v.1 v.2) (FU - u) (iI u, τi) ∧ DayR σi τi T si lf pi ∧ FrD σ σi ∧ FrE τ τi ∧ (gI τ 19 = 1 → si = s) ∧ (∀ k, k < tL T → ∃ w : Nat, w ≤ u ∧ gA τi 24 k = iI w))
    (fun x => (3600 - x.1.toInt).toNat)
    (fun x => ∃ (z : Int32) (σi τi : St) (si : Sk) (pi : Nat → Int), x = (z, σi) ∧ lp (fun v : (Int32 × St) => x_X10_goes_L92 v.1 v.2) FU (0, τ) = some (iI ((3600 : Nat) : Int), τi) ∧ DayR σi τi T si lf pi ∧ FrD σ σi ∧ FrE τ τi ∧ (gI τ 19 = 1 → si = s) ∧ (∀ k, k < tL T → ∃ w : Nat, w ≤ 3600 ∧ gA τi 24 k = iI w))
    (fun x hg => ?_) FU (0, σ) ⟨0, σ, τ, s, pos, rfl, by omega, rfl, h, FrD.rfl, FrE.rfl, fun _ => rfl, fun k hk => ⟨0, Nat.le_refl _, h24 k hk⟩⟩ (by show (3600 - (0 : Int32).toInt).toNat < FU; rw [hFU]; decide)
  · obtain ⟨x2, e1, z, σi, τi, si, pi, rfl, r1, r2, r3, r4, r5, r6⟩ := key
    exact ⟨σi, τi, si, pi, z, e1, r1, r2, r3, r4, r5, r6⟩
  · obtain ⟨u, σi, τi, si, pi, rfl, hu, hlp, hd, fc, fm, b19, b24⟩ := hg
    by_cases hu2 : u = 3600
    · subst hu2
      right
      refine ⟨(iI ((3600 : Nat) : Int), σi), ?_, iI ((3600 : Nat) : Int), σi, τi, si, pi, rfl, ?_, hd, fc, fm, b19, b24⟩
      · show x_X1_go_L22 (iI ((3600 : Nat) : Int)) σi = _
        unfold x_X1_go_L22
        rw [if_pos (by decide)]
      · rw [hlp, mend]
    · have hu3 : u < 3600 := by omega
      have hsl := stays_le pi (tL T)
      have ec : x_X1_go_L22 (iI u) σi = x_X1_go_L22 (iI u) σi := rfl
      conv at ec => rhs; unfold x_X1_go_L22
      rw [show gI σi 20 = iI (stays pi (tL T) : Nat) from hd.2.2.2] at ec
      simp (disch := omega) only [qM3600, qm0] at ec
      rw [if_neg (by omega)] at ec
      by_cases hst : ((stays pi (tL T) : Nat) : Int) ≤ 0
      · rw [if_pos hst] at ec
        have hall := stays_zero (pos := pi) (tL T) (by omega)
        have hw : ∀ v, wF σi pi (iI u) (tL T) 0 v = gA σi 38 := by
          intro v
          funext k
          unfold wF
          rw [if_neg (fun q => q.2.1 (hall k q.1))]
        obtain ⟨τ2, e1, e2, e3⟩ := m_stills (u := iI u) hT (σ := σi) (s := si) (lf := lf) (pos := pi) (fun k hk => Or.inl (Or.inl (hall k hk))) (3600 - u) u 0 τi (by omega) (by rw [hw, sA_gA]; exact hd) (fun j hj k hk hp => absurd (hall k hk) hp)
        right
        refine ⟨_, ec, iI u, σi, τ2, si, pi, rfl, ?_, ?_, fc, fm.trans e3, b19, fun k hk => ?_⟩
        · rw [hlp, e1, show u + (3600 - u) = 3600 from by omega, mend]
        · rw [hw, sA_gA] at e2; exact e2
        · obtain ⟨w, w1, w2⟩ := b24 k hk
          rw [hw, sA_gA] at e2
          exact ⟨w, by omega, by rw [← (e2.2.1 k hk).2.2.2.2.2.1, (hd.2.1 k hk).2.2.2.2.2.1, w2]⟩
      · rw [if_neg hst, bd_some] at ec
        obtain ⟨σ2, τ2, s2, pos2, e1, e2, hd2, fd, fe, hs19, hw24, hq⟩ := both_second (un := u) hT (hd.flag 0) hu3 (gI_sI _ _ _)
        have fd : FrD σi σ2 := (FrD.sI (by omega)).trans fd
        rw [e1, bd2_some] at ec
        have em : lp (fun v : (Int32 × St) => x_X10_goes_L92 v.1 v.2) (FU - u) (iI u, τi) = lp (fun v : (Int32 × St) => x_X10_goes_L92 v.1 v.2) (FU - (u + 1)) (iI ((u + 1 : Nat) : Int), τ2) := by
          rw [show FU - u = (FU - (u + 1)) + 1 from by omega]
          refine lp_t ?_
          show x_X10_goes_L92 (iI (u : Int)) τi = _
          unfold x_X10_goes_L92
          simp (disch := omega) only [qg3599]
          rw [if_neg (by omega), e2, bd2_some, qa1]
          rfl
        have c19 : gI τ 19 = 1 → s2 = s := fun q => (hs19 ((fm.1 19 (by omega)).trans q)).trans (b19 q)
        have c24 : ∀ k, k < tL T → ∃ w : Nat, w ≤ u + 1 ∧ gA τ2 24 k = iI w := fun k hk => by
          obtain ⟨w, w1, w2⟩ := b24 k hk
          rcases hw24 k hk with q | q
          · exact ⟨w, by omega, q.trans w2⟩
          · exact ⟨w + 1, by omega, by rw [q, w2, i1, iI_add]; rfl⟩
        rcases hq with hq | ⟨hq, hall⟩
        · rw [if_neg (by rw [hq]; decide), qa1] at ec
          left
          refine ⟨_, ec, ⟨u + 1, σ2, τ2, s2, pos2, rfl, by omega, ?_, hd2, fc.trans fd, fm.trans fe, c19, c24⟩, ?_⟩
          · rw [hlp, em]
          · show (3600 - (iI ((u : Int) + 1)).toInt).toNat < (3600 - (iI (u : Int)).toInt).toNat
            rw [iI_ti (by omega) (by omega), iI_ti (by omega) (by omega)]
            omega
        · rw [if_pos hq] at ec
          obtain ⟨m, m1, m2, m3, m4⟩ := c_nextDone (un := u) hT hd2 hu3
          obtain ⟨n, rfl⟩ := Int.eq_ofNat_of_zero_le (a := m) (by omega)
          have hmx : mxI (iI (u : Int) + 1) (iI (n : Int)) = iI (n : Int) := by
            unfold mxI
            rw [qa1]
            by_cases w : (u : Int) + 1 < n
            · rw [if_pos ((iI_lt ⟨by omega, by omega⟩ ⟨by omega, by omega⟩).mpr w)]
            · rw [if_neg (fun q => w ((iI_lt ⟨by omega, by omega⟩ ⟨by omega, by omega⟩).mp q)), show (u : Int) + 1 = n from by omega]
          rw [m3, bd_some, hmx, iI_sub, qs1, c_waitOn _ _ hT hd2, bd_some] at ec
          have h0 : DayR (sA σ2 38 (wF σ2 pos2 (iI u) (tL T) 0 0)) τ2 T s2 lf pos2 := by
            rw [wF_zero, sA_gA]; exact hd2
          obtain ⟨τ3, g1, g2, g3⟩ := m_stills (u := iI u) hT (σ := σ2) (s := s2) (lf := lf) (pos := pos2) hall (n - (u + 1)) (u + 1) 0 τ2 (by omega) h0 (fun j hj k hk hp => by
            constructor
            · intro q
              by_cases w : gA σ2 41 k ≤ iI u
              · exact w
              · exfalso
                have a1 := m4 k hk hp (Int32.not_le.mp w)
                have a2 := Int32.le_trans a1 q
                rw [iI_leD (by omega) (by omega) (by omega) (by omega)] at a2
                omega
            · intro q
              refine Int32.le_trans q ?_
              rw [iI_leD (by omega) (by omega) (by omega) (by omega)]
              omega)
          have hv : (0 : Int32) + iI ((n - (u + 1) : Nat) : Int) = iI ((n : Int) - u - 1) := by
            rw [Int32.zero_add]; congr 1; omega
          rw [hv] at g2
          left
          refine ⟨_, ec, ⟨n, _, τ3, s2, pos2, rfl, by omega, ?_, g2, (fc.trans fd).trans (FrD.sA (by omega)), (fm.trans fe).trans g3, c19, fun k hk => ?_⟩, ?_⟩
          · rw [hlp, em, g1, show u + 1 + (n - (u + 1)) = n from by omega]
          · obtain ⟨w, w1, w2⟩ := c24 k hk
            have k1 := (g2.2.1 k hk).2.2.2.2.2.1
            rw [gA_sA] at k1
            have k2 := (hd2.2.1 k hk).2.2.2.2.2.1
            rw [← k1]
            unfold wF
            by_cases q : k < tL T ∧ pos2 k ≠ -2 ∧ gA σ2 41 k ≤ iI u
            · rw [if_pos q, if_neg (by omega), k2, w2, iI_add]
              exact ⟨w + (n - (u + 1)), by omega, by congr 1; omega⟩
            · rw [if_neg q, k2, w2]
              exact ⟨w, by omega, rfl⟩
          · show (3600 - (iI (n : Int)).toInt).toNat < (3600 - (iI (u : Int)).toInt).toNat
            rw [iI_ti (by omega) (by omega), iI_ti (by omega) (by omega)]
            omega
