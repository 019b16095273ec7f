/-! a day: one second, on both sides -/
theorem Idl.eq {σ σ2 : St} {pos : Nat → Int} {u : Int32} {k : Nat} (h : Idl σ pos u k) (e : gA σ2 41 = gA σ 41) : Idl σ2 pos u k := by
  unfold Idl at h ⊢
  rw [e]; exact h
theorem Wt.eq {σ σ2 : St} {T : Td} {lf : Nat → Bool} {pos : Nat → Int} {u : Int32} {k : Nat} (h : Wt σ T lf pos u k) (e : gA σ2 41 = gA σ 41) : Wt σ2 T lf pos u k := by
  unfold Wt at h ⊢
  rw [e]; exact h
theorem both_second {σ τ : St} {T : Td} {s : Sk} {lf : Nat → Bool} {pos : Nat → Int} {un : Nat} (hT : TdOk T) (h : DayR σ τ T s lf pos) (hu : un < 3600) (h23 : gI σ 23 = 0) :
    ∃ (σ2 τ2 : St) (s2 : Sk) (pos2 : Nat → Int), lp (fun v : (Int32 × St) => x_X1_go_L45 (iI un) v.1 v.2) FU (0, σ) = some (iI (tL T), σ2) ∧ lp (fun v : (Int32 × St) => x_X10_goes_L101 (iI un) v.1 v.2) FU (0, τ) = some (iI (tL T), τ2) ∧ DayR σ2 τ2 T s2 lf pos2 ∧ FrD σ σ2 ∧ FrE τ τ2 ∧ (gI τ 19 = 1 → s2 = s) ∧ (∀ k, k < tL T → gA τ2 24 k = gA τ 24 k ∨ gA τ2 24 k = gA τ 24 k + 1) ∧ (gI σ2 23 = 1 ∨ (gI σ2 23 = 0 ∧ ∀ k, k < tL T → Idl σ2 pos2 (iI un) k ∨ Wt σ2 T lf pos2 (iI un) k)) := by
  have hL6 := hT.2.2.1
  have key := lp2_inv (f := fun v : (Int32 × St) => x_X1_go_L45 (iI un) v.1 v.2) (g := fun v : (Int32 × St) => x_X10_goes_L101 (iI un) v.1 v.2)
    (fun i v x => ∃ σi τi si pi, v = (iI (i : Nat), σi) ∧ x = (iI (i : Nat), τi) ∧ DayR σi τi T si lf pi ∧ FrD σ σi ∧ FrE τ τi ∧ (gI τ 19 = 1 → si = s) ∧ (∀ k, (k < i → gA τi 24 k = gA τ 24 k ∨ gA τi 24 k = gA τ 24 k + 1) ∧ (i ≤ k → gA τi 24 k = gA τ 24 k)) ∧ (gI σi 23 = 1 ∨ (gI σi 23 = 0 ∧ ∀ k, k < i → Idl σi pi (iI un) k ∨ Wt σi T lf pi (iI un) k)))
    (fun v x => ∃ σi τi si pi, v = (iI (tL T), σi) ∧ x = (iI (tL T), τi) ∧ DayR σi τi T si lf pi ∧ FrD σ σi ∧ FrE τ τi ∧ (gI τ 19 = 1 → si = s) ∧ (∀ k, (k < tL T → gA τi 24 k = gA τ 24 k ∨ gA τi 24 k = gA τ 24 k + 1) ∧ (tL T ≤ k → gA τi 24 k = gA τ 24 k)) ∧ (gI σi 23 = 1 ∨ (gI σi 23 = 0 ∧ ∀ k, k < tL T → Idl σi pi (iI un) k ∨ Wt σi T lf pi (iI un) k))) (tL T) FU FU (by unfold FU; omega) (by unfold FU; omega) (fun i v x hi hg => ?_) (fun v x hg => ?_) (0, σ) (0, τ) ⟨σ, τ, s, pos, rfl, rfl, h, FrD.rfl, FrE.rfl, fun _ => rfl, fun k => ⟨fun hk => absurd hk (by omega), fun _ => rfl⟩, Or.inr ⟨h23, fun k hk => absurd hk (by omega)⟩⟩
  · obtain ⟨v2, x2, e1, e2, σi, τi, si, pi, rfl, rfl, r1, r2, r3, r4, r5, r6⟩ := key
    exact ⟨σi, τi, si, pi, e1, e2, r1, r2, r3, r4, fun k hk => (r5 k).1 hk, r6⟩
  · obtain ⟨σi, τi, si, pi, rfl, rfl, hd, fc, fm, b19, b24, hq⟩ := hg
    obtain ⟨σ2, τ2, s2, pos2, e1, e2, hd2, fd, fe, hs19, hw24, hq2⟩ := both_turn hT hd hi hu
    refine ⟨(iI ((i + 1 : Nat) : Int), σ2), (iI ((i + 1 : Nat) : Int), τ2), ?_, ?_, σ2, τ2, s2, pos2, rfl, rfl, hd2, fc.trans fd, fm.trans fe, fun q => (hs19 ((fm.1 19 (by omega)).trans q)).trans (b19 q), fun k => ?_, ?_⟩
    · show x_X1_go_L45 _ (iI (i : Int)) σi = _
      unfold x_X1_go_L45
      rw [show gI σi 2 = iI (tL T) from hd.1.1.2.2.1]
      simp (disch := omega) only [iI_leD]
      rw [if_neg (by omega), e1, bd_some, qa1]
      rfl
    · show x_X10_goes_L101 _ (iI (i : Int)) τi = _
      unfold x_X10_goes_L101
      rw [show gI τi 10 = iI (tL T) from hd.1.2.1.2.2.1]
      simp (disch := omega) only [iI_leD]
      rw [if_neg (by omega), e2, bd_some, qa1]
      rfl
    · obtain ⟨c1, c2⟩ := b24 k
      rcases hw24 with w | w
      · rw [w]
        exact ⟨fun hk => by
          by_cases z : k < i
          · exact c1 z
          · exact Or.inl (c2 (by omega)), fun hk => c2 (by omega)⟩
      · rw [w]
        unfold upd
        by_cases z : k = i
        · subst z
          rw [if_pos rfl, c2 (Nat.le_refl _)]
          exact ⟨fun _ => Or.inr rfl, fun hk => absurd hk (by omega)⟩
        · rw [if_neg z]
          exact ⟨fun hk => c1 (by omega), fun hk => c2 (by omega)⟩
    · rcases hq2 with m | ⟨m1, rfl, rfl, m2⟩
      · exact Or.inl m
      · rcases hq with a | ⟨a1, a2⟩
        · exact Or.inl (m1.trans a)
        · have e41 : gA σ2 41 = gA σi 41 := by
            rcases m2 with ⟨-, rfl, -⟩ | ⟨-, rfl, -⟩
            · rfl
            · exact gA_sAn _ (by omega) _
          refine Or.inr ⟨m1.trans a1, fun k hk => ?_⟩
          by_cases z : k < i
          · rcases a2 k z with b | b
            · exact Or.inl (b.eq e41)
            · exact Or.inr (b.eq e41)
          · obtain rfl : k = i := by omega
            rcases m2 with ⟨b, -, -⟩ | ⟨b, -, -⟩
            · exact Or.inl (b.eq e41)
            · exact Or.inr (b.eq e41)
  · obtain ⟨σi, τi, si, pi, rfl, rfl, hd, r⟩ := hg
    refine ⟨(iI (tL T), σi), (iI (tL T), τi), ?_, ?_, σi, τi, si, pi, rfl, rfl, hd, r⟩
    · show x_X1_go_L45 _ _ _ = _
      unfold x_X1_go_L45
      rw [show gI σi 2 = iI (tL T) from hd.1.1.2.2.1, if_pos (Int32.le_refl _)]
    · show x_X10_goes_L101 _ _ _ = _
      unfold x_X10_goes_L101
      rw [show gI τi 10 = iI (tL T) from hd.1.2.1.2.2.1, if_pos (Int32.le_refl _)]
/-- all are idle or wait -/
def AllQ (σ : St) (T : Td) (lf : Nat → Bool) (pos : Nat → Int) (u : Int32) : Prop := ∀ k, k < tL T → Idl σ pos u k ∨ Wt σ T lf pos u k
def SameU (σ : St) (T : Td) (pos : Nat → Int) (u v : Int32) : Prop := ∀ k, k < tL T → pos k ≠ -2 → (gA σ 41 k ≤ v ↔ gA σ 41 k ≤ u)
theorem AllQ.same {σ : St} {T : Td} {lf : Nat → Bool} {pos : Nat → Int} {u v : Int32} (h : AllQ σ T lf pos u) (e : SameU σ T pos u v) : AllQ σ T lf pos v := by
  intro k hk
  rcases h k hk with (a | ⟨a, b⟩) | ⟨a, b, c, w, h1, h2, h3, h4, h5, h6⟩
  · exact Or.inl (Or.inl a)
  · exact Or.inl (Or.inr ⟨a, Int32.not_le.mp (fun q => Int32.not_le.mpr b ((e k hk a).mp q))⟩)
  · refine Or.inr ⟨a, (e k hk a).mpr b, c, w, h1, h2, h3, h4, h5, ?_⟩
    rcases h6 with h6 | h6
    · exact Or.inl (Int32.not_le.mp (fun q => Int32.not_le.mpr h6 ((e w h3 (by omega)).mp q)))
    · exact Or.inr h6
/-- what was waited, with 'v' more for the first 'i' of those who wait -/
def wF (σ : St) (pos : Nat → Int) (u : Int32) (n i : Nat) (v : Int32) : Nat → Int32 := fun k => if k < n ∧ pos k ≠ -2 ∧ gA σ 41 k ≤ u then gA σ 38 k + (if k < i then v + 1 else v) else gA σ 38 k
theorem m_still {σ τ : St} {T : Td} {s : Sk} {lf : Nat → Bool} {pos : Nat → Int} {u v : Int32} {u2 : Nat} (hT : TdOk T) (h : DayR (sA σ 38 (wF σ pos u (tL T) 0 v)) τ T s lf pos) (hq : AllQ σ T lf pos u) (he : SameU σ T pos u (iI u2)) :
    ∃ τ2, lp (fun v : (Int32 × St) => x_X10_goes_L101 (iI u2) v.1 v.2) FU (0, τ) = some (iI (tL T), τ2) ∧ DayR (sA σ 38 (wF σ pos u (tL T) 0 (v + 1))) τ2 T s lf pos ∧ FrE τ τ2 := by
  have hL6 := hT.2.2.1
  have hq2 := hq.same he
  have key := lp_inv (f := fun v : (Int32 × St) => x_X10_goes_L101 (iI u2) v.1 v.2)
    (fun i x => ∃ τi, x = (iI (i : Nat), τi) ∧ DayR (sA σ 38 (wF σ pos u (tL T) i v)) τi T s lf pos ∧ FrE τ τi)
    (fun x => ∃ τi, x = (iI (tL T), τi) ∧ DayR (sA σ 38 (wF σ pos u (tL T) (tL T) v)) τi T s lf pos ∧ FrE τ τi) (tL T) FU (by unfold FU; omega) (fun i x hi hg => ?_) (fun x hg => ?_) (0, τ) ⟨τ, rfl, h, FrE.rfl⟩
  · obtain ⟨x2, e1, τi, rfl, hd, fe⟩ := key
    refine ⟨τi, e1, ?_, fe⟩
    have e2 : wF σ pos u (tL T) (tL T) v = wF σ pos u (tL T) 0 (v + 1) := by
      funext k
      unfold wF
      by_cases z : k < tL T ∧ pos k ≠ -2 ∧ gA σ 41 k ≤ u
      · rw [if_pos z, if_pos z, if_pos z.1, if_neg (by omega)]
      · rw [if_neg z, if_neg z]
    rw [← e2]; exact hd
  · obtain ⟨τi, rfl, hd, fe⟩ := hg
    have e41 : gA (sA σ 38 (wF σ pos u (tL T) i v)) 41 = gA σ 41 := gA_sAn _ (by omega) _
    rcases hq2 i hi with b | b
    · have e1 := m_idle hT hd hi (b.eq e41)
      refine ⟨(iI ((i + 1 : Nat) : Int), τi), ?_, τi, rfl, ?_, fe⟩
      · show x_X10_goes_L101 _ (iI (i : Int)) τi = _
        unfold x_X10_goes_L101
        rw [show gI τi 10 = iI (tL T) from hd.1.2.1.2.2.1]
        simp (disch := omega) only [iI_leD]
        rw [if_neg (by omega), e1, bd_some, qa1]
        rfl
      · have e2 : wF σ pos u (tL T) (i + 1) v = wF σ pos u (tL T) i v := by
          funext k
          unfold wF
          by_cases z : k < tL T ∧ pos k ≠ -2 ∧ gA σ 41 k ≤ u
          · rw [if_pos z, if_pos z]
            have hne : k ≠ i := by
              intro e
              subst e
              rcases b with b | ⟨b1, b2⟩
              · exact z.2.1 b
              · exact Int32.not_le.mpr b2 ((he k hi b1).mpr z.2.2)
            by_cases y : k < i
            · rw [if_pos y, if_pos (by omega)]
            · rw [if_neg y, if_neg (by omega)]
          · rw [if_neg z, if_neg z]
        rw [e2]; exact hd
    · have e1 := m_wait hT hd hi (b.eq e41)
      refine ⟨(iI ((i + 1 : Nat) : Int), sA τi 24 (upd (gA τi 24) i (gA τi 24 i + 1))), ?_, _, rfl, ?_, fe.trans (FrE.sA (by omega))⟩
      · show x_X10_goes_L101 _ (iI (i : Int)) τi = _
        unfold x_X10_goes_L101
        rw [show gI τi 10 = iI (tL T) from hd.1.2.1.2.2.1]
        simp (disch := omega) only [iI_leD]
        rw [if_neg (by omega), e1, bd_some, qa1]
        rfl
      · have hw := hd.wait hi 1
        have e2 : sA (sA σ 38 (wF σ pos u (tL T) i v)) 38 (upd (gA (sA σ 38 (wF σ pos u (tL T) i v)) 38) i (gA (sA σ 38 (wF σ pos u (tL T) i v)) 38 i + 1)) = sA σ 38 (wF σ pos u (tL T) (i + 1) v) := by
          rw [gA_sA, sA_sA]
          congr 1
          funext k
          unfold upd wF
          by_cases y : k = i
          · subst y
            have z : k < tL T ∧ pos k ≠ -2 ∧ gA σ 41 k ≤ u := ⟨hi, b.1, (he k hi b.1).mp b.2.1⟩
            rw [if_pos rfl, if_pos z, if_pos z, if_neg (by omega), if_pos (by omega), Int32.add_assoc]
          · rw [if_neg y]
            by_cases z : k < tL T ∧ pos k ≠ -2 ∧ gA σ 41 k ≤ u
            · rw [if_pos z, if_pos z]
              by_cases y2 : k < i
              · rw [if_pos y2, if_pos (by omega)]
              · rw [if_neg y2, if_neg (by omega)]
            · rw [if_neg z, if_neg z]
        rw [e2] at hw
        exact hw
  · obtain ⟨τi, rfl, hd, fe⟩ := hg
    refine ⟨(iI (tL T), τi), ?_, τi, rfl, hd, fe⟩
    show x_X10_goes_L101 _ _ _ = _
    unfold x_X10_goes_L101
    rw [show gI τi 10 = iI (tL T) from hd.1.2.1.2.2.1, if_pos (Int32.le_refl _)]
