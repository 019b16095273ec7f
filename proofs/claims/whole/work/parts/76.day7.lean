/-! a day: one second, on both sides -/
theorem Idl.eq {σ σ2 : St} {pos : Nat → Int} {u : Int32} {k : Nat} (h : Idl σ pos u k) (e : gA σ2 41 = gA σ 41) : Idl σ2 pos u k := by
  unfold Idl at h ⊢
  rw [e]; exact h
theorem Wt.eq {σ σ2 : St} {T : Td} {lf : Nat → Bool} {pos : Nat → Int} {u : Int32} {k : Nat} (h : Wt σ T lf pos u k) (e : gA σ2 41 = gA σ 41) : Wt σ2 T lf pos u k := by
  unfold Wt at h ⊢
  rw [e]; exact h
theorem both_second {σ τ : St} {T : Td} {s : Sk} {lf : Nat → Bool} {pos : Nat → Int} {un : Nat} (hT : TdOk T) (h : DayR σ τ T s lf pos) (hu : un < 3600) (h23 : gI σ 23 = 0) :
    ∃ (σ2 τ2 : St) (s2 : Sk) (pos2 : Nat → Int), lp (fun v : (Int32 × St) => x_X1_go_L45 (iI un) v.1 v.2) FU (0, σ) = some (iI (tL T), σ2) ∧ lp (fun v : (Int32 × St) => x_X10_goes_L101 (iI un) v.1 v.2) FU (0, τ) = some (iI (tL T), τ2) ∧ DayR σ2 τ2 T s2 lf pos2 ∧ FrD σ σ2 ∧ FrE τ τ2 ∧ (gI σ2 23 = 1 ∨ (gI σ2 23 = 0 ∧ ∀ k, k < tL T → Idl σ2 pos2 (iI un) k ∨ Wt σ2 T lf pos2 (iI un) k)) := by
  have hL6 := hT.2.2.1
  have key := lp2_inv (f := fun v : (Int32 × St) => x_X1_go_L45 (iI un) v.1 v.2) (g := fun v : (Int32 × St) => x_X10_goes_L101 (iI un) v.1 v.2)
    (fun i v x => ∃ σi τi si pi, v = (iI (i : Nat), σi) ∧ x = (iI (i : Nat), τi) ∧ DayR σi τi T si lf pi ∧ FrD σ σi ∧ FrE τ τi ∧ (gI σi 23 = 1 ∨ (gI σi 23 = 0 ∧ ∀ k, k < i → Idl σi pi (iI un) k ∨ Wt σi T lf pi (iI un) k)))
    (fun v x => ∃ σi τi si pi, v = (iI (tL T), σi) ∧ x = (iI (tL T), τi) ∧ DayR σi τi T si lf pi ∧ FrD σ σi ∧ FrE τ τi ∧ (gI σi 23 = 1 ∨ (gI σi 23 = 0 ∧ ∀ k, k < tL T → Idl σi pi (iI un) k ∨ Wt σi T lf pi (iI un) k))) (tL T) FU FU (by unfold FU; omega) (by unfold FU; omega) (fun i v x hi hg => ?_) (fun v x hg => ?_) (0, σ) (0, τ) ⟨σ, τ, s, pos, rfl, rfl, h, FrD.rfl, FrE.rfl, Or.inr ⟨h23, fun k hk => absurd hk (by omega)⟩⟩
  · obtain ⟨v2, x2, e1, e2, σi, τi, si, pi, rfl, rfl, r⟩ := key
    exact ⟨σi, τi, si, pi, e1, e2, r⟩
  · obtain ⟨σi, τi, si, pi, rfl, rfl, hd, fc, fm, hq⟩ := hg
    obtain ⟨σ2, τ2, s2, pos2, e1, e2, hd2, fd, fe, hq2⟩ := both_turn hT hd hi hu
    refine ⟨(iI ((i + 1 : Nat) : Int), σ2), (iI ((i + 1 : Nat) : Int), τ2), ?_, ?_, σ2, τ2, s2, pos2, rfl, rfl, hd2, fc.trans fd, fm.trans fe, ?_⟩
    · show x_X1_go_L45 _ (iI (i : Int)) σi = _
      unfold x_X1_go_L45
      rw [show gI σi 2 = iI (tL T) from hd.1.1.2.2.1]
      simp (disch := omega) only [iI_leD]
      rw [if_neg (by omega), e1, bd_some, qa1]
      rfl
    · show x_X10_goes_L101 _ (iI (i : Int)) τi = _
      unfold x_X10_goes_L101
      rw [show gI τi 10 = iI (tL T) from hd.1.2.1.2.2.1]
      simp (disch := omega) only [iI_leD]
      rw [if_neg (by omega), e2, bd_some, qa1]
      rfl
    · rcases hq2 with m | ⟨m1, rfl, rfl, m2⟩
      · exact Or.inl m
      · rcases hq with a | ⟨a1, a2⟩
        · exact Or.inl (m1.trans a)
        · have e41 : gA σ2 41 = gA σi 41 := by
            rcases m2 with ⟨-, rfl, -⟩ | ⟨-, rfl, -⟩
            · rfl
            · exact gA_sAn _ (by omega) _
          refine Or.inr ⟨m1.trans a1, fun k hk => ?_⟩
          by_cases z : k < i
          · rcases a2 k z with b | b
            · exact Or.inl (b.eq e41)
            · exact Or.inr (b.eq e41)
          · obtain rfl : k = i := by omega
            rcases m2 with ⟨b, -, -⟩ | ⟨b, -, -⟩
            · exact Or.inl (b.eq e41)
            · exact Or.inr (b.eq e41)
  · obtain ⟨σi, τi, si, pi, rfl, rfl, hd, r⟩ := hg
    refine ⟨(iI (tL T), σi), (iI (tL T), τi), ?_, ?_, σi, τi, si, pi, rfl, rfl, hd, r⟩
    · show x_X1_go_L45 _ _ _ = _
      unfold x_X1_go_L45
      rw [show gI σi 2 = iI (tL T) from hd.1.1.2.2.1, if_pos (Int32.le_refl _)]
    · show x_X10_goes_L101 _ _ _ = _
      unfold x_X10_goes_L101
      rw [show gI τi 10 = iI (tL T) from hd.1.2.1.2.2.1, if_pos (Int32.le_refl _)]
