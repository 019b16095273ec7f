/-! a day: how it begins in the reference, and the whole day on both sides -/
theorem m_asTold {τ : St} {T : Td} (hT : TdOk T) (hM : TdM 0 τ T) : ∃ G, x_X10_asTold τ = some (sA τ 26 G) ∧ ∀ k, k < tL T → G k = if lfT T k then 1 else 0 := by
  have hL6 := hT.2.2.1
  have up : ∀ G, TdM 0 (sA τ 26 G) T := fun G => hM.eq (fun _ _ _ => rfl) (fun j _ _ => gA_sAn _ (by omega) _)
  have key := lp_inv (f := fun v : (Int32 × St) => x_X10_asTold_L2 v.1 v.2) (fun i x => ∃ G, x = (iI (i : Nat), sA τ 26 G) ∧ ∀ k, k < i → G k = if lfT T k then 1 else 0) (fun x => ∃ G, x = (iI (tL T), sA τ 26 G) ∧ ∀ k, k < tL T → G k = if lfT T k then 1 else 0) (tL T) FU (by unfold FU; omega) (fun i x hi hg => ?_) (fun x hg => ?_) (0, τ) ⟨gA τ 26, by rw [sA_gA]; rfl, fun k hk => absurd hk (by omega)⟩
  · obtain ⟨x2, e2, G, rfl, hG⟩ := key
    refine ⟨G, ?_, hG⟩
    unfold x_X10_asTold
    rw [e2]; rfl
  · obtain ⟨G, rfl, hG⟩ := hg
    have hlk := hT.2.2.2.2.2.2.2.1 i hi
    have l5 : ldI (gA (sA τ 26 G) 4) (lenM 4) (6 * iI (i : Int) + 5) = some (iI (tLk T i 5)) := by
      have := m_looker (w := 5) (up G) hT hi (by omega)
      rw [show ((6 * i + 5 : Nat) : Int) = 6 * (i : Int) + 5 from by omega] at this
      rw [qy6, qa5]; exact this
    refine ⟨(iI ((i + 1 : Nat) : Int), sA τ 26 (upd G i (iI (tLk T i 5)))), ?_, _, rfl, fun k hk => ?_⟩
    · show x_X10_asTold_L2 (iI (i : Int)) (sA τ 26 G) = _
      unfold x_X10_asTold_L2
      rw [show gI (sA τ 26 G) 10 = iI (tL T) from hM.2.2.1]
      simp (disch := omega) only [iI_leD]
      rw [if_neg (by omega), l5, bd_some, stI_in (show i < lenM 26 from (show i < 6 by omega)) (by decide), bd_some, qa1, gA_sA, sA_sA]
      rfl
    · unfold upd
      by_cases e : k = i
      · rw [if_pos e, e]
        unfold lfT
        by_cases z : tLk T i 5 = 1
        · rw [decide_eq_true z, if_pos rfl, z]; rfl
        · rw [decide_eq_false z, if_neg (by decide), show tLk T i 5 = 0 from by omega]; rfl
      · rw [if_neg e]; exact hG k (by omega)
  · obtain ⟨G, rfl, hG⟩ := hg
    refine ⟨(iI (tL T), sA τ 26 G), ?_, G, rfl, hG⟩
    show x_X10_asTold_L2 _ _ = _
    unfold x_X10_asTold_L2
    rw [show gI (sA τ 26 G) 10 = iI (tL T) from hM.2.2.1, if_pos (Int32.le_refl _)]
theorem m_begins {τ : St} {T : Td} (hT : TdOk T) (hM : TdM 0 τ T) : ∃ τ2, lp (fun v : (Int32 × St) => x_X10_goes_L17 v.1 v.2) FU (0, τ) = some (iI (tL T), τ2) ∧ (∀ k, gI τ2 k = gI τ k) ∧ (∀ j, ¬ (19 ≤ j ∧ j ≤ 25) → gA τ2 j = gA τ j) ∧ ∀ k, k < tL T → gA τ2 19 k = -1 ∧ gA τ2 20 k = 0 ∧ gA τ2 21 k = iI (tLk T k 4) ∧ gA τ2 22 k = 0 ∧ gA τ2 23 k = 0 ∧ gA τ2 24 k = 0 ∧ gA τ2 25 k = -1 := by
  have hL6 := hT.2.2.1
  have key := lp_inv (f := fun v : (Int32 × St) => x_X10_goes_L17 v.1 v.2) (fun i x => ∃ τ2, x = (iI (i : Nat), τ2) ∧ (∀ k, gI τ2 k = gI τ k) ∧ (∀ j, ¬ (19 ≤ j ∧ j ≤ 25) → gA τ2 j = gA τ j) ∧ ∀ k, k < i → gA τ2 19 k = -1 ∧ gA τ2 20 k = 0 ∧ gA τ2 21 k = iI (tLk T k 4) ∧ gA τ2 22 k = 0 ∧ gA τ2 23 k = 0 ∧ gA τ2 24 k = 0 ∧ gA τ2 25 k = -1) (fun x => ∃ τ2, x = (iI (tL T), τ2) ∧ (∀ k, gI τ2 k = gI τ k) ∧ (∀ j, ¬ (19 ≤ j ∧ j ≤ 25) → gA τ2 j = gA τ j) ∧ ∀ k, k < tL T → gA τ2 19 k = -1 ∧ gA τ2 20 k = 0 ∧ gA τ2 21 k = iI (tLk T k 4) ∧ gA τ2 22 k = 0 ∧ gA τ2 23 k = 0 ∧ gA τ2 24 k = 0 ∧ gA τ2 25 k = -1) (tL T) FU (by unfold FU; omega) (fun i x hi hg => ?_) (fun x hg => ?_) (0, τ) ⟨τ, rfl, fun _ => rfl, fun _ _ => rfl, fun k hk => absurd hk (by omega)⟩
  · obtain ⟨x2, e2, τ2, rfl, r⟩ := key
    exact ⟨τ2, e2, r⟩
  · obtain ⟨τ2, rfl, h1, h2, h3⟩ := hg
    have l4 : ∀ τ3 : St, gA τ3 4 = gA τ 4 → ldI (gA τ3 4) (lenM 4) (6 * iI (i : Int) + 4) = some (iI (tLk T i 4)) := by
      intro τ3 e
      have := m_looker (w := 4) hM hT hi (by omega)
      rw [show ((6 * i + 4 : Nat) : Int) = 6 * (i : Int) + 4 from by omega] at this
      rw [qy6, qa4, e]; exact this
    have i6 : i < 6 := by omega
    refine ⟨(iI ((i + 1 : Nat) : Int), sA (sA (sA (sA (sA (sA (sA τ2 19 (upd (gA τ2 19) i (-1))) 20 (upd (gA τ2 20) i 0)) 21 (upd (gA τ2 21) i (iI (tLk T i 4)))) 22 (upd (gA τ2 22) i 0)) 23 (upd (gA τ2 23) i 0)) 24 (upd (gA τ2 24) i 0)) 25 (upd (gA τ2 25) i (-1))), ?_, _, rfl, fun k => ?_, fun j hj => ?_, fun k hk => ?_⟩
    · show x_X10_goes_L17 (iI (i : Int)) τ2 = _
      unfold x_X10_goes_L17
      rw [h1, show gI τ 10 = iI (tL T) from hM.2.2.1]
      simp (disch := omega) only [iI_leD]
      rw [if_neg (by omega), stI_in (show i < lenM 19 from i6) (by decide), bd_some, stI_in (show i < lenM 20 from i6) (by decide), bd_some, l4 _ (by rw [gA_sAn _ (by omega), gA_sAn _ (by omega), h2 4 (by omega)]), bd_some, stI_in (show i < lenM 21 from i6) (by decide), bd_some, stI_in (show i < lenM 22 from i6) (by decide), bd_some, stI_in (show i < lenM 23 from i6) (by decide), bd_some, stI_in (show i < lenM 24 from i6) (by decide), bd_some, stI_in (show i < lenM 25 from i6) (by decide), bd_some, qa1]
      rfl
    · simp only [gI_sA]; exact h1 k
    · rw [gA_sAn _ (by omega), gA_sAn _ (by omega), gA_sAn _ (by omega), gA_sAn _ (by omega), gA_sAn _ (by omega), gA_sAn _ (by omega), gA_sAn _ (by omega)]; exact h2 j hj
    · rw [gA_sA, gA_sAn _ (show 24 ≠ 25 by omega), gA_sA, gA_sAn _ (show 23 ≠ 25 by omega), gA_sAn _ (show 23 ≠ 24 by omega), gA_sA, gA_sAn _ (show 22 ≠ 25 by omega), gA_sAn _ (show 22 ≠ 24 by omega), gA_sAn _ (show 22 ≠ 23 by omega), gA_sA, gA_sAn _ (show 21 ≠ 25 by omega), gA_sAn _ (show 21 ≠ 24 by omega), gA_sAn _ (show 21 ≠ 23 by omega), gA_sAn _ (show 21 ≠ 22 by omega), gA_sA, gA_sAn _ (show 20 ≠ 25 by omega), gA_sAn _ (show 20 ≠ 24 by omega), gA_sAn _ (show 20 ≠ 23 by omega), gA_sAn _ (show 20 ≠ 22 by omega), gA_sAn _ (show 20 ≠ 21 by omega), gA_sA, gA_sAn _ (show 19 ≠ 25 by omega), gA_sAn _ (show 19 ≠ 24 by omega), gA_sAn _ (show 19 ≠ 23 by omega), gA_sAn _ (show 19 ≠ 22 by omega), gA_sAn _ (show 19 ≠ 21 by omega), gA_sAn _ (show 19 ≠ 20 by omega), gA_sA]
      unfold upd
      by_cases e : k = i
      · subst e
        simp only [if_true]
        exact ⟨trivial, trivial, trivial, trivial, trivial, trivial, trivial⟩
      · simp only [if_neg e]; exact h3 k (by omega)
  · obtain ⟨τ2, rfl, h1, r⟩ := hg
    refine ⟨(iI (tL T), τ2), ?_, τ2, rfl, h1, r⟩
    show x_X10_goes_L17 _ _ = _
    unfold x_X10_goes_L17
    rw [h1, show gI τ 10 = iI (tL T) from hM.2.2.1, if_pos (Int32.le_refl _)]
