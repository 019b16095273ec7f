/-! a whole day, on both sides -/
theorem stays_all {pos : Nat → Int} (h : ∀ k, pos k = -3) : ∀ n, stays pos n = n := by
  intro n
  induction n with
  | zero => rfl
  | succ n ih =>
    show stays pos n + (if pos n = -2 then 0 else 1) = n + 1
    rw [ih, if_neg (by rw [h n]; omega)]
theorem both_go {σ τ : St} {T : Td} {s : Sk} {lf : Nat → Bool} (p1 b p3 : Int32) (hT : TdOk T) (hC : TdC 0 σ T) (hM : TdM 0 τ T) (hs : SkOk (tC T) (tS T) s) (hSC : SkC σ 0 s) (hSM : SkM τ (tS T) s) (hlf : ∀ k, k < tL T → x_X9_hasBit b (iI k) = some (if lf k then 1 else 0) ∧ gA τ 26 k = if lf k then 1 else 0) (hbl : (p3 = 0 ∧ gI τ 19 = 0) ∨ (p3 = 1 ∧ gI τ 19 = 1)) :
    ∃ (σ2 τ2 : St) (s2 : Sk) (pos2 : Nat → Int), x_X1_go p1 b p3 σ = some σ2 ∧ x_X10_goes p1 τ = some τ2 ∧ DayR σ2 τ2 T s2 lf pos2 ∧ FrD (sI (sI (sI σ 21 p1) 19 b) 22 p3) σ2 ∧ FrE τ τ2 ∧ (gI τ 19 = 1 → s2 = s) ∧ (∀ k, k < tL T → ∃ w : Nat, w ≤ 3600 ∧ gA τ2 24 k = iI w) := by
  have hL6 := hT.2.2.1
  have bz3 : bz p3 = some p3 := by
    unfold bz
    rcases hbl with ⟨rfl, -⟩ | ⟨rfl, -⟩ <;> rfl
  have hC4 : TdC 0 (sI (sI (sI σ 21 p1) 19 b) 22 p3) T := hC.eq (fun k _ _ => by rw [gI_sIn _ (by omega), gI_sIn _ (by omega), gI_sIn _ (by omega)]) (fun _ _ _ => rfl)
  have hSC4 : SkC (sI (sI (sI σ 21 p1) 19 b) 22 p3) 0 s := hSC.eq (fun _ _ _ => rfl)
  have i21 : gI (sI (sI (sI σ 21 p1) 19 b) 22 p3) 21 = p1 := by rw [gI_sIn _ (by omega), gI_sIn _ (by omega), gI_sI]
  have i19 : gI (sI (sI (sI σ 21 p1) 19 b) 22 p3) 19 = b := by rw [gI_sIn _ (by omega), gI_sI]
  have i22 : gI (sI (sI (sI σ 21 p1) 19 b) 22 p3) 22 = p3 := gI_sI _ _ _
  have ec : x_X1_go p1 b p3 σ = x_X1_go p1 b p3 σ := rfl
  conv at ec => rhs; unfold x_X1_go
  rw [bd_some, bd_some, bz3, bd_some, bd_some] at ec
  generalize sI (sI (sI σ 21 p1) 19 b) 22 p3 = σ4 at *
  obtain ⟨σ5, e1, k1, fd1, j18, j20, j21, cells⟩ := c_begin hT hC4 hSC4
  rw [e1, bd_some] at ec
  -- the reference
  have hM3 : TdM 0 (sI (sI (sI τ 16 p1) 17 0) 18 0) T := hM.eq (fun k _ _ => by rw [gI_sIn _ (by omega), gI_sIn _ (by omega), gI_sIn _ (by omega)]) (fun _ _ _ => rfl)
  obtain ⟨τ4, g1, g2, g3, g4⟩ := m_begins hT hM3
  have fe1 : FrE τ τ4 := ⟨fun k hk => by rw [g2, gI_sIn _ (by omega), gI_sIn _ (by omega), gI_sIn _ (by omega)], fun j hj => by rw [g3 j (by omega)]; rfl⟩
  have em : x_X10_goes p1 τ = x_X10_goes p1 τ := rfl
  conv at em => rhs; unfold x_X10_goes
  rw [bd_some, bd_some, bd_some, g1, bd2_some] at em
  have hday : DayR σ5 τ4 T s lf (fun _ => -3) := by
    refine ⟨⟨hC4.frd fd1, hM.fre fe1, hs, k1, ?_, ?_, ⟨fun _ => 0, fun k hk => ?_, fun k h1 h2 => ⟨(cells k h2).1, (cells k h2).2.1⟩, ?_⟩, ?_, ?_, fun k hk => ?_⟩, fun k hk => ?_, fun k h1 h2 => (cells k h2).2.2.1, ?_⟩
    · exact hSM.eq (fun j hj => by rw [g3 j (by omega)]; rfl)
    · rw [j21, i21, g2, gI_sIn _ (by omega), gI_sIn _ (by omega), gI_sI]
    · have hlk := hT.2.2.2.2.2.2.2.1 k hk
      obtain ⟨c1, c2, c3, c4, c5, c6⟩ := cells k (by omega)
      obtain ⟨m1, m2, m3, m4, m5, m6, m7⟩ := g4 k hk
      rw [c1, c2, m3, m4, m5]
      exact ⟨rfl, by rw [Int.sub_zero], rfl, rfl, Int.le_refl 0, show (0 : Int) ≤ tLk T k 4 by omega⟩
    · rw [g2, gI_sIn _ (by omega), gI_sI]
      show 0 = ((((((0 + gA σ5 36 0) + gA σ5 36 1) + gA σ5 36 2) + gA σ5 36 3) + gA σ5 36 4) + gA σ5 36 5)
      rw [(cells 0 (by omega)).1, (cells 1 (by omega)).1, (cells 2 (by omega)).1, (cells 3 (by omega)).1, (cells 4 (by omega)).1, (cells 5 (by omega)).1]
      rfl
    · rw [j18, g2, gI_sI]
    · rw [fd1.1 22 (by omega), fe1.1 19 (by omega), i22]; exact hbl
    · rw [fd1.1 19 (by omega), fe1.2 26 (by omega), i19]; exact hlf k hk
    · obtain ⟨c1, c2, c3, c4, c5, c6⟩ := cells k (by omega)
      obtain ⟨m1, m2, m3, m4, m5, m6, m7⟩ := g4 k hk
      rw [c3, c4, c5, c6 hk, m1, m6, m7]
      exact ⟨rfl, rfl, Or.inl rfl, fun _ => rfl, fun h => absurd (show (0 : Int) ≤ -3 from h) (by omega), rfl, rfl, fun h => absurd (show (-3 : Int) = -2 from h) (by omega), fun h => absurd rfl h⟩
    · rw [j20, stays_all (fun _ => rfl)]
  obtain ⟨σ6, τ6, s6, pos6, z, h1, h2, h3, h4, h5, h6, h7⟩ := both_hours hT hday (fun k hk => (g4 k hk).2.2.2.2.2.1)
  rw [h1, bd2_some] at ec
  rw [h2, bd2_some] at em
  exact ⟨σ6, τ6, s6, pos6, ec, em, h3, fd1.trans h4, fe1.trans h5, fun q => h6 ((fe1.1 19 (by omega)).trans q), h7⟩
