/-! a day: still seconds, and the class's jump over them -/
theorem wF_zero (σ : St) (pos : Nat → Int) (u : Int32) (n : Nat) : wF σ pos u n 0 0 = gA σ 38 := by
  funext k
  unfold wF
  by_cases z : k < n ∧ pos k ≠ -2 ∧ gA σ 41 k ≤ u
  · rw [if_pos z, if_neg (by omega), Int32.add_zero]
  · rw [if_neg z]
theorem m_stills {σ : St} {T : Td} {s : Sk} {lf : Nat → Bool} {pos : Nat → Int} {u : Int32} (hT : TdOk T) (hq : AllQ σ T lf pos u) : ∀ (d a : Nat) (v : Int32) (τ : St), a + d ≤ 3600 → DayR (sA σ 38 (wF σ pos u (tL T) 0 v)) τ T s lf pos → (∀ j, j < d → SameU σ T pos u (iI ((a + j : Nat) : Int))) →
    ∃ τ2, lp (fun v : (Int32 × St) => x_X10_goes_L92 v.1 v.2) (FU - a) (iI a, τ) = lp (fun v : (Int32 × St) => x_X10_goes_L92 v.1 v.2) (FU - (a + d)) (iI ((a + d : Nat) : Int), τ2) ∧ DayR (sA σ 38 (wF σ pos u (tL T) 0 (v + iI (d : Nat)))) τ2 T s lf pos ∧ FrE τ τ2 := by
  intro d
  induction d with
  | zero =>
    intro a v τ _ h _
    exact ⟨τ, rfl, by rw [show iI ((0 : Nat) : Int) = 0 from rfl, Int32.add_zero]; exact h, FrE.rfl⟩
  | succ d ih =>
    intro a v τ ha h he
    obtain ⟨τ1, e1, h1, f1⟩ := m_still hT h hq (he 0 (by omega))
    obtain ⟨τ2, e2, h2, f2⟩ := ih (a + 1) (v + 1) τ1 (by omega) h1 (fun j hj => by
      have := he (j + 1) (by omega)
      rw [show a + 1 + j = a + (j + 1) from by omega]
      exact this)
    refine ⟨τ2, ?_, ?_, f1.trans f2⟩
    · have hF : FU - a = (FU - (a + 1)) + 1 := by
        have : FU = 5000 := rfl
        omega
      rw [hF, lp_t (w := (iI ((a + 1 : Nat) : Int), τ1)), e2, show a + 1 + d = a + (d + 1) from by omega]
      show x_X10_goes_L92 (iI (a : Int)) τ = _
      unfold x_X10_goes_L92
      simp (disch := omega) only [qg3599]
      rw [if_neg (by omega)]
      have e1 : lp (fun v : (Int32 × St) => x_X10_goes_L101 (iI (a : Int)) v.1 v.2) FU (0, τ) = some (iI (tL T), τ1) := e1
      rw [e1, bd2_some, qa1]
      rfl
    · rw [Int32.add_assoc, i1, iI_add, show (1 : Int) + (d : Nat) = ((d + 1 : Nat) : Int) from by omega] at h2
      exact h2
theorem c_nextDone {σ τ : St} {T : Td} {s : Sk} {lf : Nat → Bool} {pos : Nat → Int} {un : Nat} (hT : TdOk T) (h : DayR σ τ T s lf pos) (hu : un < 3600) : ∃ m : Int, un < m ∧ m ≤ 3600 ∧ x_X1_nextDone (iI un) σ = some (iI m) ∧ ∀ k, k < tL T → pos k ≠ -2 → iI un < gA σ 41 k → iI m ≤ gA σ 41 k := by
  have hL6 := hT.2.2.1
  have hC8 := hT.1
  have hL : gI σ 2 = iI (tL T) := h.1.1.2.2.1
  have key := lp_inv (f := fun v : (Int32 × Int32) => x_X1_nextDone_L6 (iI un) σ v.1 v.2)
    (fun i x => ∃ m : Int, x = (iI m, iI (i : Nat)) ∧ un < m ∧ m ≤ 3600 ∧ ∀ k, k < i → pos k ≠ -2 → iI un < gA σ 41 k → iI m ≤ gA σ 41 k)
    (fun x => ∃ m : Int, x = (iI m, iI (tL T)) ∧ un < m ∧ m ≤ 3600 ∧ ∀ k, k < tL T → pos k ≠ -2 → iI un < gA σ 41 k → iI m ≤ gA σ 41 k) (tL T) FU (by unfold FU; omega) (fun i x hi hg => ?_) (fun x hg => ?_) (3600, 0) ⟨3600, rfl, by omega, by omega, fun k hk => absurd hk (by omega)⟩
  · obtain ⟨x2, e1, m, rfl, m1, m2, m3⟩ := key
    refine ⟨m, m1, m2, ?_, m3⟩
    unfold x_X1_nextDone
    rw [e1]; rfl
  · obtain ⟨m, rfl, m1, m2, m3⟩ := hg
    obtain ⟨p1, p2, p3, -⟩ := h.2.1 i hi
    have a40 : x_X2_at 40 (iI (i : Int)) σ = some (iI (pos i)) := by
      rw [f_at, atF_in (show i < lenN 40 from (show i < 6 by omega)) (by decide), p1]
    have a41 : x_X2_at 41 (iI (i : Int)) σ = some (gA σ 41 i) := by
      rw [f_at, atF_in (show i < lenN 41 from (show i < 6 by omega)) (by decide)]
    have ec : x_X1_nextDone_L6 (iI un) σ (iI m) (iI (i : Int)) = (if pos i = -2 then some (true, (iI m, iI ((i + 1 : Nat) : Int))) else if gA σ 41 i ≤ iI un then some (true, (iI m, iI ((i + 1 : Nat) : Int))) else some (true, (mnI (iI m) (gA σ 41 i), iI ((i + 1 : Nat) : Int)))) := by
      unfold x_X1_nextDone_L6
      rw [hL, a41, a40]
      simp (disch := omega) only [iI_leD]
      rw [if_neg (by omega), bd_some, bd_some, qa1, show (-2 : Int32) = iI (-2) from rfl]
      simp (disch := omega) only [iI_eqD]
      rfl
    by_cases z : pos i = -2
    · rw [if_pos z] at ec
      exact ⟨_, ec, m, rfl, m1, m2, fun k hk a b => by
        by_cases e : k = i
        · rw [e] at a; exact absurd z a
        · exact m3 k (by omega) a b⟩
    · rw [if_neg z] at ec
      by_cases y : gA σ 41 i ≤ iI un
      · rw [if_pos y] at ec
        exact ⟨_, ec, m, rfl, m1, m2, fun k hk a b => by
          by_cases e : k = i
          · rw [e] at b; exact absurd b (Int32.not_lt.mpr y)
          · exact m3 k (by omega) a b⟩
      · rw [if_neg y] at ec
        obtain ⟨d, hd, hd2⟩ := ex_iI (gA σ 41 i)
        obtain ⟨hd1, hd3⟩ := hd
        rw [hd2] at y ec
        have y2 : un < d := by
          have := Int32.not_le.mp y
          rw [iI_ltD (by omega) (by omega) (by omega) (by omega)] at this
          exact this
        unfold mnI at ec
        simp (disch := omega) only [iI_ltD] at ec
        by_cases w : d < m
        · rw [if_pos w] at ec
          refine ⟨_, ec, d, rfl, y2, by omega, fun k hk a b => ?_⟩
          by_cases e : k = i
          · rw [e, hd2]; exact Int32.le_refl _
          · refine Int32.le_trans ?_ (m3 k (by omega) a b)
            rw [iI_leD (by omega) (by omega) (by omega) (by omega)]
            omega
        · rw [if_neg w] at ec
          refine ⟨_, ec, m, rfl, m1, m2, fun k hk a b => ?_⟩
          by_cases e : k = i
          · rw [e, hd2, iI_leD (by omega) (by omega) (by omega) (by omega)]; omega
          · exact m3 k (by omega) a b
  · obtain ⟨m, rfl, r⟩ := hg
    refine ⟨(iI m, iI (tL T)), ?_, m, rfl, r⟩
    show x_X1_nextDone_L6 _ _ _ _ = _
    unfold x_X1_nextDone_L6
    rw [hL, if_pos (Int32.le_refl _)]
theorem c_waitOn {σ τ : St} {T : Td} {s : Sk} {lf : Nat → Bool} {pos : Nat → Int} (u v : Int32) (hT : TdOk T) (h : DayR σ τ T s lf pos) : x_X1_waitOn u v σ = some (sA σ 38 (wF σ pos u (tL T) 0 v)) := by
  have hL6 := hT.2.2.1
  have hC8 := hT.1
  have hL : gI σ 2 = iI (tL T) := h.1.1.2.2.1
  have z0 : wF σ pos u 0 0 v = gA σ 38 := by
    funext k
    unfold wF
    rw [if_neg (by omega)]
  have key := lp_run (f := fun w : (Int32 × St) => x_X1_waitOn_L2 u v w.1 w.2) (fun i => (iI ((i : Nat) : Int), sA σ 38 (wF σ pos u i 0 v))) (w := (iI (tL T), sA σ 38 (wF σ pos u (tL T) 0 v))) (tL T) FU (by unfold FU; omega) (fun i hi => ?_) ?_
  · unfold x_X1_waitOn
    have key : lp (fun w : (Int32 × St) => x_X1_waitOn_L2 u v w.1 w.2) FU (0, σ) = some (iI (tL T), sA σ 38 (wF σ pos u (tL T) 0 v)) := by
      rw [← key, z0, sA_gA]; rfl
    rw [key]; rfl
  · obtain ⟨p1, p2, p3, -⟩ := h.2.1 i hi
    have a40 : x_X2_at 40 (iI (i : Int)) (sA σ 38 (wF σ pos u i 0 v)) = some (iI (pos i)) := by
      rw [f_at, atF_in (show i < lenN 40 from (show i < 6 by omega)) (by decide), gA_sAn _ (by omega), p1]
    have a41 : x_X2_at 41 (iI (i : Int)) (sA σ 38 (wF σ pos u i 0 v)) = some (gA σ 41 i) := by
      rw [f_at, atF_in (show i < lenN 41 from (show i < 6 by omega)) (by decide), gA_sAn _ (by omega)]
    have same : ¬ (pos i ≠ -2 ∧ gA σ 41 i ≤ u) → wF σ pos u (i + 1) 0 v = wF σ pos u i 0 v := by
      intro hz
      funext k
      unfold wF
      by_cases e : k = i
      · subst e
        rw [if_neg (fun q => hz q.2), if_neg (fun q => hz q.2)]
      · by_cases q : k < i ∧ pos k ≠ -2 ∧ gA σ 41 k ≤ u
        · rw [if_pos q, if_pos (show k < i + 1 ∧ pos k ≠ -2 ∧ gA σ 41 k ≤ u from ⟨by omega, q.2⟩)]
        · rw [if_neg q, if_neg (fun q2 => q ⟨by omega, q2.2⟩)]
    show x_X1_waitOn_L2 u v (iI (i : Int)) _ = _
    unfold x_X1_waitOn_L2
    rw [show gI (sA σ 38 (wF σ pos u i 0 v)) 2 = iI (tL T) from hL, a40, a41]
    simp (disch := omega) only [iI_leD]
    rw [if_neg (by omega), bd_some, bd_some, qa1, show (-2 : Int32) = iI (-2) from rfl]
    simp (disch := omega) only [iI_eqD]
    by_cases z : pos i = -2
    · rw [if_pos z, same (fun q => q.1 z)]; rfl
    · rw [if_neg z]
      by_cases y : u < gA σ 41 i
      · rw [if_pos y, same (fun q => Int32.not_le.mpr y q.2)]; rfl
      · rw [if_neg y, f_add, bd_some, atF_in (show i < lenN 38 from (show i < 6 by omega)) (by decide), putF_in (show i < lenN 38 from (show i < 6 by omega)) (by decide), gA_sA, sA_sA]
        have e2 : upd (wF σ pos u i 0 v) i (wF σ pos u i 0 v i + v) = wF σ pos u (i + 1) 0 v := by
          funext k
          unfold upd wF
          by_cases e : k = i
          · subst e
            rw [if_pos rfl, if_neg (by omega), if_pos ⟨by omega, z, Int32.not_lt.mp y⟩, if_neg (by omega)]
          · rw [if_neg e]
            by_cases q : k < i ∧ pos k ≠ -2 ∧ gA σ 41 k ≤ u
            · rw [if_pos q, if_pos (show k < i + 1 ∧ pos k ≠ -2 ∧ gA σ 41 k ≤ u from ⟨by omega, q.2⟩)]
            · rw [if_neg q, if_neg (fun q2 => q ⟨by omega, q2.2⟩)]
        rw [e2]; rfl
  · show x_X1_waitOn_L2 u v (iI ((tL T : Nat) : Int)) _ = _
    unfold x_X1_waitOn_L2
    rw [show gI (sA σ 38 (wF σ pos u (tL T) 0 v)) 2 = iI (tL T) from hL, if_pos (Int32.le_refl _)]
