/-! would -/
theorem m_total {τ : St} {T : Td} (hT : TdOk T) (hM : TdM 0 τ T) {j : Nat} (hj : lenM j = 6) : x_X10_total j τ = some (sumF (gA τ j) (tL T)) := by
  have hL6 := hT.2.2.1
  have key := lp_run (f := fun w : (Int32 × Int32) => x_X10_total_L4 j τ w.1 w.2) (fun i => (sumF (gA τ j) i, iI ((i : Nat) : Int))) (w := (sumF (gA τ j) (tL T), iI ((tL T : Nat) : Int))) (tL T) FU (by unfold FU; omega) (fun i hi => ?_) ?_
  · unfold x_X10_total
    show bd2 (lp _ FU (sumF (gA τ j) 0, iI ((0 : Nat) : Int))) _ = _
    rw [key]; rfl
  · show x_X10_total_L4 j τ (sumF (gA τ j) i) (iI (i : Int)) = _
    unfold x_X10_total_L4
    rw [show gI τ 10 = iI (tL T) from hM.2.2.1]
    simp (disch := omega) only [iI_leD]
    rw [if_neg (by omega), ldI_in (show i < lenM j by omega) (by omega), bd_some, qa1]
    rfl
  · show x_X10_total_L4 j τ (sumF (gA τ j) (tL T)) (iI ((tL T : Nat) : Int)) = _
    unfold x_X10_total_L4
    rw [show gI τ 10 = iI (tL T) from hM.2.2.1, if_pos (Int32.le_refl _)]
theorem sumF_cut {f : Nat → Int32} {a : Nat} : ∀ n, a ≤ n → (∀ k, a ≤ k → k < n → f k = 0) → sumF f n = sumF f a := by
  intro n
  induction n with
  | zero => intro h _; rw [show a = 0 by omega]
  | succ n ih =>
    intro h hz
    by_cases e : a = n + 1
    · rw [e]
    · show sumF f n + f n = _
      rw [ih (by omega) (fun k h1 h2 => hz k h1 (by omega)), hz n (by omega) (by omega), Int32.add_zero]
theorem sumF_eq {f g : Nat → Int32} : ∀ n, (∀ k, k < n → f k = g k) → sumF f n = sumF g n := by
  intro n
  induction n with
  | zero => intro _; rfl
  | succ n ih =>
    intro h
    show sumF f n + f n = sumF g n + g n
    rw [ih (fun k hk => h k (by omega)), h n (by omega)]
def mxF (f : Nat → Int32) : Nat → Int32
  | 0 => 0
  | n + 1 => mxI (mxF f n) (f n)
theorem stays_none {pos : Nat → Int} : ∀ n, (∀ k, k < n → pos k = -2) → stays pos n = 0 := by
  intro n
  induction n with
  | zero => intro _; rfl
  | succ n ih =>
    intro h
    show stays pos n + (if pos n = -2 then 0 else 1) = 0
    rw [ih (fun k hk => h k (by omega)), if_pos (h n (by omega))]
theorem both_last {σ τ τ3 : St} {T : Td} {s : Sk} {lf : Nat → Bool} {pos : Nat → Int} (hT : TdOk T) (h : DayR σ τ T s lf pos) (e25 : gA τ3 25 = gA τ 25) (e10 : gI τ3 10 = gI τ 10) : ∃ r, x_X1_lastGone σ = some r ∧ x_X10_lastGone τ3 = some r := by
  have hL6 := hT.2.2.1
  have hL : gI σ 2 = iI (tL T) := h.1.1.2.2.1
  have hLm : gI τ3 10 = iI (tL T) := e10.trans h.1.2.1.2.2.1
  have hsl := stays_le pos (tL T)
  unfold x_X1_lastGone
  rw [h.2.2.2]
  simp (disch := omega) only [qm0]
  have l25 : ∀ i : Nat, i < tL T → ldI (gA τ3 25) (lenM 25) (iI (i : Int)) = some (gA τ 25 i) := fun i hi => by
    rw [ldI_in (show i < lenM 25 from (show i < 6 by omega)) (by decide), e25]
  by_cases hst : ((stays pos (tL T) : Nat) : Int) ≤ 0
  · rw [if_pos hst]
    have hall := stays_zero (pos := pos) (tL T) (by omega)
    have key := lp_run (f := fun w : (Int32 × Int32) => x_X1_lastGone_L13 σ w.1 w.2) (fun i => (mxF (gA τ 25) i, iI ((i : Nat) : Int))) (w := (mxF (gA τ 25) (tL T), iI ((tL T : Nat) : Int))) (tL T) FU (by unfold FU; omega) (fun i hi => ?_) ?_
    · have key2 := lpr_inv (f := fun w : (Int32 × Int32) => x_X10_lastGone_L4 τ3 w.1 w.2) (fun i v => v = (mxF (gA τ 25) i, iI ((i : Nat) : Int))) (fun v => v = (mxF (gA τ 25) (tL T), iI ((tL T : Nat) : Int))) (fun _ => False) (tL T) FU (by unfold FU; omega) (fun i v hi hg => ?_) (fun v hg => ?_) (0, 0) rfl
      · rcases key2 with ⟨w, k1, rfl⟩ | ⟨_, _, f⟩
        · refine ⟨mxF (gA τ 25) (tL T), ?_, ?_⟩
          · show bd2 (lp _ FU (mxF (gA τ 25) 0, iI ((0 : Nat) : Int))) _ = _
            rw [key]; rfl
          · unfold x_X10_lastGone
            rw [k1]; rfl
        · exact f.elim
      · subst hg
        left
        refine ⟨(mxF (gA τ 25) (i + 1), iI ((i + 1 : Nat) : Int)), ?_, rfl⟩
        show x_X10_lastGone_L4 τ3 (mxF (gA τ 25) i) (iI (i : Int)) = _
        unfold x_X10_lastGone_L4
        rw [hLm]
        simp (disch := omega) only [iI_leD]
        rw [if_neg (by omega), l25 i hi, bd_some, bd_some, bd_some, if_neg ((h.2.1 i hi).2.2.2.2.2.2.2.mp (hall i hi)), qa1]
        show _ = some (Sum.inl (true, (mxI (mxF (gA τ 25) i) (gA τ 25 i), iI ((i : Int) + 1))))
        unfold mxI
        by_cases q : gA τ 25 i ≤ mxF (gA τ 25) i
        · rw [if_pos q, if_neg (Int32.not_lt.mpr q)]
        · rw [if_neg q, if_pos (Int32.not_le.mp q)]
      · subst hg
        refine ⟨_, ?_, rfl⟩
        show x_X10_lastGone_L4 τ3 _ (iI ((tL T : Nat) : Int)) = _
        unfold x_X10_lastGone_L4
        rw [hLm, if_pos (Int32.le_refl _)]
    · show x_X1_lastGone_L13 σ (mxF (gA τ 25) i) (iI (i : Int)) = _
      unfold x_X1_lastGone_L13
      rw [hL]
      simp (disch := omega) only [iI_leD]
      rw [if_neg (by omega), f_at, atF_in (show i < lenN 39 from (show i < 6 by omega)) (by decide), bd_some, (h.2.1 i hi).2.2.2.2.2.2.1, qa1]
      rfl
    · show x_X1_lastGone_L13 σ _ (iI ((tL T : Nat) : Int)) = _
      unfold x_X1_lastGone_L13
      rw [hL, if_pos (Int32.le_refl _)]
  · rw [if_neg hst]
    refine ⟨-1, rfl, ?_⟩
    have key2 := lpr_inv (f := fun w : (Int32 × Int32) => x_X10_lastGone_L4 τ3 w.1 w.2) (fun i v => ∃ u, v = (u, iI ((i : Nat) : Int)) ∧ ∀ j, j < i → gA τ 25 j ≠ -1) (fun _ => ∀ j, j < tL T → gA τ 25 j ≠ -1) (fun r => r = -1) (tL T) FU (by unfold FU; omega) (fun i v hi hg => ?_) (fun v hg => ?_) (0, 0) ⟨0, rfl, fun j hj => absurd hj (by omega)⟩
    · rcases key2 with ⟨w, k1, k2⟩ | ⟨r, k1, rfl⟩
      · exfalso
        have := stays_none (pos := pos) (tL T) (fun k hk => (h.2.1 k hk).2.2.2.2.2.2.2.mpr (k2 k hk))
        omega
      · unfold x_X10_lastGone
        rw [k1]; rfl
    · obtain ⟨u, rfl, hj⟩ := hg
      show (∃ w, x_X10_lastGone_L4 τ3 u (iI (i : Int)) = _ ∧ _) ∨ (∃ r, x_X10_lastGone_L4 τ3 u (iI (i : Int)) = _ ∧ _)
      unfold x_X10_lastGone_L4
      rw [hLm]
      simp (disch := omega) only [iI_leD]
      rw [if_neg (by omega), l25 i hi, bd_some, bd_some, bd_some, qa1]
      by_cases q : gA τ 25 i = -1
      · right
        exact ⟨-1, by rw [if_pos q], rfl⟩
      · left
        have nj : ∀ j, j < i + 1 → gA τ 25 j ≠ -1 := fun j h2 => by
          by_cases z : j = i
          · rw [z]; exact q
          · exact hj j (by omega)
        by_cases q2 : gA τ 25 i ≤ u
        · exact ⟨(u, iI ((i + 1 : Nat) : Int)), by rw [if_neg q, if_pos q2]; rfl, u, rfl, nj⟩
        · exact ⟨(gA τ 25 i, iI ((i + 1 : Nat) : Int)), by rw [if_neg q, if_neg q2]; rfl, _, rfl, nj⟩
    · obtain ⟨u, rfl, hj⟩ := hg
      refine ⟨(u, iI ((tL T : Nat) : Int)), ?_, hj⟩
      show x_X10_lastGone_L4 τ3 u (iI ((tL T : Nat) : Int)) = _
      unfold x_X10_lastGone_L4
      rw [hLm, if_pos (Int32.le_refl _)]
