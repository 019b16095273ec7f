/-! would -/
theorem m_total {τ : St} {T : Td} (hT : TdOk T) (hM : TdM 0 τ T) {j : Nat} (hj : lenM j = 6) : x_X10_total j τ = some (sumF (gA τ j) (tL T)) := by
  have hL6 := hT.2.2.1
  have key := lp_run (f := fun w : (Int32 × Int32) => x_X10_total_L4 j τ w.1 w.2) (fun i => (sumF (gA τ j) i, iI ((i : Nat) : Int))) (w := (sumF (gA τ j) (tL T), iI ((tL T : Nat) : Int))) (tL T) FU (by unfold FU; omega) (fun i hi => ?_) ?_
  · unfold x_X10_total
    show bd2 (lp _ FU (sumF (gA τ j) 0, iI ((0 : Nat) : Int))) _ = _
    rw [key]; rfl
  · show x_X10_total_L4 j τ (sumF (gA τ j) i) (iI (i : Int)) = _
    unfold x_X10_total_L4
    rw [show gI τ 10 = iI (tL T) from hM.2.2.1]
    simp (disch := omega) only [iI_leD]
    rw [if_neg (by omega), ldI_in (show i < lenM j by omega) (by omega), bd_some, qa1]
    rfl
  · show x_X10_total_L4 j τ (sumF (gA τ j) (tL T)) (iI ((tL T : Nat) : Int)) = _
    unfold x_X10_total_L4
    rw [show gI τ 10 = iI (tL T) from hM.2.2.1, if_pos (Int32.le_refl _)]
theorem sumF_cut {f : Nat → Int32} {a : Nat} : ∀ n, a ≤ n → (∀ k, a ≤ k → k < n → f k = 0) → sumF f n = sumF f a := by
  intro n
  induction n with
  | zero => intro h _; rw [show a = 0 by omega]
  | succ n ih =>
    intro h hz
    by_cases e : a = n + 1
    · rw [e]
    · show sumF f n + f n = _
      rw [ih (by omega) (fun k h1 h2 => hz k h1 (by omega)), hz n (by omega) (by omega), Int32.add_zero]
theorem sumF_eq {f g : Nat → Int32} : ∀ n, (∀ k, k < n → f k = g k) → sumF f n = sumF g n := by
  intro n
  induction n with
  | zero => intro _; rfl
  | succ n ih =>
    intro h
    show sumF f n + f n = sumF g n + g n
    rw [ih (fun k hk => h k (by omega)), h n (by omega)]
