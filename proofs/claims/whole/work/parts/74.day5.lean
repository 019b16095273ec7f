/-! a day: one's turn -/
def stays (pos : Nat → Int) : Nat → Nat
  | 0 => 0
  | n + 1 => stays pos n + (if pos n = -2 then 0 else 1)
def StdR (σ τ : St) (T : Td) (pos : Nat → Int) : Prop :=
  (∀ k, k < tL T → gA σ 40 k = iI (pos k) ∧ gA τ 19 k = iI (if pos k = -3 then -1 else pos k) ∧ (pos k = -3 ∨ pos k = -2 ∨ (0 ≤ pos k ∧ pos k < tC T)) ∧ (pos k = -3 → gA σ 41 k = iI (tLk T k 0)) ∧ (0 ≤ pos k → gA σ 41 k = gA τ 20 k) ∧ gA σ 38 k = gA τ 24 k ∧ gA σ 39 k = gA τ 25 k ∧ (pos k = -2 ↔ gA τ 25 k ≠ -1)) ∧ (∀ k, tL T ≤ k → k < 6 → gA σ 38 k = 0) ∧ gI σ 20 = iI (stays pos (tL T) : Nat)
def DayR (σ τ : St) (T : Td) (s : Sk) (lf : Nat → Bool) (pos : Nat → Int) : Prop := DayB σ τ T s lf ∧ StdR σ τ T pos
/-- where one comes next -/
def nx (T : Td) (lf : Nat → Bool) (pos : Nat → Int) (k : Nat) : Int := if pos k = -3 then (if lf k then (tC T : Int) - 1 else 0) else if lf k then pos k - 1 else pos k + 1
/-- who stands at a crate -/
def Who (pos : Nat → Int) (n : Nat) (c z : Int) : Prop := (z = -1 ∧ ∀ i, i < n → pos i ≠ c) ∨ ∃ w : Nat, w < n ∧ z = w ∧ pos w = c ∧ ∀ i, i < w → pos i ≠ c
theorem both_who {σ τ : St} {T : Td} {s : Sk} {lf : Nat → Bool} {pos : Nat → Int} (hT : TdOk T) (h : DayR σ τ T s lf pos) {c : Nat} (hc : c < tC T) : ∃ z, Who pos (tL T) c z ∧ x_X1_whoStandsAt (iI c) σ = some (iI z) ∧ x_X10_whoAt (iI c) τ = some (iI z) := by
  have hL6 := hT.2.2.1
  have hC8 := hT.1
  obtain ⟨hB, hS, -⟩ := h
  have hL : gI σ 2 = iI (tL T) := hB.1.2.2.1
  have hLm : gI τ 10 = iI (tL T) := hB.2.1.2.2.1
  have key := lpr2_inv (f := fun v : Int32 => x_X1_whoStandsAt_L2 (iI c) σ v) (g := fun v : Int32 => x_X10_whoAt_L2 (iI c) τ v)
    (fun i v x => v = iI (i : Nat) ∧ x = iI (i : Nat) ∧ ∀ j, j < i → pos j ≠ c) (fun v x => ∀ j, j < tL T → pos j ≠ c) (fun r q => ∃ w : Nat, w < tL T ∧ r = iI w ∧ q = iI w ∧ pos w = c ∧ ∀ j, j < w → pos j ≠ c) (tL T) FU FU (by unfold FU; omega) (by unfold FU; omega) (fun i v x hi hg => ?_) (fun v x hg => ?_) (iI ((0 : Nat) : Int)) (iI ((0 : Nat) : Int)) ⟨rfl, rfl, fun j hj => absurd hj (by omega)⟩
  · rcases key with ⟨v2, x2, e1, e2, e3⟩ | ⟨r, q, e1, e2, w, w1, rfl, rfl, w2, w3⟩
    · refine ⟨-1, Or.inl ⟨rfl, e3⟩, ?_, ?_⟩
      · unfold x_X1_whoStandsAt
        show bs (lpr _ FU (iI ((0 : Nat) : Int))) _ _ = _
        rw [e1]; rfl
      · unfold x_X10_whoAt
        show bs (lpr _ FU (iI ((0 : Nat) : Int))) _ _ = _
        rw [e2]; rfl
    · refine ⟨w, Or.inr ⟨w, w1, rfl, w2, w3⟩, ?_, ?_⟩
      · unfold x_X1_whoStandsAt
        show bs (lpr _ FU (iI ((0 : Nat) : Int))) _ _ = _
        rw [e1]; rfl
      · unfold x_X10_whoAt
        show bs (lpr _ FU (iI ((0 : Nat) : Int))) _ _ = _
        rw [e2]; rfl
  · obtain ⟨rfl, rfl, hj⟩ := hg
    obtain ⟨p1, p2, p3, -⟩ := hS i hi
    have l1 : x_X2_at 40 (iI (i : Int)) σ = some (iI (pos i)) := by
      rw [f_at, atF_in (show i < lenN 40 from (show i < 6 by omega)) (by decide), p1]
    have l2 : ldI (gA τ 19) (lenM 19) (iI (i : Int)) = some (iI (if pos i = -3 then -1 else pos i)) := by
      rw [ldI_in (show i < lenM 19 from (show i < 6 by omega)) (by decide), p2]
    show (∃ v2 x2, x_X1_whoStandsAt_L2 (iI c) σ (iI (i : Int)) = _ ∧ x_X10_whoAt_L2 (iI c) τ (iI (i : Int)) = _ ∧ _) ∨ (∃ r q, x_X1_whoStandsAt_L2 (iI c) σ (iI (i : Int)) = _ ∧ x_X10_whoAt_L2 (iI c) τ (iI (i : Int)) = _ ∧ _)
    unfold x_X1_whoStandsAt_L2 x_X10_whoAt_L2
    rw [hL, hLm, l1, l2]
    simp (disch := omega) only [iI_leD]
    rw [if_neg (by omega), if_neg (by omega), bd_some, bd_some, qa1]
    by_cases q : pos i = c
    · right
      refine ⟨iI (i : Int), iI (i : Int), ?_, ?_, i, hi, rfl, rfl, q, hj⟩
      · rw [if_pos (by rw [q])]
      · rw [if_neg (show ¬ pos i = -3 by omega), if_pos (by rw [q])]
    · left
      refine ⟨iI ((i : Int) + 1), iI ((i : Int) + 1), ?_, ?_, rfl, rfl, fun j h => ?_⟩
      · rw [if_neg (fun e => q ((iI_inj ⟨by omega, by omega⟩ ⟨by omega, by omega⟩).mp e))]
      · by_cases z : pos i = -3
        · rw [if_pos z, if_neg (fun e => by
            have := (iI_inj ⟨by omega, by omega⟩ ⟨by omega, by omega⟩).mp e
            omega)]
        · rw [if_neg z, if_neg (fun e => q ((iI_inj ⟨by omega, by omega⟩ ⟨by omega, by omega⟩).mp e))]
      · by_cases z : j = i
        · rw [z]; exact q
        · exact hj j (by omega)
  · obtain ⟨rfl, rfl, hj⟩ := hg
    refine ⟨iI (tL T), iI (tL T), ?_, ?_, hj⟩
    · show x_X1_whoStandsAt_L2 _ _ _ = _
      unfold x_X1_whoStandsAt_L2
      rw [hL, if_pos (Int32.le_refl _)]
    · show x_X10_whoAt_L2 _ _ _ = _
      unfold x_X10_whoAt_L2
      rw [hLm, if_pos (Int32.le_refl _)]
theorem c_nx {σ τ : St} {T : Td} {s : Sk} {lf : Nat → Bool} {pos : Nat → Int} (hT : TdOk T) (h : DayR σ τ T s lf pos) {k : Nat} (hk : k < tL T) : x_X1_nextOf (iI k) σ = some (iI (nx T lf pos k)) := by
  have hL6 := hT.2.2.1
  have hC8 := hT.1
  obtain ⟨hB, hS, -⟩ := h
  obtain ⟨p1, p2, p3, -⟩ := hS k hk
  have l1 : x_X2_at 40 (iI (k : Int)) σ = some (iI (pos k)) := by
    rw [f_at, atF_in (show k < lenN 40 from (show k < 6 by omega)) (by decide), p1]
  unfold x_X1_nextOf nx
  rw [(hB.2.2.2.2.2.2.2.2.2 k hk).1, l1, bd_some, bd_some, show gI σ 0 = iI (tC T) from hB.1.1, i1, i0, iI_sub, iI_add, iI_sub, show (-3 : Int32) = iI (-3) from rfl]
  simp (disch := omega) only [iI_eqD]
  by_cases z : pos k = -3
  · rw [if_pos z, if_pos z]
    by_cases y : lf k = true
    · rw [if_pos y, if_pos y, if_neg (by decide)]
    · rw [if_neg y, if_neg y, if_pos rfl]
  · rw [if_neg z, if_neg z]
    by_cases y : lf k = true
    · rw [if_pos y, if_pos y, if_neg (by decide)]
    · rw [if_neg y, if_neg y, if_pos rfl]
theorem m_nx {σ τ : St} {T : Td} {s : Sk} {lf : Nat → Bool} {pos : Nat → Int} (hT : TdOk T) (h : DayR σ τ T s lf pos) {k : Nat} (hk : k < tL T) (h0 : 0 ≤ pos k) : x_X10_nextOf (iI k) τ = some (iI (if 0 ≤ nx T lf pos k ∧ nx T lf pos k < tC T then nx T lf pos k else -1)) := by
  have hL6 := hT.2.2.1
  have hC8 := hT.1
  obtain ⟨hB, hS, -⟩ := h
  obtain ⟨p1, p2, p3, -⟩ := hS k hk
  have l2 : ldI (gA τ 19) (lenM 19) (iI (k : Int)) = some (iI (pos k)) := by
    rw [ldI_in (show k < lenM 19 from (show k < 6 by omega)) (by decide), p2, if_neg (by omega)]
  have l3 : ldI (gA τ 26) (lenM 26) (iI (k : Int)) = some (if lf k then 1 else 0) := by
    rw [ldI_in (show k < lenM 26 from (show k < 6 by omega)) (by decide), (hB.2.2.2.2.2.2.2.2.2 k hk).2]
  unfold x_X10_nextOf x_X10_nextOf_b21 nx
  rw [l2, l3, bd_some, bd_some, show gI τ 8 = iI (tC T) from hB.2.1.1, im1, i1, i0, iI_sub, iI_add, iI_add, if_neg (show ¬ pos k = -3 by omega)]
  by_cases y : lf k = true
  · rw [if_pos y, if_pos rfl, m_within ⟨by omega, by omega⟩ ⟨by omega, by omega⟩ ⟨by omega, by omega⟩, bd_some, if_pos y, show pos k + -1 = pos k - 1 from by omega]
    by_cases q : 0 ≤ pos k - 1 ∧ pos k - 1 < tC T
    · rw [if_pos q, if_pos (show 0 ≤ pos k - 1 ∧ pos k - 1 ≤ (tC T : Int) - 1 by omega), if_neg (by decide)]
    · rw [if_neg q, if_neg (show ¬ (0 ≤ pos k - 1 ∧ pos k - 1 ≤ (tC T : Int) - 1) by omega), if_pos (by decide)]
  · rw [if_neg y, if_neg (by decide), m_within ⟨by omega, by omega⟩ ⟨by omega, by omega⟩ ⟨by omega, by omega⟩, bd_some, if_neg y]
    by_cases q : 0 ≤ pos k + 1 ∧ pos k + 1 < tC T
    · rw [if_pos q, if_pos (show 0 ≤ pos k + 1 ∧ pos k + 1 ≤ (tC T : Int) - 1 by omega), if_neg (by decide)]
    · rw [if_neg q, if_neg (show ¬ (0 ≤ pos k + 1 ∧ pos k + 1 ≤ (tC T : Int) - 1) by omega), if_pos (by decide)]
