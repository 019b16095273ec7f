/-! a day: one's turn -/
def stays (pos : Nat → Int) : Nat → Nat
  | 0 => 0
  | n + 1 => stays pos n + (if pos n = -2 then 0 else 1)
def StdR (σ τ : St) (T : Td) (pos : Nat → Int) : Prop :=
  (∀ k, k < tL T → gA σ 40 k = iI (pos k) ∧ gA τ 19 k = iI (if pos k = -3 then -1 else pos k) ∧ (pos k = -3 ∨ pos k = -2 ∨ (0 ≤ pos k ∧ pos k < tC T)) ∧ (pos k = -3 → gA σ 41 k = iI (tLk T k 0)) ∧ (0 ≤ pos k → gA σ 41 k = gA τ 20 k) ∧ gA σ 38 k = gA τ 24 k ∧ gA σ 39 k = gA τ 25 k ∧ (pos k = -2 ↔ gA τ 25 k ≠ -1)) ∧ (∀ k, tL T ≤ k → k < 6 → gA σ 38 k = 0) ∧ gI σ 20 = iI (stays pos (tL T) : Nat)
def DayR (σ τ : St) (T : Td) (s : Sk) (lf : Nat → Bool) (pos : Nat → Int) : Prop := DayB σ τ T s lf ∧ StdR σ τ T pos
/-- where one comes next -/
def nx (T : Td) (lf : Nat → Bool) (pos : Nat → Int) (k : Nat) : Int := if pos k = -3 then (if lf k then (tC T : Int) - 1 else 0) else if lf k then pos k - 1 else pos k + 1
/-- who stands at a crate -/
def Who (pos : Nat → Int) (n : Nat) (c z : Int) : Prop := (z = -1 ∧ ∀ i, i < n → pos i ≠ c) ∨ ∃ w : Nat, w < n ∧ z = w ∧ pos w = c ∧ ∀ i, i < w → pos i ≠ c
theorem both_who {σ τ : St} {T : Td} {s : Sk} {lf : Nat → Bool} {pos : Nat → Int} (hT : TdOk T) (h : DayR σ τ T s lf pos) {c : Nat} (hc : c < tC T) : ∃ z, Who pos (tL T) c z ∧ x_X1_whoStandsAt (iI c) σ = some (iI z) ∧ x_X10_whoAt (iI c) τ = some (iI z) := by
  have hL6 := hT.2.2.1
  have hC8 := hT.1
  obtain ⟨hB, hS, -⟩ := h
  have hL : gI σ 2 = iI (tL T) := hB.1.2.2.1
  have hLm : gI τ 10 = iI (tL T) := hB.2.1.2.2.1
  have key := lpr2_inv (f := fun v : Int32 => x_X1_whoStandsAt_L2 (iI c) σ v) (g := fun v : Int32 => x_X10_whoAt_L2 (iI c) τ v)
    (fun i v x => v = iI (i : Nat) ∧ x = iI (i : Nat) ∧ ∀ j, j < i → pos j ≠ c) (fun v x => ∀ j, j < tL T → pos j ≠ c) (fun r q => ∃ w : Nat, w < tL T ∧ r = iI w ∧ q = iI w ∧ pos w = c ∧ ∀ j, j < w → pos j ≠ c) (tL T) FU FU (by unfold FU; omega) (by unfold FU; omega) (fun i v x hi hg => ?_) (fun v x hg => ?_) (iI ((0 : Nat) : Int)) (iI ((0 : Nat) : Int)) ⟨rfl, rfl, fun j hj => absurd hj (by omega)⟩
  · rcases key with ⟨v2, x2, e1, e2, e3⟩ | ⟨r, q, e1, e2, w, w1, rfl, rfl, w2, w3⟩
    · refine ⟨-1, Or.inl ⟨rfl, e3⟩, ?_, ?_⟩
      · unfold x_X1_whoStandsAt
        show bs (lpr _ FU (iI ((0 : Nat) : Int))) _ _ = _
        rw [e1]; rfl
      · unfold x_X10_whoAt
        show bs (lpr _ FU (iI ((0 : Nat) : Int))) _ _ = _
        rw [e2]; rfl
    · refine ⟨w, Or.inr ⟨w, w1, rfl, w2, w3⟩, ?_, ?_⟩
      · unfold x_X1_whoStandsAt
        show bs (lpr _ FU (iI ((0 : Nat) : Int))) _ _ = _
        rw [e1]; rfl
      · unfold x_X10_whoAt
        show bs (lpr _ FU (iI ((0 : Nat) : Int))) _ _ = _
        rw [e2]; rfl
  · obtain ⟨rfl, rfl, hj⟩ := hg
    obtain ⟨p1, p2, p3, -⟩ := hS i hi
    have l1 : x_X2_at 40 (iI (i : Int)) σ = some (iI (pos i)) := by
      rw [f_at, atF_in (show i < lenN 40 from (show i < 6 by omega)) (by decide), p1]
    have l2 : ldI (gA τ 19) (lenM 19) (iI (i : Int)) = some (iI (if pos i = -3 then -1 else pos i)) := by
      rw [ldI_in (show i < lenM 19 from (show i < 6 by omega)) (by decide), p2]
    show (∃ v2 x2, x_X1_whoStandsAt_L2 (iI c) σ (iI (i : Int)) = _ ∧ x_X10_whoAt_L2 (iI c) τ (iI (i : Int)) = _ ∧ _) ∨ (∃ r q, x_X1_whoStandsAt_L2 (iI c) σ (iI (i : Int)) = _ ∧ x_X10_whoAt_L2 (iI c) τ (iI (i : Int)) = _ ∧ _)
    unfold x_X1_whoStandsAt_L2 x_X10_whoAt_L2
    rw [hL, hLm, l1, l2]
    simp (disch := omega) only [iI_leD]
    rw [if_neg (by omega), if_neg (by omega), bd_some, bd_some, qa1]
    by_cases q : pos i = c
    · right
      refine ⟨iI (i : Int), iI (i : Int), ?_, ?_, i, hi, rfl, rfl, q, hj⟩
      · rw [if_pos (by rw [q])]
      · rw [if_neg (show ¬ pos i = -3 by omega), if_pos (by rw [q])]
    · left
      refine ⟨iI ((i : Int) + 1), iI ((i : Int) + 1), ?_, ?_, rfl, rfl, fun j h => ?_⟩
      · rw [if_neg (fun e => q ((iI_inj ⟨by omega, by omega⟩ ⟨by omega, by omega⟩).mp e))]
      · by_cases z : pos i = -3
        · rw [if_pos z, if_neg (fun e => by
            have := (iI_inj ⟨by omega, by omega⟩ ⟨by omega, by omega⟩).mp e
            omega)]
        · rw [if_neg z, if_neg (fun e => q ((iI_inj ⟨by omega, by omega⟩ ⟨by omega, by omega⟩).mp e))]
      · by_cases z : j = i
        · rw [z]; exact q
        · exact hj j (by omega)
  · obtain ⟨rfl, rfl, hj⟩ := hg
    refine ⟨iI (tL T), iI (tL T), ?_, ?_, hj⟩
    · show x_X1_whoStandsAt_L2 _ _ _ = _
      unfold x_X1_whoStandsAt_L2
      rw [hL, if_pos (Int32.le_refl _)]
    · show x_X10_whoAt_L2 _ _ _ = _
      unfold x_X10_whoAt_L2
      rw [hLm, if_pos (Int32.le_refl _)]
theorem c_nx {σ τ : St} {T : Td} {s : Sk} {lf : Nat → Bool} {pos : Nat → Int} (hT : TdOk T) (h : DayR σ τ T s lf pos) {k : Nat} (hk : k < tL T) : x_X1_nextOf (iI k) σ = some (iI (nx T lf pos k)) := by
  have hL6 := hT.2.2.1
  have hC8 := hT.1
  obtain ⟨hB, hS, -⟩ := h
  obtain ⟨p1, p2, p3, -⟩ := hS k hk
  have l1 : x_X2_at 40 (iI (k : Int)) σ = some (iI (pos k)) := by
    rw [f_at, atF_in (show k < lenN 40 from (show k < 6 by omega)) (by decide), p1]
  unfold x_X1_nextOf nx
  rw [(hB.2.2.2.2.2.2.2.2.2 k hk).1, l1, bd_some, bd_some, show gI σ 0 = iI (tC T) from hB.1.1, i1, i0, iI_sub, iI_add, iI_sub, show (-3 : Int32) = iI (-3) from rfl]
  simp (disch := omega) only [iI_eqD]
  by_cases z : pos k = -3
  · rw [if_pos z, if_pos z]
    by_cases y : lf k = true
    · rw [if_pos y, if_pos y, if_neg (by decide)]
    · rw [if_neg y, if_neg y, if_pos rfl]
  · rw [if_neg z, if_neg z]
    by_cases y : lf k = true
    · rw [if_pos y, if_pos y, if_neg (by decide)]
    · rw [if_neg y, if_neg y, if_pos rfl]
theorem m_nx {σ τ : St} {T : Td} {s : Sk} {lf : Nat → Bool} {pos : Nat → Int} (hT : TdOk T) (h : DayR σ τ T s lf pos) {k : Nat} (hk : k < tL T) (h0 : 0 ≤ pos k) : x_X10_nextOf (iI k) τ = some (iI (if 0 ≤ nx T lf pos k ∧ nx T lf pos k < tC T then nx T lf pos k else -1)) := by
  have hL6 := hT.2.2.1
  have hC8 := hT.1
  obtain ⟨hB, hS, -⟩ := h
  obtain ⟨p1, p2, p3, -⟩ := hS k hk
  have l2 : ldI (gA τ 19) (lenM 19) (iI (k : Int)) = some (iI (pos k)) := by
    rw [ldI_in (show k < lenM 19 from (show k < 6 by omega)) (by decide), p2, if_neg (by omega)]
  have l3 : ldI (gA τ 26) (lenM 26) (iI (k : Int)) = some (if lf k then 1 else 0) := by
    rw [ldI_in (show k < lenM 26 from (show k < 6 by omega)) (by decide), (hB.2.2.2.2.2.2.2.2.2 k hk).2]
  unfold x_X10_nextOf x_X10_nextOf_b21 nx
  rw [l2, l3, bd_some, bd_some, show gI τ 8 = iI (tC T) from hB.2.1.1, im1, i1, i0, iI_sub, iI_add, iI_add, if_neg (show ¬ pos k = -3 by omega)]
  by_cases y : lf k = true
  · rw [if_pos y, if_pos rfl, m_within ⟨by omega, by omega⟩ ⟨by omega, by omega⟩ ⟨by omega, by omega⟩, bd_some, if_pos y, show pos k + -1 = pos k - 1 from by omega]
    by_cases q : 0 ≤ pos k - 1 ∧ pos k - 1 < tC T
    · rw [if_pos q, if_pos (show 0 ≤ pos k - 1 ∧ pos k - 1 ≤ (tC T : Int) - 1 by omega), if_neg (by decide)]
    · rw [if_neg q, if_neg (show ¬ (0 ≤ pos k - 1 ∧ pos k - 1 ≤ (tC T : Int) - 1) by omega), if_pos (by decide)]
  · rw [if_neg y, if_neg (by decide), m_within ⟨by omega, by omega⟩ ⟨by omega, by omega⟩ ⟨by omega, by omega⟩, bd_some, if_neg y]
    by_cases q : 0 ≤ pos k + 1 ∧ pos k + 1 < tC T
    · rw [if_pos q, if_pos (show 0 ≤ pos k + 1 ∧ pos k + 1 ≤ (tC T : Int) - 1 by omega), if_neg (by decide)]
    · rw [if_neg q, if_neg (show ¬ (0 ≤ pos k + 1 ∧ pos k + 1 ≤ (tC T : Int) - 1) by omega), if_pos (by decide)]
theorem Who.det {pos : Nat → Int} {n w : Nat} {c z : Int} (h : Who pos n c z) (hw : w < n) (e : pos w = c) (hf : ∀ i, i < w → pos i ≠ c) : z = w := by
  rcases h with ⟨rfl, h⟩ | ⟨v, v1, rfl, v2, v3⟩
  · exact absurd e (h w hw)
  · have a1 : ¬ v < w := fun q => hf v q v2
    have a2 : ¬ w < v := fun q => v3 w q e
    omega
/-- one waits -/
def Wt (σ : St) (T : Td) (lf : Nat → Bool) (pos : Nat → Int) (u : Int32) (k : Nat) : Prop := pos k ≠ -2 ∧ gA σ 41 k ≤ u ∧ ∃ c w : Nat, nx T lf pos k = c ∧ c < tC T ∧ w < tL T ∧ pos w = c ∧ (∀ i, i < w → pos i ≠ c) ∧ (u < gA σ 41 w ∨ nx T lf pos w ≠ pos k)
/-- one neither goes on nor waits -/
def Idl (σ : St) (pos : Nat → Int) (u : Int32) (k : Nat) : Prop := pos k = -2 ∨ (pos k ≠ -2 ∧ u < gA σ 41 k)
theorem m_first {σ τ : St} {T : Td} {s : Sk} {lf : Nat → Bool} {pos : Nat → Int} (hT : TdOk T) (h : DayR σ τ T s lf pos) {k : Nat} (hk : k < tL T) : ldI (gA τ 4) (lenM 4) (6 * iI k) = some (iI (tLk T k 0)) ∧ ldI (gA τ 19) (lenM 19) (iI (k : Int)) = some (iI (if pos k = -3 then -1 else pos k)) ∧ ldI (gA τ 20) (lenM 20) (iI (k : Int)) = some (gA τ 20 k) ∧ ldI (gA τ 24) (lenM 24) (iI (k : Int)) = some (gA τ 24 k) ∧ ldI (gA τ 26) (lenM 26) (iI (k : Int)) = some (if lf k then 1 else 0) := by
  have hL6 := hT.2.2.1
  obtain ⟨hB, hS, -⟩ := h
  obtain ⟨p1, p2, p3, -⟩ := hS k hk
  refine ⟨?_, ?_, ?_, ?_, ?_⟩
  · have := m_looker (w := 0) hB.2.1 hT hk (by omega)
    rw [show ((6 * k + 0 : Nat) : Int) = 6 * (k : Int) from by omega] at this
    rw [qy6]; exact this
  · rw [ldI_in (show k < lenM 19 from (show k < 6 by omega)) (by decide), p2]
  · rw [ldI_in (show k < lenM 20 from (show k < 6 by omega)) (by decide)]
  · rw [ldI_in (show k < lenM 24 from (show k < 6 by omega)) (by decide)]
  · rw [ldI_in (show k < lenM 26 from (show k < 6 by omega)) (by decide), (hB.2.2.2.2.2.2.2.2.2 k hk).2]
theorem m_idle {σ τ : St} {T : Td} {s : Sk} {lf : Nat → Bool} {pos : Nat → Int} (hT : TdOk T) (h : DayR σ τ T s lf pos) {k : Nat} (hk : k < tL T) {u : Int32} (hq : Idl σ pos u k) : x_X10_acts (iI k) u τ = some τ := by
  obtain ⟨f1, f2, f3, f4, f5⟩ := m_first hT h hk
  have hC8 := hT.1
  obtain ⟨p1, p2, p3, p4, p5, -⟩ := h.2.1 k hk
  unfold x_X10_acts
  rw [f2, bd_some, bd_some, show (-2 : Int32) = iI (-2) from rfl, im1]
  by_cases z : pos k = -3
  · rw [if_pos z]
    rcases hq with e | ⟨-, hu⟩
    · omega
    · rw [if_neg (by decide), if_pos rfl, f1, bd_some, ← p4 z, if_neg (Int32.not_le.mpr hu)]
  · rw [if_neg z]
    rcases hq with e | ⟨e, hu⟩
    · rw [e, if_pos rfl]
    · rw [if_neg (fun q => e ((iI_inj ⟨by omega, by omega⟩ ⟨by omega, by omega⟩).mp q)), if_neg (fun q => by
        have := (iI_inj ⟨by omega, by omega⟩ ⟨by omega, by omega⟩).mp q
        omega), f3, bd_some, ← p5 (by omega), if_neg (Int32.not_le.mpr hu)]
theorem m_wait {σ τ : St} {T : Td} {s : Sk} {lf : Nat → Bool} {pos : Nat → Int} (hT : TdOk T) (h : DayR σ τ T s lf pos) {k : Nat} (hk : k < tL T) {u : Int32} (hq : Wt σ T lf pos u k) : x_X10_acts (iI k) u τ = some (sA τ 24 (upd (gA τ 24) k (gA τ 24 k + 1))) := by
  obtain ⟨f1, f2, f3, f4, f5⟩ := m_first hT h hk
  have hC8 := hT.1
  have hL6 := hT.2.2.1
  obtain ⟨p1, p2, p3, p4, p5, -⟩ := h.2.1 k hk
  obtain ⟨e, hu, c, w, hn, hc, hw, hpw, hfw, hlast⟩ := hq
  obtain ⟨z0, z1, -, z2⟩ := both_who hT h hc
  have z3 := z1.det hw hpw hfw
  subst z3
  have st : stI τ 24 (lenM 24) (iI (k : Int)) (gA τ 24 k + 1) = some (sA τ 24 (upd (gA τ 24) k (gA τ 24 k + 1))) := stI_in (show k < lenM 24 from (show k < 6 by omega)) (by decide)
  unfold x_X10_acts
  rw [f2, bd_some, bd_some, show (-2 : Int32) = iI (-2) from rfl, im1]
  by_cases z : pos k = -3
  · rw [if_pos z, if_neg (by decide), if_pos rfl, f1, bd_some, ← p4 z, if_pos hu, f5, bd_some]
    have tail : x_X10_acts_b56 (iI k) u (iI (c : Int)) τ = some (sA τ 24 (upd (gA τ 24) k (gA τ 24 k + 1))) := by
      unfold x_X10_acts_b56
      rw [z2, bd_some, im1, if_neg (fun q => by
        have := (iI_inj ⟨by omega, by omega⟩ ⟨by omega, by omega⟩).mp q
        omega), f4, bd_some, st, bd_some]
    unfold nx at hn
    rw [if_pos z] at hn
    by_cases y : lf k = true
    · rw [if_pos y] at hn
      rw [if_pos y, if_pos rfl, show gI τ 8 = iI (tC T) from h.1.2.1.1, i1, iI_sub, hn]; exact tail
    · rw [if_neg y] at hn
      rw [if_neg y, if_neg (by decide), i0, hn]; exact tail
  · rw [if_neg z, if_neg (fun q => e ((iI_inj ⟨by omega, by omega⟩ ⟨by omega, by omega⟩).mp q)), if_neg (fun q => by
        have := (iI_inj ⟨by omega, by omega⟩ ⟨by omega, by omega⟩).mp q
        omega), f3, bd_some, ← p5 (by omega), if_pos hu, m_nx hT h hk (by omega), bd_some, hn, if_pos (show 0 ≤ (c : Int) ∧ (c : Int) < (tC T : Int) by omega), if_neg (fun q => by
        have := (iI_inj ⟨by omega, by omega⟩ ⟨by omega, by omega⟩).mp q
        omega), z2, bd_some, if_neg (fun q => by
        have := (iI_inj ⟨by omega, by omega⟩ ⟨by omega, by omega⟩).mp q
        omega)]
    obtain ⟨g1, g2, g3, g4, g5⟩ := m_first hT h hw
    obtain ⟨r1, r2, r3, r4, r5, -⟩ := h.2.1 w hw
    rw [g3, bd_some, ← r5 (by omega)]
    unfold x_X10_acts_b201
    by_cases y : u < gA σ 41 w
    · rw [if_pos y, f4, bd_some, st, bd_some]
    · rw [if_neg y, m_nx hT h hw (by omega), bd_some, bd_some]
      have ne : nx T lf pos w ≠ pos k := by
        rcases hlast with a | a
        · exact absurd a y
        · exact a
      have hnb : -1 ≤ nx T lf pos w ∧ nx T lf pos w ≤ 10 := by
        unfold nx
        rw [if_neg (by omega)]
        by_cases y2 : lf w = true
        · rw [if_pos y2]; omega
        · rw [if_neg y2]; omega
      rw [if_neg (fun q => by
        by_cases y3 : 0 ≤ nx T lf pos w ∧ nx T lf pos w < tC T
        · rw [if_pos y3] at q
          have := (iI_inj ⟨by omega, by omega⟩ ⟨by omega, by omega⟩).mp q
          omega
        · rw [if_neg y3] at q
          have := (iI_inj ⟨by omega, by omega⟩ ⟨by omega, by omega⟩).mp q
          omega), f4, bd_some, st, bd_some]
