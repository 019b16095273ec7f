/-! a day: one's turn, on both sides -/
theorem stays_upd {pos : Nat → Int} {k : Nat} {c : Int} (h : pos k ≠ -2) (hc : c ≠ -2) : ∀ n, stays (updZ pos k c) n = stays pos n := by
  intro n
  induction n with
  | zero => rfl
  | succ n ih =>
    show stays (updZ pos k c) n + _ = stays pos n + _
    rw [ih]
    congr 1
    unfold updZ
    by_cases e : n = k
    · rw [if_pos e, if_neg hc, e, if_neg h]
    · rw [if_neg e]
theorem stays_out {pos : Nat → Int} {k : Nat} (h : pos k ≠ -2) : ∀ n, k < n → stays (updZ pos k (-2)) n + 1 = stays pos n := by
  have low : ∀ n, n ≤ k → stays (updZ pos k (-2)) n = stays pos n := by
    intro n
    induction n with
    | zero => intro _; rfl
    | succ n ih =>
      intro hn
      show stays (updZ pos k (-2)) n + _ = stays pos n + _
      rw [ih (by omega)]
      unfold updZ
      rw [if_neg (show ¬ n = k by omega)]
  intro n
  induction n with
  | zero => intro hn; omega
  | succ n ih =>
    intro hn
    show stays (updZ pos k (-2)) n + (if updZ pos k (-2) n = -2 then 0 else 1) + 1 = stays pos n + (if pos n = -2 then 0 else 1)
    by_cases e : n = k
    · subst e
      rw [low n (Nat.le_refl _), if_neg h, if_pos (show updZ pos n (-2) n = -2 by unfold updZ; rw [if_pos rfl])]
    · have := ih (by omega)
      rw [show updZ pos k (-2) n = pos n by unfold updZ; rw [if_neg e]]
      omega
theorem stays_le (pos : Nat → Int) : ∀ n, stays pos n ≤ n := by
  intro n
  induction n with
  | zero => exact Nat.le_refl _
  | succ n ih =>
    show stays pos n + _ ≤ n + 1
    by_cases e : pos n = -2
    · rw [if_pos e]; omega
    · rw [if_neg e]; omega
theorem StdR.come {σ τ σ2 τ2 : St} {T : Td} {pos : Nat → Int} {k c : Nat} {d : Int32} (h : StdR σ τ T pos) (hk : k < tL T) (hc : c < tC T) (hp : pos k ≠ -2) (h1 : gA σ2 40 = upd (gA σ 40) k (iI c)) (h2 : gA τ2 19 = upd (gA τ 19) k (iI c)) (h3 : gA σ2 41 = upd (gA σ 41) k d) (h4 : gA τ2 20 = upd (gA τ 20) k d) (h5 : gI σ2 20 = gI σ 20) (h6 : gA σ2 38 = gA σ 38) (h7 : gA σ2 39 = gA σ 39) (h8 : gA τ2 24 = gA τ 24) (h9 : gA τ2 25 = gA τ 25) : StdR σ2 τ2 T (updZ pos k c) := by
  obtain ⟨hS, hW, hn⟩ := h
  refine ⟨fun q hq => ?_, by rw [h6]; exact hW, by rw [h5, stays_upd hp (by omega)]; exact hn⟩
  obtain ⟨p1, p2, p3, p4, p5, p6, p7, p8⟩ := hS q hq
  rw [h1, h2, h3, h4, h6, h7, h8, h9]
  unfold upd updZ
  by_cases e : q = k
  · subst e
    rw [if_pos rfl, if_pos rfl, if_pos rfl, if_pos rfl, if_pos rfl, if_neg (show ¬ (c : Int) = -3 by omega)]
    refine ⟨rfl, rfl, by omega, fun a => by omega, fun _ => rfl, p6, p7, ?_⟩
    constructor
    · intro a; omega
    · intro a; exact absurd (p8.mpr a) hp
  · rw [if_neg e, if_neg e, if_neg e, if_neg e, if_neg e]
    exact ⟨p1, p2, p3, p4, p5, p6, p7, p8⟩
theorem DayR.wait {σ τ : St} {T : Td} {s : Sk} {lf : Nat → Bool} {pos : Nat → Int} {k : Nat} (h : DayR σ τ T s lf pos) (hk : k < tL T) (v : Int32) : DayR (sA σ 38 (upd (gA σ 38) k (gA σ 38 k + v))) (sA τ 24 (upd (gA τ 24) k (gA τ 24 k + v))) T s lf pos := by
  refine ⟨h.1.eq (FrD.sA (by omega)) (FrE.sA (by omega)) (fun j hj => gA_sAn _ (by omega) _) (fun j hj => gA_sAn _ (by omega) _) rfl rfl rfl h.1.2.2.2.2.2.2.2.1, fun q hq => ?_, fun q h1 h2 => ?_, h.2.2.2⟩
  · obtain ⟨r1, r2, r3, r4, r5, r6, r7, r8⟩ := h.2.1 q hq
    rw [gA_sAn _ (show 40 ≠ 38 by omega), gA_sAn _ (show 19 ≠ 24 by omega), gA_sAn _ (show 41 ≠ 38 by omega), gA_sAn _ (show 20 ≠ 24 by omega), gA_sA, gA_sA, gA_sAn _ (show 39 ≠ 38 by omega), gA_sAn _ (show 25 ≠ 24 by omega)]
    refine ⟨r1, r2, r3, r4, r5, ?_, r7, r8⟩
    unfold upd
    by_cases e : q = k
    · subst e
      rw [if_pos rfl, if_pos rfl, r6]
    · rw [if_neg e, if_neg e]; exact r6
  · rw [gA_sA]
    unfold upd
    rw [if_neg (by omega)]
    exact h.2.2.1 q h1 h2
theorem both_turn {σ τ : St} {T : Td} {s : Sk} {lf : Nat → Bool} {pos : Nat → Int} {k un : Nat} (hT : TdOk T) (h : DayR σ τ T s lf pos) (hk : k < tL T) (hu : un < 3600) :
    ∃ (σ2 τ2 : St) (s2 : Sk) (pos2 : Nat → Int), x_X1_turn (iI k) (iI un) σ = some σ2 ∧ x_X10_acts (iI k) (iI un) τ = some τ2 ∧ DayR σ2 τ2 T s2 lf pos2 ∧ FrD σ σ2 ∧ FrE τ τ2 ∧ (gI τ 19 = 1 → s2 = s) ∧ (gA τ2 24 = gA τ 24 ∨ gA τ2 24 = upd (gA τ 24) k (gA τ 24 k + 1)) ∧ (gI σ2 23 = 1 ∨ (gI σ2 23 = gI σ 23 ∧ pos2 = pos ∧ s2 = s ∧ ((Idl σ pos (iI un) k ∧ σ2 = σ ∧ τ2 = τ) ∨ (Wt σ T lf pos (iI un) k ∧ σ2 = sA σ 38 (upd (gA σ 38) k (gA σ 38 k + 1)) ∧ τ2 = sA τ 24 (upd (gA τ 24) k (gA τ 24 k + 1)))))) := by
  have hL6 := hT.2.2.1
  have hC8 := hT.1
  have hC1 : 1 ≤ tC T := by
    by_cases z : tC T = 0
    · have := hT.2.2.2.2.1 z
      omega
    · omega
  obtain ⟨f1, f2, f3, f4, f5⟩ := m_first hT h hk
  obtain ⟨p1, p2, p3, p4, p5, p6, p7, p8⟩ := h.2.1 k hk
  have a40 : x_X2_at 40 (iI (k : Int)) σ = some (iI (pos k)) := by
    rw [f_at, atF_in (show k < lenN 40 from (show k < 6 by omega)) (by decide), p1]
  have a41 : ∀ w : Nat, w < tL T → x_X2_at 41 (iI (w : Int)) σ = some (gA σ 41 w) := fun w hw => by
    rw [f_at, atF_in (show w < lenN 41 from (show w < 6 by omega)) (by decide)]
  have ec : x_X1_turn (iI k) (iI un) σ = x_X1_turn (iI k) (iI un) σ := rfl
  conv at ec => rhs; unfold x_X1_turn
  rw [a40, bd_some, show (-2 : Int32) = iI (-2) from rfl] at ec
  by_cases z2 : pos k = -2
  · rw [if_pos (by rw [z2])] at ec
    have hq : Idl σ pos (iI un) k := Or.inl z2
    exact ⟨σ, τ, s, pos, ec, m_idle hT h hk hq, h, FrD.rfl, FrE.rfl, fun _ => rfl, Or.inl rfl, Or.inr ⟨rfl, rfl, rfl, Or.inl ⟨hq, rfl, rfl⟩⟩⟩
  · rw [if_neg (fun q => z2 ((iI_inj ⟨by omega, by omega⟩ ⟨by omega, by omega⟩).mp q)), a41 k hk, bd_some] at ec
    by_cases zd : gA σ 41 k ≤ iI un
    · rw [if_pos zd, c_nx hT h hk, bd_some] at ec
      have hnb : -1 ≤ nx T lf pos k ∧ nx T lf pos k ≤ 10 := by
        unfold nx
        by_cases y : pos k = -3
        · rw [if_pos y]
          by_cases y2 : lf k = true
          · rw [if_pos y2]; omega
          · rw [if_neg y2]; omega
        · rw [if_neg y]
          by_cases y2 : lf k = true
          · rw [if_pos y2]; omega
          · rw [if_neg y2]; omega
      rw [c_hasCrate ⟨by omega, by omega⟩ h.1.1.1 (by omega), bd_some] at ec
      by_cases zn : 0 ≤ nx T lf pos k ∧ nx T lf pos k < tC T
      · rw [if_pos zn, if_neg (by decide)] at ec
        obtain ⟨c, hn⟩ := Int.eq_ofNat_of_zero_le zn.1
        have hc : c < tC T := by omega
        rw [hn] at ec
        obtain ⟨z0, z1, y1, y2⟩ := both_who hT h hc
        rw [y1, bd_some, im1] at ec
        -- the reference's first steps
        have em : x_X10_acts (iI k) (iI un) τ = (bd (x_X10_whoAt (iI c) τ) fun v17 => if v17 = (-1) then bd (x_X10_comes (iI k) (iI c) (iI un) τ) fun σ24 => some σ24 else if pos k = -3 then x_X10_acts_b201 (iI k) τ else bd (ldI (gA τ 20) (lenM 20) v17) fun v18 => if iI un < v18 then x_X10_acts_b201 (iI k) τ else bd (x_X10_nextOf v17 τ) fun v19 => if v19 = iI (pos k) then bd (x_X10_comes (iI k) (iI c) (iI un) τ) fun σ22 => bd (x_X10_comes v17 (iI (pos k)) (iI un) σ22) fun σ23 => some σ23 else x_X10_acts_b201 (iI k) τ) := by
          unfold x_X10_acts
          rw [f2, bd_some, bd_some, show (-2 : Int32) = iI (-2) from rfl]
          by_cases z : pos k = -3
          · rw [if_pos z, if_neg (by decide), if_pos (by decide), f1, bd_some, ← p4 z, if_pos zd, f5, bd_some, y2, bd_some]
            have tail : x_X10_acts_b56 (iI k) (iI un) (iI (c : Int)) τ = (if iI z0 = -1 then bd (x_X10_comes (iI k) (iI c) (iI un) τ) fun σ24 => some σ24 else x_X10_acts_b201 (iI k) τ) := by
              unfold x_X10_acts_b56 x_X10_acts_b201
              rw [y2, bd_some]
            have hn2 := hn
            unfold nx at hn2
            rw [if_pos z] at hn2
            by_cases y : lf k = true
            · rw [if_pos y] at hn2
              rw [if_pos y, if_pos rfl, show gI τ 8 = iI (tC T) from h.1.2.1.1, i1, iI_sub, hn2, if_pos z]; exact tail
            · rw [if_neg y] at hn2
              rw [if_neg y, if_neg (by decide), i0, hn2, if_pos z]; exact tail
          · rw [if_neg z, if_neg (fun q => z2 ((iI_inj ⟨by omega, by omega⟩ ⟨by omega, by omega⟩).mp q)), if_neg (fun q => by
              have := (iI_inj ⟨by omega, by omega⟩ ⟨by omega, by omega⟩).mp (q.trans im1)
              omega), f3, bd_some, ← p5 (by omega), if_pos zd, m_nx hT h hk (by omega), bd_some, if_pos zn, hn, if_neg (fun q => by
              have := (iI_inj ⟨by omega, by omega⟩ ⟨by omega, by omega⟩).mp (q.trans im1)
              omega), y2]
            simp only [bd_some, if_neg z]
        rw [y2, bd_some] at em
        rcases z1 with ⟨rfl, hno⟩ | ⟨w, w1, rfl, w2, w3⟩
        · rw [if_pos rfl] at ec
          rw [if_pos (by decide)] at em
          obtain ⟨σ2, τ2, s2, d, e1, e2, hB, fd, fe, x1, x2, x3, x4, x5, x6, x7, x8, x9, x10, x11⟩ := both_come (iI un) hT hk hc h.1
          rw [e1, bd_some] at ec
          rw [e2, bd_some] at em
          exact ⟨σ2, τ2, s2, updZ pos k c, ec, em, ⟨hB, h.2.come hk hc z2 x1 x2 x3 x4 x6 x7 x8 x9 x10⟩, fd, fe, x11, Or.inl x9, Or.inl x5⟩
        · have hw1 : ¬ iI (w : Int) = iI (-1) := fun q => by
            have := (iI_inj ⟨by omega, by omega⟩ ⟨by omega, by omega⟩).mp q
            omega
          rw [if_neg hw1, a41 w w1, bd_some] at ec
          rw [im1, if_neg hw1] at em
          obtain ⟨g1, g2, g3, g4, g5⟩ := m_first hT h w1
          obtain ⟨r1, r2, r3, r4, r5, r6, r7, r8⟩ := h.2.1 w w1
          have waits : (iI un < gA σ 41 w ∨ nx T lf pos w ≠ pos k) → x_X1_turn (iI k) (iI un) σ = x_X1_turn_b121 (iI k) σ → ∃ (σ2 τ2 : St) (s2 : Sk) (pos2 : Nat → Int), x_X1_turn (iI k) (iI un) σ = some σ2 ∧ x_X10_acts (iI k) (iI un) τ = some τ2 ∧ DayR σ2 τ2 T s2 lf pos2 ∧ FrD σ σ2 ∧ FrE τ τ2 ∧ (gI τ 19 = 1 → s2 = s) ∧ (gA τ2 24 = gA τ 24 ∨ gA τ2 24 = upd (gA τ 24) k (gA τ 24 k + 1)) ∧ (gI σ2 23 = 1 ∨ (gI σ2 23 = gI σ 23 ∧ pos2 = pos ∧ s2 = s ∧ ((Idl σ pos (iI un) k ∧ σ2 = σ ∧ τ2 = τ) ∨ (Wt σ T lf pos (iI un) k ∧ σ2 = sA σ 38 (upd (gA σ 38) k (gA σ 38 k + 1)) ∧ τ2 = sA τ 24 (upd (gA τ 24) k (gA τ 24 k + 1)))))) := by
            intro hlast ec2
            have hq : Wt σ T lf pos (iI un) k := ⟨z2, zd, c, w, hn, hc, w1, w2, w3, hlast⟩
            unfold x_X1_turn_b121 at ec2
            rw [f_add, bd_some, atF_in (show k < lenN 38 from (show k < 6 by omega)) (by decide), putF_in (show k < lenN 38 from (show k < 6 by omega)) (by decide)] at ec2
            exact ⟨_, _, s, pos, ec2, m_wait hT h hk hq, h.wait hk 1, FrD.sA (by omega), FrE.sA (by omega), fun _ => rfl, Or.inr (gA_sA _ _ _), Or.inr ⟨rfl, rfl, rfl, Or.inr ⟨hq, rfl, rfl⟩⟩⟩
          by_cases y : iI un < gA σ 41 w
          · rw [if_pos y] at ec
            exact waits (Or.inl y) ec
          · rw [if_neg y, c_nx hT h w1, bd_some] at ec
            by_cases y4 : nx T lf pos w = pos k
            · rw [y4, if_pos rfl] at ec
              have hpk : 0 ≤ pos k := by
                rw [← y4]
                by_cases y5 : pos k = -3
                · exfalso
                  rw [y5] at y4
                  unfold nx at y4
                  rw [if_neg (by omega)] at y4
                  by_cases y6 : lf w = true
                  · rw [if_pos y6] at y4; omega
                  · rw [if_neg y6] at y4; omega
                · omega
              obtain ⟨c2, hc2⟩ := Int.eq_ofNat_of_zero_le hpk
              rw [if_neg (by omega), g3, bd_some, ← r5 (by omega), if_neg y, m_nx hT h w1 (by omega), bd_some, y4, if_pos (show 0 ≤ pos k ∧ pos k < (tC T : Int) by omega), if_pos rfl] at em
              obtain ⟨σ2, τ2, s2, d, e1, e2, hB, fd, fe, x1, x2, x3, x4, x5, x6, x7, x8, x9, x10, x11⟩ := both_come (iI un) hT hk hc h.1
              have h2 : DayR σ2 τ2 T s2 lf (updZ pos k c) := ⟨hB, h.2.come hk hc z2 x1 x2 x3 x4 x6 x7 x8 x9 x10⟩
              obtain ⟨σ3, τ3, s3, d3, e13, e23, hB3, fd3, fe3, x13, x23, x33, x43, x53, x63, x73, x83, x93, x103, x113⟩ := both_come (c := c2) (iI un) hT w1 (by omega) hB
              have hw2 : updZ pos k c w ≠ -2 := by
                unfold updZ
                by_cases q : w = k
                · rw [if_pos q]; omega
                · rw [if_neg q]; omega
              rw [hc2, e1, bd_some, e13, bd_some] at ec
              rw [hc2, e2, bd_some, e23, bd_some] at em
              exact ⟨σ3, τ3, s3, updZ (updZ pos k c) w c2, ec, em, ⟨hB3, h2.2.come w1 (by omega) hw2 x13 x23 x33 x43 x63 x73 x83 x93 x103⟩, fd.trans fd3, fe.trans fe3, fun q => (x113 ((fe.1 19 (by omega)).trans q)).trans (x11 q), Or.inl (x93.trans x9), Or.inl x53⟩
            · have hnb2 : -1 ≤ nx T lf pos w ∧ nx T lf pos w ≤ 10 := by
                unfold nx
                rw [if_neg (by omega)]
                by_cases y6 : lf w = true
                · rw [if_pos y6]; omega
                · rw [if_neg y6]; omega
              rw [if_neg (fun q => y4 ((iI_inj ⟨by omega, by omega⟩ ⟨by omega, by omega⟩).mp q))] at ec
              exact waits (Or.inr y4) ec
      · -- leaves
        rw [if_neg zn, if_pos rfl] at ec
        have z3 : pos k ≠ -3 := by
          intro e
          apply zn
          unfold nx
          rw [if_pos e]
          by_cases y2 : lf k = true
          · rw [if_pos y2]; omega
          · rw [if_neg y2]; omega
        unfold x_X1_leave at ec
        rw [f_put, putF_in (show k < lenN 40 from (show k < 6 by omega)) (by decide), bd_some, f_put, putF_in (show k < lenN 39 from (show k < 6 by omega)) (by decide), bd_some, bd_some, bd_some, bd_some] at ec
        have em : x_X10_acts (iI k) (iI un) τ = some (sA (sA τ 19 (upd (gA τ 19) k (-2))) 25 (upd (gA τ 25) k (iI un))) := by
          unfold x_X10_acts
          rw [f2, if_neg z3, bd_some, bd_some, show (-2 : Int32) = iI (-2) from rfl, im1, if_neg (fun q => z2 ((iI_inj ⟨by omega, by omega⟩ ⟨by omega, by omega⟩).mp q)), if_neg (fun q => by
            have := (iI_inj ⟨by omega, by omega⟩ ⟨by omega, by omega⟩).mp q
            omega), f3, bd_some, ← p5 (by omega), if_pos zd, m_nx hT h hk (by omega), bd_some, if_neg zn, if_pos rfl, stI_in (show k < lenM 19 from (show k < 6 by omega)) (by decide), bd_some, stI_in (show k < lenM 25 from (show k < 6 by omega)) (by decide), bd_some]
          rfl
        have fd : FrD σ (sI (sI (sA (sA σ 40 (upd (gA σ 40) k (-2))) 39 (upd (gA (sA σ 40 (upd (gA σ 40) k (-2))) 39) k (iI un))) 20 (gI (sA (sA σ 40 (upd (gA σ 40) k (-2))) 39 (upd (gA (sA σ 40 (upd (gA σ 40) k (-2))) 39) k (iI un))) 20 - 1)) 23 1) := (((FrD.sA (by omega)).trans (FrD.sA (by omega))).trans (FrD.sI (by omega))).trans (FrD.sI (by omega))
        have fe : FrE τ (sA (sA τ 19 (upd (gA τ 19) k (-2))) 25 (upd (gA τ 25) k (iI un))) := (FrE.sA (by omega)).trans (FrE.sA (by omega))
        have hso := stays_out z2 (tL T) hk
        have hsl := stays_le pos (tL T)
        refine ⟨_, _, s, updZ pos k (-2), ec, em, ⟨h.1.eq fd fe (fun j hj => ?_) (fun j hj => ?_) ?_ ?_ ?_ ?_, fun q hq => ?_, fun q h1 h2 => ?_, ?_⟩, fd, fe, fun _ => rfl, Or.inl (by rw [gA_sAn _ (by omega), gA_sAn _ (by omega)]), Or.inl (gI_sI _ _ _)⟩
        · rw [gA_sI, gA_sI, gA_sAn _ (by omega), gA_sAn _ (by omega)]
        · rw [gA_sAn _ (by omega), gA_sAn _ (by omega)]
        · rw [gI_sIn _ (by omega), gI_sIn _ (by omega), gI_sA, gI_sA]
        · rfl
        · rfl
        · rw [gI_sIn _ (by omega), gI_sIn _ (by omega), gI_sA, gI_sA, gI_sA, gI_sA]; exact h.1.2.2.2.2.2.2.2.1
        · obtain ⟨r1, r2, r3, r4, r5, r6, r7, r8⟩ := h.2.1 q hq
          rw [gA_sI, gA_sI, gA_sAn _ (show 40 ≠ 39 by omega), gA_sA, gA_sAn _ (show 19 ≠ 25 by omega), gA_sA, gA_sI, gA_sI, gA_sAn _ (show 41 ≠ 39 by omega), gA_sAn _ (show 41 ≠ 40 by omega), gA_sAn _ (show 20 ≠ 25 by omega), gA_sAn _ (show 20 ≠ 19 by omega), gA_sI, gA_sI, gA_sAn _ (show 38 ≠ 39 by omega), gA_sAn _ (show 38 ≠ 40 by omega), gA_sAn _ (show 24 ≠ 25 by omega), gA_sAn _ (show 24 ≠ 19 by omega), gA_sI, gA_sI, gA_sA, gA_sAn _ (show 39 ≠ 40 by omega), gA_sA]
          unfold upd updZ
          by_cases e : q = k
          · subst e
            rw [if_pos rfl, if_pos rfl, if_pos rfl, if_pos rfl, if_pos rfl]
            refine ⟨rfl, rfl, by omega, fun a => by omega, fun a => by omega, r6, rfl, ?_⟩
            constructor
            · intro _ e2
              have := (iI_inj ⟨by omega, by omega⟩ ⟨by omega, by omega⟩).mp (e2.trans im1)
              omega
            · intro _; rfl
          · rw [if_neg e, if_neg e, if_neg e, if_neg e, if_neg e]
            exact ⟨r1, r2, r3, r4, r5, r6, r7, r8⟩
        · rw [gA_sI, gA_sI, gA_sAn _ (by omega), gA_sAn _ (by omega)]; exact h.2.2.1 q h1 h2
        · rw [gI_sIn _ (by omega), gI_sI, gI_sA, gI_sA, h.2.2.2, i1, iI_sub]
          congr 1
          omega
    · rw [if_neg zd] at ec
      have hq : Idl σ pos (iI un) k := Or.inr ⟨z2, Int32.not_le.mp zd⟩
      exact ⟨σ, τ, s, pos, ec, m_idle hT h hk hq, h, FrD.rfl, FrE.rfl, fun _ => rfl, Or.inl rfl, Or.inr ⟨rfl, rfl, rfl, Or.inl ⟨hq, rfl, rfl⟩⟩⟩
