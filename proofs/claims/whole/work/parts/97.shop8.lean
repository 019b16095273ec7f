/-! shop: a clause's word, on both sides -/
theorem m_isOther {w : Int32} {z : Int} (hz : -1 ≤ z ∧ z ≤ 8) (hw : ∀ k : Nat, k < 9 → (w = WO k ↔ z = k)) : x_X10_isOther w = some (if 1 ≤ z then 1 else 0) := by
  unfold x_X10_isOther
  rw [m_of (i := 1) (by decide), bd_some]
  by_cases q1 : z = 1
  · rw [if_pos ((hw 1 (by decide)).mpr q1), if_pos (by omega)]
  · rw [if_neg (fun q => q1 ((hw 1 (by decide)).mp q))]
    rw [m_of (i := 2) (by decide), bd_some]
    by_cases q2 : z = 2
    · rw [if_pos ((hw 2 (by decide)).mpr q2), if_pos (by omega)]
    · rw [if_neg (fun q => q2 ((hw 2 (by decide)).mp q))]
      rw [m_of (i := 3) (by decide), bd_some]
      by_cases q3 : z = 3
      · rw [if_pos ((hw 3 (by decide)).mpr q3), if_pos (by omega)]
      · rw [if_neg (fun q => q3 ((hw 3 (by decide)).mp q))]
        rw [m_of (i := 4) (by decide), bd_some]
        by_cases q4 : z = 4
        · rw [if_pos ((hw 4 (by decide)).mpr q4), if_pos (by omega)]
        · rw [if_neg (fun q => q4 ((hw 4 (by decide)).mp q))]
          rw [m_of (i := 5) (by decide), bd_some]
          by_cases q5 : z = 5
          · rw [if_pos ((hw 5 (by decide)).mpr q5), if_pos (by omega)]
          · rw [if_neg (fun q => q5 ((hw 5 (by decide)).mp q))]
            rw [m_of (i := 6) (by decide), bd_some]
            by_cases q6 : z = 6
            · rw [if_pos ((hw 6 (by decide)).mpr q6), if_pos (by omega)]
            · rw [if_neg (fun q => q6 ((hw 6 (by decide)).mp q))]
              rw [m_of (i := 7) (by decide), bd_some]
              by_cases q7 : z = 7
              · rw [if_pos ((hw 7 (by decide)).mpr q7), if_pos (by omega)]
              · rw [if_neg (fun q => q7 ((hw 7 (by decide)).mp q))]
                rw [m_of (i := 8) (by decide), bd_some]
                by_cases q8 : z = 8
                · rw [if_pos ((hw 8 (by decide)).mpr q8), if_pos (by omega)]
                · rw [if_neg (fun q => q8 ((hw 8 (by decide)).mp q))]
                  rw [if_neg (by omega)]
theorem bd_id {α : Type} (x : Option α) : (bd x fun v => some v) = x := by cases x <;> rfl
theorem both_other {n : Nat} {σ τ : St} {T : Td} {L : Nat → Int} {D : Nat → Nat} {k : Nat} (h : Md n true σ τ) (hd : DrR T L D σ τ) (hc1 : 1 ≤ tC T) (hk : 1 ≤ k ∧ k ≤ 8) (hS : k = 1 → tS T < 24) (hL : k = 4 → tL T < 6) : ClR n σ τ (x_X3_readNumbers (iI k) σ) (x_X10_readOther (WO k) τ) (fun T2 => 1 ≤ tC T2) := by
  have e : ∀ x, x_X3_readNumbers (iI k) σ = x → ClR n σ τ x (x_X10_readOther (WO k) τ) (fun T2 => 1 ≤ tC T2) → ClR n σ τ (x_X3_readNumbers (iI k) σ) (x_X10_readOther (WO k) τ) (fun T2 => 1 ≤ tC T2) := fun x q1 q2 => by rw [q1]; exact q2
  have hk8 : k = 1 ∨ k = 2 ∨ k = 3 ∨ k = 4 ∨ k = 5 ∨ k = 6 ∨ k = 7 ∨ k = 8 := by omega
  rcases hk8 with rfl | rfl | rfl | rfl | rfl | rfl | rfl | rfl
  · refine e (x_X3_readSleeve σ) ?_ (both_sleeve h hd hc1 (hS rfl))
    unfold x_X3_readNumbers
    rw [if_neg (by decide), if_pos (by decide), bd_id]
  · refine e (x_X3_readLies σ) ?_ (both_lies h hd hc1)
    unfold x_X3_readNumbers
    rw [if_neg (by decide), if_neg (by decide), if_pos (by decide), bd_id]
  · refine e (x_X3_readDisc σ) ?_ (both_disc h hd hc1)
    unfold x_X3_readNumbers
    rw [if_neg (by decide), if_neg (by decide), if_neg (by decide), if_pos (by decide), bd_id]
  · refine e (x_X3_readLooker σ) ?_ (both_looker h hd hc1 (hL rfl))
    unfold x_X3_readNumbers
    rw [if_neg (by decide), if_neg (by decide), if_neg (by decide), if_neg (by decide), if_pos (by decide), bd_id]
  · refine e (x_X3_readLeft σ) ?_ (both_left h hd hc1)
    unfold x_X3_readNumbers
    rw [if_neg (by decide), if_neg (by decide), if_neg (by decide), if_neg (by decide), if_neg (by decide), if_pos (by decide), bd_id]
  · refine e (x_X3_readMiss σ) ?_ (both_miss h hd hc1)
    unfold x_X3_readNumbers
    rw [if_neg (by decide), if_neg (by decide), if_neg (by decide), if_neg (by decide), if_neg (by decide), if_neg (by decide), if_pos (by decide), bd_id]
  · refine e (x_X3_readStop σ) ?_ (both_stop h hd hc1)
    unfold x_X3_readNumbers
    rw [if_neg (by decide), if_neg (by decide), if_neg (by decide), if_neg (by decide), if_neg (by decide), if_neg (by decide), if_neg (by decide), if_pos (by decide), bd_id]
  · refine e (x_X3_readBack σ) ?_ (both_back h hd hc1)
    unfold x_X3_readNumbers
    rw [if_neg (by decide), if_neg (by decide), if_neg (by decide), if_neg (by decide), if_neg (by decide), if_neg (by decide), if_neg (by decide), if_neg (by decide), bd_id]
theorem DrR.eq {T : Td} {L : Nat → Int} {D : Nat → Nat} {σ τ σ2 τ2 : St} (h : DrR T L D σ τ) (h1 : ∀ k, 4 ≤ k → k ≤ 7 → gI σ2 k = gI σ k) (h2 : ∀ j, 8 ≤ j → j ≤ 14 → gA σ2 j = gA σ j) (k1 : ∀ k, 12 ≤ k → k ≤ 15 → gI τ2 k = gI τ k) (k2 : ∀ j, 9 ≤ j → j ≤ 15 → gA τ2 j = gA τ j) : DrR T L D σ2 τ2 := by
  obtain ⟨hT, hC, hM, q⟩ := h
  refine ⟨hT, hC.eq (fun k _ _ => h1 k (by omega) (by omega)) (fun j _ _ => h2 j (by omega) (by omega)), hM.eq (fun k _ _ => k1 k (by omega) (by omega)) (fun j _ _ => k2 j (by omega) (by omega)), ?_⟩
  rw [h2 10 (by omega) (by omega), h2 11 (by omega) (by omega), h2 12 (by omega) (by omega), k2 14 (by omega) (by omega), k2 15 (by omega) (by omega)]
  exact q
/-- the reference's place behind a clause's word: a fault told, or none -/
def x200 (i : Nat) (ot w cr : Int32) (τ : St) : Option (Bool × (Int32 × Int32 × St)) := x_X10_shop_b46_200 (iI i) ot w cr τ
theorem both_fault {σ τ : St} {T : Td} {w ot : Int32} {z : Int} {i : Nat} (hT : TdOk T) (hC : TdC 1 σ T) (hM : TdM 1 τ T) (hi : i ≤ 60) (h16 : gI σ 16 = iI i) (hfl : (ot = 0 ∧ gI σ 17 = 1) ∨ (ot = 1 ∧ gI σ 17 = 0)) (hic : i = 0 ↔ tC T = 0) (hz : -1 ≤ z ∧ z ≤ 8) (hw : ∀ k : Nat, k < 9 → (w = WO k ↔ z = k)) (h4 : gI τ 4 = -1) :
    (∃ kd : Int32, kd ≠ 0 ∧ x_X3_faultOfWord (iI z) σ = some kd ∧ x_X10_shop_b46_81 (iI i) ot w (if z = 0 then 1 else 0) τ = x200 i ot w (if z = 0 then 1 else 0) (sI (sI τ 4 (gI τ 3)) 5 kd)) ∨
    (x_X3_faultOfWord (iI z) σ = some 0 ∧ x_X10_shop_b46_81 (iI i) ot w (if z = 0 then 1 else 0) τ = x200 i ot w (if z = 0 then 1 else 0) τ ∧ 0 ≤ z ∧ i < 60 ∧ (z = 0 → tC T < 8 ∧ ot = 0) ∧ (1 ≤ z → 1 ≤ tC T) ∧ (z = 1 → tS T < 24) ∧ (z = 4 → tL T < 6)) := by
  obtain ⟨t1, t2, t3, -⟩ := hT
  obtain ⟨s4, s5, s6⟩ := gI5 hC
  obtain ⟨s12, s13, s14⟩ := gI13 hM
  have e82 : x_X3_faultOfWord_b82 (iI z) σ = if z = 0 then (if gI σ 17 = 0 then some 4 else some 0) else some 0 := by
    unfold x_X3_faultOfWord_b82
    simp (disch := omega) only [qe0]
  have e63 : x_X3_faultOfWord_b63 (iI z) σ = if z = 4 then (if (tL T : Int) < 6 then x_X3_faultOfWord_b82 (iI z) σ else some 3) else x_X3_faultOfWord_b82 (iI z) σ := by
    unfold x_X3_faultOfWord_b63
    rw [s6]
    simp (disch := omega) only [qe4, ql6]
  have e46 : x_X3_faultOfWord_b46 (iI z) σ = if z = 1 then (if 24 ≤ (tS T : Int) then some 3 else x_X3_faultOfWord_b63 (iI z) σ) else x_X3_faultOfWord_b63 (iI z) σ := by
    unfold x_X3_faultOfWord_b46
    rw [s5]
    simp (disch := omega) only [qe1, qM24]
  have e21 : x_X3_faultOfWord_b21 (iI z) σ = if 60 ≤ (i : Int) then some 3 else if z = 0 then (if 8 ≤ (tC T : Int) then some 3 else x_X3_faultOfWord_b46 (iI z) σ) else x_X3_faultOfWord_b46 (iI z) σ := by
    unfold x_X3_faultOfWord_b21
    rw [h16, s4]
    simp (disch := omega) only [qe0, qM60, qM8]
  have ec : x_X3_faultOfWord (iI z) σ = if z = -1 then some 1 else if z = 0 then x_X3_faultOfWord_b21 (iI z) σ else if (tC T : Int) = 0 then some 1 else x_X3_faultOfWord_b21 (iI z) σ := by
    unfold x_X3_faultOfWord
    rw [s4]
    simp (disch := omega) only [qe0, qeM]
  rw [e21, e46, e63, e82] at ec
  have b170 : ∀ cr, x_X10_shop_b46_170 (iI i) ot w cr τ = x200 i ot w cr (sI (sI τ 4 (gI τ 3)) 5 3) := fun cr => by
    unfold x_X10_shop_b46_170
    rw [m_wrong1 h4, bd_some]; rfl
  have b100 : ∀ cr, x_X10_shop_b46_100 (iI i) ot w cr τ = x200 i ot w cr (sI (sI τ 4 (gI τ 3)) 5 1) := fun cr => by
    unfold x_X10_shop_b46_100
    rw [m_wrong1 h4, bd_some]; rfl
  have e182 : ∀ cr, x_X10_shop_b46_182 (iI i) ot w cr τ = if cr = 0 then x200 i ot w cr τ else if ot = 0 then x200 i ot w cr τ else x200 i ot w cr (sI (sI τ 4 (gI τ 3)) 5 4) := fun cr => by
    unfold x_X10_shop_b46_182
    rw [m_wrong1 h4, bd_some]; rfl
  have e151 : ∀ cr, x_X10_shop_b46_151 (iI i) ot w cr τ = if w = WO 4 then (if (tL T : Int) = 6 then x200 i ot w cr (sI (sI τ 4 (gI τ 3)) 5 3) else x_X10_shop_b46_182 (iI i) ot w cr τ) else x_X10_shop_b46_182 (iI i) ot w cr τ := fun cr => by
    unfold x_X10_shop_b46_151
    rw [m_of (i := 4) (by decide), bd_some, s14, b170]
    simp (disch := omega) only [qe6]
  have e132 : ∀ cr, x_X10_shop_b46_132 (iI i) ot w cr τ = if w = WO 1 then (if (tS T : Int) = 24 then x200 i ot w cr (sI (sI τ 4 (gI τ 3)) 5 3) else x_X10_shop_b46_151 (iI i) ot w cr τ) else x_X10_shop_b46_151 (iI i) ot w cr τ := fun cr => by
    unfold x_X10_shop_b46_132
    rw [m_of (i := 1) (by decide), bd_some, s13, b170]
    simp (disch := omega) only [qe24]
  have e112 : ∀ cr, x_X10_shop_b46_112 (iI i) ot w cr τ = if (i : Int) = 60 then x200 i ot w cr (sI (sI τ 4 (gI τ 3)) 5 3) else if cr = 0 then x_X10_shop_b46_132 (iI i) ot w cr τ else if (tC T : Int) = 8 then x200 i ot w cr (sI (sI τ 4 (gI τ 3)) 5 3) else x_X10_shop_b46_132 (iI i) ot w cr τ := fun cr => by
    unfold x_X10_shop_b46_112
    rw [s12, b170]
    simp (disch := omega) only [qe60, qe8]
  have em : ∀ cr, x_X10_shop_b46_81 (iI i) ot w cr τ = if cr = 0 then (if (if 1 ≤ z then (1 : Int32) else 0) = 0 then x200 i ot w cr (sI (sI τ 4 (gI τ 3)) 5 1) else if (i : Int) = 0 then x200 i ot w cr (sI (sI τ 4 (gI τ 3)) 5 1) else x_X10_shop_b46_112 (iI i) ot w cr τ) else x_X10_shop_b46_112 (iI i) ot w cr τ := fun cr => by
    unfold x_X10_shop_b46_81
    rw [m_isOther hz hw, bd_some, b100]
    simp (disch := omega) only [qe0]
  simp only [e112, e132, e151, e182] at em
  rcases (show z = -1 ∨ z = 0 ∨ 1 ≤ z by omega) with rfl | rfl | hz1
  · left
    rw [if_pos rfl] at ec
    refine ⟨1, by decide, ec, ?_⟩
    rw [if_neg (by omega), em 0, if_pos rfl, if_neg (show ¬ (1 : Int) ≤ -1 by omega), if_pos rfl]
  · have hn1 : ¬ w = WO 1 := fun q => absurd ((hw 1 (by decide)).mp q) (by decide)
    have hn4 : ¬ w = WO 4 := fun q => absurd ((hw 4 (by decide)).mp q) (by decide)
    rw [if_neg (by omega), if_pos rfl] at ec
    have em1 := em 1
    rw [if_neg (by decide)] at em1
    rw [if_pos rfl]
    by_cases c1 : i = 60
    · left
      rw [if_pos (by omega)] at ec
      rw [if_pos (by omega)] at em1
      exact ⟨3, by decide, ec, em1⟩
    · rw [if_neg (by omega), if_pos rfl] at ec
      rw [if_neg (by omega), if_neg (by decide)] at em1
      by_cases c2 : tC T = 8
      · left
        rw [if_pos (by omega)] at ec
        rw [if_pos (by omega)] at em1
        exact ⟨3, by decide, ec, em1⟩
      · rw [if_neg (by omega), if_neg (by omega), if_neg (by omega), if_pos rfl] at ec
        rw [if_neg (by omega), if_neg hn1, if_neg hn4, if_neg (by decide)] at em1
        rcases hfl with ⟨f1, f2⟩ | ⟨f1, f2⟩
        · right
          rw [f2, if_neg (by decide)] at ec
          rw [if_pos f1] at em1
          exact ⟨ec, em1, by omega, by omega, fun _ => ⟨by omega, f1⟩, fun q => absurd q (by omega), fun q => absurd q (by omega), fun q => absurd q (by omega)⟩
        · left
          rw [f2, if_pos rfl] at ec
          rw [if_neg (by rw [f1]; decide)] at em1
          exact ⟨4, by decide, ec, em1⟩
  · rw [if_neg (by omega), if_neg (by omega)] at ec
    have em1 := em 0
    rw [if_pos rfl, if_pos hz1, if_neg (show ¬ (1 : Int32) = 0 by decide)] at em1
    rw [if_neg (show ¬ z = 0 by omega)]
    by_cases c0 : tC T = 0
    · left
      rw [if_pos (by omega)] at ec
      rw [if_pos (by have := hic.mpr c0; omega)] at em1
      exact ⟨1, by decide, ec, em1⟩
    · rw [if_neg (by omega)] at ec
      rw [if_neg (by have : ¬ i = 0 := fun q => c0 (hic.mp q); omega)] at em1
      by_cases c1 : i = 60
      · left
        rw [if_pos (by omega)] at ec
        rw [if_pos (by omega)] at em1
        exact ⟨3, by decide, ec, em1⟩
      · rw [if_neg (by omega), if_neg (by omega)] at ec
        rw [if_neg (by omega), if_pos rfl, if_pos rfl] at em1
        by_cases c2 : z = 1
        · have hw1 : w = WO 1 := (hw 1 (by decide)).mpr c2
          have hn4 : ¬ w = WO 4 := fun q => absurd ((hw 4 (by decide)).mp q) (by omega)
          rw [if_pos c2] at ec
          rw [if_pos hw1] at em1
          by_cases c3 : tS T = 24
          · left
            rw [if_pos (by omega)] at ec
            rw [if_pos (by omega)] at em1
            exact ⟨3, by decide, ec, em1⟩
          · right
            rw [if_neg (by omega), if_neg (by omega), if_neg (by omega)] at ec
            rw [if_neg (by omega), if_neg hn4] at em1
            exact ⟨ec, em1, by omega, by omega, fun q => absurd q (by omega), fun _ => by omega, fun _ => by omega, fun q => absurd q (by omega)⟩
        · have hn1 : ¬ w = WO 1 := fun q => c2 ((hw 1 (by decide)).mp q)
          rw [if_neg c2] at ec
          rw [if_neg hn1] at em1
          by_cases c4 : z = 4
          · have hw4 : w = WO 4 := (hw 4 (by decide)).mpr c4
            rw [if_pos c4] at ec
            rw [if_pos hw4] at em1
            by_cases c5 : tL T = 6
            · left
              rw [if_neg (by omega)] at ec
              rw [if_pos (by omega)] at em1
              exact ⟨3, by decide, ec, em1⟩
            · right
              rw [if_pos (by omega), if_neg (by omega)] at ec
              rw [if_neg (by omega)] at em1
              exact ⟨ec, em1, by omega, by omega, fun q => absurd q (by omega), fun _ => by omega, fun q => absurd q (by omega), fun _ => by omega⟩
          · have hn4 : ¬ w = WO 4 := fun q => c4 ((hw 4 (by decide)).mp q)
            right
            rw [if_neg c4, if_neg (by omega)] at ec
            rw [if_neg hn4] at em1
            exact ⟨ec, em1, by omega, by omega, fun q => absurd q (by omega), fun _ => by omega, fun q => absurd q (by omega), fun q => absurd q (by omega)⟩
