/-! a day: how it begins -/
def lfT (T : Td) (k : Nat) : Bool := decide (tLk T k 5 = 1)
theorem c_leftBits {σ : St} {T : Td} (hT : TdOk T) (hC : TdC 0 σ T) : ∃ b, x_X7_leftBits 0 σ = some b ∧ ∀ k, k < tL T → x_X9_hasBit b (iI k) = some (if lfT T k then 1 else 0) := by
  have hL6 := hT.2.2.1
  have key := lp_inv (f := fun v : (Int32 × Int32) => x_X7_leftBits_L4 0 σ v.1 v.2) (fun i x => ∃ b, x = (b, iI (i : Nat)) ∧ ∀ c, c < 32 → bt1 b c = decide (c < i ∧ tLk T c 5 = 1)) (fun x => ∃ b, x = (b, iI (tL T)) ∧ ∀ c, c < 32 → bt1 b c = decide (c < tL T ∧ tLk T c 5 = 1)) (tL T) FU (by unfold FU; omega) (fun i x hi hg => ?_) (fun x hg => ?_) (0, 0) ⟨0, rfl, fun c _ => by rw [bt_zero, decide_eq_false (by omega)]⟩
  · obtain ⟨x2, e1, b, rfl, hb⟩ := key
    refine ⟨b, ?_, fun k hk => ?_⟩
    · unfold x_X7_leftBits
      rw [e1]; rfl
    · rw [c_hasBit (by omega), hb k (by omega)]
      unfold lfT
      by_cases z : tLk T k 5 = 1
      · rw [decide_eq_true (show k < tL T ∧ tLk T k 5 = 1 from ⟨hk, z⟩), decide_eq_true z]
      · rw [decide_eq_false (fun q => z q.2), decide_eq_false z]
  · obtain ⟨b, rfl, hb⟩ := hg
    have hlk := hT.2.2.2.2.2.2.2.1 i hi
    have hsh : (0 : Int32) <<< (iI (i : Int) &&& 31) = 0 := (show ∀ k, k < 6 → (0 : Int32) <<< (iI ((k : Nat) : Int) &&& 31) = 0 by decide) i (by omega)
    have ec : x_X7_leftBits_L4 0 σ b (iI (i : Int)) = some (true, (b ||| (iI (tLk T i 5) <<< (iI (i : Int) &&& 31)), iI ((i + 1 : Nat) : Int))) := by
      unfold x_X7_leftBits_L4
      rw [show gI σ (4 * 0 + 2) = iI (tL T) from hC.2.2.1]
      simp (disch := omega) only [iI_leD]
      rw [if_neg (by omega), show x_X7_ofLooker 0 (iI (i : Int)) 5 σ = _ from c_ofLooker (w := 5) (by omega) hC hT hi (by omega), bd_some, qa1]
      rfl
    refine ⟨_, ec, _, rfl, fun c hc => ?_⟩
    rw [bt_or, hb c hc]
    by_cases z : tLk T i 5 = 1
    · rw [z, show iI 1 = (1 : Int32) from rfl, bt_shl (by omega) hc, ← Bool.decide_or]
      refine decide_eq_decide.mpr ?_
      constructor
      · rintro (a | rfl)
        · exact ⟨by omega, a.2⟩
        · exact ⟨by omega, z⟩
      · rintro ⟨a, b⟩
        by_cases y : i = c
        · exact Or.inr y
        · exact Or.inl ⟨by omega, b⟩
    · rw [show tLk T i 5 = 0 from by omega, show iI 0 = (0 : Int32) from rfl, hsh, bt_zero, Bool.or_false]
      refine decide_eq_decide.mpr ?_
      constructor
      · rintro ⟨a, b⟩; exact ⟨by omega, b⟩
      · rintro ⟨a, b⟩
        refine ⟨?_, b⟩
        by_cases y : c = i
        · rw [y] at b; exact absurd b z
        · omega
  · obtain ⟨b, rfl, hb⟩ := hg
    refine ⟨(b, iI (tL T)), ?_, b, rfl, hb⟩
    show x_X7_leftBits_L4 _ _ _ _ = _
    unfold x_X7_leftBits_L4
    rw [show gI σ (4 * 0 + 2) = iI (tL T) from hC.2.2.1, if_pos (Int32.le_refl _)]
theorem c_begin {σ : St} {T : Td} {s : Sk} (hT : TdOk T) (hC : TdC 0 σ T) (hSC : SkC σ 0 s) : ∃ σ2, x_X1_begin σ = some σ2 ∧ SkC σ2 4 s ∧ FrD σ σ2 ∧ gI σ2 18 = 0 ∧ gI σ2 20 = iI (tL T) ∧ gI σ2 21 = gI σ 21 ∧ ∀ k, k < 6 → gA σ2 36 k = 0 ∧ gA σ2 37 k = 0 ∧ gA σ2 38 k = 0 ∧ gA σ2 39 k = -1 ∧ gA σ2 40 k = -3 ∧ (k < tL T → gA σ2 41 k = iI (tLk T k 0)) := by
  have hL6 := hT.2.2.1
  obtain ⟨σ1, e1, f1, k1⟩ := c_copyS (σ := σ) (t := 4) (t1 := 0) (by omega) (by omega) (by omega)
  have s1 := k1 s hSC
  have fd1 : FrD σ σ1 := ⟨fun k _ => f1.1 k, fun j hj => f1.2.1 j (by omega)⟩
  have i21 : gI σ1 21 = gI σ 21 := f1.1 21
  let F (j : Nat) (v : Int32) (g : Nat → Int32) : Nat → Int32 := fun k => if k < lenN j then v else g k
  have hC1 := hC.frd fd1
  let σ7 : St := sA (sI (sA (sA (sA (sA σ1 36 (F 36 0 (gA σ1 36))) 37 (F 37 0 (gA σ1 37))) 38 (F 38 0 (gA σ1 38))) 39 (F 39 (-1) (gA σ1 39))) 18 0) 40 (F 40 (-3) (gA σ1 40))
  have fd7 : FrD σ1 σ7 := (((((FrD.sA (by omega)).trans (FrD.sA (by omega))).trans (FrD.sA (by omega))).trans (FrD.sA (by omega))).trans (FrD.sI (by omega))).trans (FrD.sA (by omega))
  have hC7 := hC1.frd fd7
  have key := lp_inv (f := fun v : (Int32 × St) => x_X1_begin_L59 v.1 v.2) (fun i x => ∃ G, x = (iI (i : Nat), sA σ7 41 G) ∧ ∀ k, k < i → G k = iI (tLk T k 0)) (fun x => ∃ G, x = (iI (tL T), sA σ7 41 G) ∧ ∀ k, k < tL T → G k = iI (tLk T k 0)) (tL T) FU (by unfold FU; omega) (fun i x hi hg => ?_) (fun x hg => ?_) (0, σ7) ⟨gA σ7 41, by rw [sA_gA]; rfl, fun k hk => absurd hk (by omega)⟩
  · obtain ⟨x2, e2, G, rfl, hG⟩ := key
    refine ⟨sI (sA σ7 41 G) 20 (iI (tL T)), ?_, ?_, (fd1.trans fd7).trans ((FrD.sA (by omega)).trans (FrD.sI (by omega))), ?_, gI_sI _ _ _, ?_, fun k hk => ⟨?_, ?_, ?_, ?_, ?_, fun hk2 => ?_⟩⟩
    · unfold x_X1_begin
      rw [e1, bd_some, f_fill, bd_some, f_fill, bd_some, f_fill, bd_some, f_fill, bd_some, bd_some, f_fill, bd_some]
      have e2 : lp (fun v : (Int32 × St) => x_X1_begin_L59 v.1 v.2) FU (0, σ7) = some (iI (tL T), sA σ7 41 G) := e2
      have e3 : gI (sA σ7 41 G) 2 = iI (tL T) := hC7.2.2.1
      show bd2 (lp (fun v : (Int32 × St) => x_X1_begin_L59 v.1 v.2) FU (0, σ7)) _ = _
      rw [e2, bd2_some, bd_some, e3]
    · refine s1.eq (fun j h1 h2 => ?_)
      show gA (sA σ7 41 G) j = _
      rw [gA_sAn _ (by omega)]
      show gA (sA _ 40 _) j = _
      rw [gA_sAn _ (by omega), gA_sI, gA_sAn _ (by omega), gA_sAn _ (by omega), gA_sAn _ (by omega), gA_sAn _ (by omega)]
    · rw [gI_sIn _ (by omega)]; rfl
    · rw [gI_sIn _ (by omega)]; exact i21
    · exact if_pos (show k < 6 from hk)
    · exact if_pos (show k < 6 from hk)
    · exact if_pos (show k < 6 from hk)
    · exact if_pos (show k < 6 from hk)
    · exact if_pos (show k < 6 from hk)
    · show gA (sA σ7 41 G) 41 k = _
      rw [gA_sA]; exact hG k hk2
  · obtain ⟨G, rfl, hG⟩ := hg
    refine ⟨(iI ((i + 1 : Nat) : Int), sA σ7 41 (upd G i (iI (tLk T i 0)))), ?_, _, rfl, fun k hk => ?_⟩
    · show x_X1_begin_L59 (iI (i : Int)) (sA σ7 41 G) = _
      unfold x_X1_begin_L59
      rw [show gI (sA σ7 41 G) 2 = iI (tL T) from hC7.2.2.1]
      simp (disch := omega) only [iI_leD]
      rw [if_neg (by omega), show x_X7_ofLooker 0 (iI (i : Int)) 0 (sA σ7 41 G) = _ from c_ofLooker (w := 0) (by omega) (hC7.frd (FrD.sA (by omega))) hT hi (by omega), bd_some, f_put, putF_in (show i < lenN 41 from (show i < 6 by omega)) (by decide), bd_some, qa1, gA_sA, sA_sA]
      rfl
    · unfold upd
      by_cases e : k = i
      · rw [if_pos e, e]
      · rw [if_neg e]; exact hG k (by omega)
  · obtain ⟨G, rfl, hG⟩ := hg
    refine ⟨(iI (tL T), sA σ7 41 G), ?_, G, rfl, hG⟩
    show x_X1_begin_L59 _ _ = _
    unfold x_X1_begin_L59
    rw [show gI (sA σ7 41 G) 2 = iI (tL T) from hC7.2.2.1, if_pos (Int32.le_refl _)]
