/-! shop: what is cleared, copied, set -/
theorem fill_ex (j : Nat) (v : Int32) (σ : St) : ∃ F, x_X2_fill j v σ = some (sA σ j F) ∧ ∀ k, k < lenN j → F k = v := ⟨_, f_fill j v σ, fun k hk => if_pos hk⟩
theorem fillN_ex (j : Nat) (σ : St) : ∃ F, x_X2_fillByNumber j σ = some (sA σ j F) ∧ ∀ k, k < lenN j → F k = iI k := ⟨_, f_fillByNumber j σ, fun k hk => if_pos hk⟩
theorem copy_ex {j j1 : Nat} (σ : St) (hj : j1 ≠ j) (hl : lenN j = lenN j1) : ∃ F, x_X2_copy j j1 σ = some (sA σ j F) ∧ ∀ k, k < lenN j → F k = gA σ j1 k := ⟨_, f_copy j j1 hj hl σ, fun k hk => if_pos hk⟩
theorem fl_loop {b n : Nat} {τ : St} {g : Nat → Int32} {f : (Int32 × St) → Option (Bool × (Int32 × St))} (hb : n ≤ lenM b) (hn : n ≤ 192) (lb : lenM b < 2147483648) (hf : ∀ (i : Nat) (σ : St), i ≤ n → f (iI (i : Int), σ) = if n ≤ i then some (false, (iI (i : Int), σ)) else bd (stI σ b (lenM b) (iI (i : Int)) (g i)) fun σ4 => some (true, (iI (i : Int) + 1, σ4))) : ∃ G, lp f FU (0, τ) = some (iI (n : Int), sA τ b G) ∧ ∀ k, k < n → G k = g k := by
  have key := lp_inv (f := f) (fun i x => ∃ G, x = (iI (i : Nat), sA τ b G) ∧ ∀ k, k < i → G k = g k) (fun x => ∃ G, x = (iI (n : Int), sA τ b G) ∧ ∀ k, k < n → G k = g k) n FU (by unfold FU; omega) (fun i x hi hg => ?_) (fun x hg => ?_) (0, τ) ⟨gA τ b, by rw [sA_gA]; rfl, fun k hk => absurd hk (by omega)⟩
  · obtain ⟨x, e, G, rfl, hG⟩ := key
    exact ⟨G, e, hG⟩
  · obtain ⟨G, rfl, hG⟩ := hg
    refine ⟨(iI ((i + 1 : Nat) : Int), sA τ b (upd G i (g i))), ?_, _, rfl, fun k hk => ?_⟩
    · rw [hf i _ (by omega), if_neg (by omega), stI_in (show i < lenM b by omega) lb, bd_some, gA_sA, sA_sA, qa1]
      rfl
    · unfold upd
      by_cases e : k = i
      · rw [if_pos e, e]
      · rw [if_neg e]; exact hG k (by omega)
  · obtain ⟨G, rfl, hG⟩ := hg
    exact ⟨(iI (n : Int), sA τ b G), by rw [hf n _ (Nat.le_refl _), if_pos (Nat.le_refl _)], G, rfl, hG⟩
/-- the shop of no text -/
def T0 : Td := ((0, 0, 0, 5), (fun _ => 0), (fun _ _ => 0), (fun _ _ => 0), (fun f => (f : Int) - 1), (fun i => if i = 0 then 1 else 0))
theorem T0_ok : TdOk T0 := by
  refine ⟨by decide, by decide, by decide, by decide, fun _ => ⟨rfl, rfl⟩, fun c hc => absurd hc (by show ¬ c < 0; omega), fun c hc => absurd hc (by show ¬ c < 0; omega), fun c hc => absurd hc (by show ¬ c < 0; omega), fun f h1 h2 => ?_, fun i hi => ?_, by decide⟩
  · show 0 ≤ (f : Int) - 1 ∧ (f : Int) - 1 ≤ 8
    omega
  · show 0 ≤ (if i = 0 then (1 : Int) else 0) ∧ (if i = 0 then (1 : Int) else 0) ≤ 9
    split <;> omega
theorem c_clear {t : Nat} (ht : t < 2) (σ : St) : ∃ σ2, x_X7_clear t σ = some σ2 ∧ TdC t σ2 T0 ∧ (∀ k, ¬ (4 * t ≤ k ∧ k < 4 * t + 4) → gI σ2 k = gI σ k) ∧ (∀ j, ¬ (1 + 7 * t ≤ j ∧ j < 8 + 7 * t) → gA σ2 j = gA σ j) ∧ (∀ k, k < 24 → gA σ2 (1 + 7 * t + 2) k = -1) ∧ (∀ k : Nat, k < 24 → gA σ2 (1 + 7 * t + 3) k = iI k) ∧ (∀ k, k < 36 → gA σ2 (1 + 7 * t + 4) k = 0) := by
  have L2 : lenN (1 + 7 * t + 2) = 24 := (show ∀ t, t < 2 → lenN (1 + 7 * t + 2) = 24 by decide) t ht
  have L3 : lenN (1 + 7 * t + 3) = 24 := (show ∀ t, t < 2 → lenN (1 + 7 * t + 3) = 24 by decide) t ht
  have L4 : lenN (1 + 7 * t + 4) = 36 := (show ∀ t, t < 2 → lenN (1 + 7 * t + 4) = 36 by decide) t ht
  have L5 : lenN (1 + 7 * t + 5) = 9 := (show ∀ t, t < 2 → lenN (1 + 7 * t + 5) = 9 by decide) t ht
  have L6 : lenN (1 + 7 * t + 6) = 4 := (show ∀ t, t < 2 → lenN (1 + 7 * t + 6) = 4 by decide) t ht
  have i0 : gI (sI (sI (sI (sI σ (4 * t) 0) (4 * t + 1) 0) (4 * t + 2) 0) (4 * t + 3) 5) (4 * t) = 0 := by rw [gI_sIn _ (by omega), gI_sIn _ (by omega), gI_sIn _ (by omega), gI_sI]
  have i1 : gI (sI (sI (sI (sI σ (4 * t) 0) (4 * t + 1) 0) (4 * t + 2) 0) (4 * t + 3) 5) (4 * t + 1) = 0 := by rw [gI_sIn _ (by omega), gI_sIn _ (by omega), gI_sI]
  have i2 : gI (sI (sI (sI (sI σ (4 * t) 0) (4 * t + 1) 0) (4 * t + 2) 0) (4 * t + 3) 5) (4 * t + 2) = 0 := by rw [gI_sIn _ (by omega), gI_sI]
  have i3 : gI (sI (sI (sI (sI σ (4 * t) 0) (4 * t + 1) 0) (4 * t + 2) 0) (4 * t + 3) 5) (4 * t + 3) = 5 := gI_sI _ _ _
  have iI' : ∀ k, ¬ (4 * t ≤ k ∧ k < 4 * t + 4) → gI (sI (sI (sI (sI σ (4 * t) 0) (4 * t + 1) 0) (4 * t + 2) 0) (4 * t + 3) 5) k = gI σ k := fun k hk => by rw [gI_sIn _ (by omega), gI_sIn _ (by omega), gI_sIn _ (by omega), gI_sIn _ (by omega)]
  have iA' : ∀ j, gA (sI (sI (sI (sI σ (4 * t) 0) (4 * t + 1) 0) (4 * t + 2) 0) (4 * t + 3) 5) j = gA σ j := fun _ => rfl
  have ec : x_X7_clear t σ = x_X7_clear t σ := rfl
  conv at ec => rhs; unfold x_X7_clear
  rw [bd_some, bd_some, bd_some, bd_some] at ec
  generalize sI (sI (sI (sI σ (4 * t) 0) (4 * t + 1) 0) (4 * t + 2) 0) (4 * t + 3) 5 = σ4 at *
  obtain ⟨F0, e0, -⟩ := fill_ex (1 + 7 * t) 0 σ4
  obtain ⟨F1, e1, -⟩ := fill_ex (1 + 7 * t + 1) 0 (sA σ4 (1 + 7 * t) F0)
  obtain ⟨F2, e2, q2⟩ := fill_ex (1 + 7 * t + 2) (-1) (sA (sA σ4 (1 + 7 * t) F0) (1 + 7 * t + 1) F1)
  obtain ⟨F3, e3, q3⟩ := fillN_ex (1 + 7 * t + 3) (sA (sA (sA σ4 (1 + 7 * t) F0) (1 + 7 * t + 1) F1) (1 + 7 * t + 2) F2)
  obtain ⟨F4, e4, q4⟩ := fill_ex (1 + 7 * t + 4) 0 (sA (sA (sA (sA σ4 (1 + 7 * t) F0) (1 + 7 * t + 1) F1) (1 + 7 * t + 2) F2) (1 + 7 * t + 3) F3)
  rw [e0, bd_some, e1, bd_some, e2, bd_some, e3, bd_some, e4, bd_some] at ec
  have a2 : gA (sA (sA (sA (sA (sA σ4 (1 + 7 * t) F0) (1 + 7 * t + 1) F1) (1 + 7 * t + 2) F2) (1 + 7 * t + 3) F3) (1 + 7 * t + 4) F4) (1 + 7 * t + 2) = F2 := by rw [gA_sAn _ (by omega), gA_sAn _ (by omega), gA_sA]
  have a3 : gA (sA (sA (sA (sA (sA σ4 (1 + 7 * t) F0) (1 + 7 * t + 1) F1) (1 + 7 * t + 2) F2) (1 + 7 * t + 3) F3) (1 + 7 * t + 4) F4) (1 + 7 * t + 3) = F3 := by rw [gA_sAn _ (by omega), gA_sA]
  have a4 : gA (sA (sA (sA (sA (sA σ4 (1 + 7 * t) F0) (1 + 7 * t + 1) F1) (1 + 7 * t + 2) F2) (1 + 7 * t + 3) F3) (1 + 7 * t + 4) F4) (1 + 7 * t + 4) = F4 := gA_sA _ _ _
  have aA : ∀ j, ¬ (1 + 7 * t ≤ j ∧ j < 8 + 7 * t) → gA (sA (sA (sA (sA (sA σ4 (1 + 7 * t) F0) (1 + 7 * t + 1) F1) (1 + 7 * t + 2) F2) (1 + 7 * t + 3) F3) (1 + 7 * t + 4) F4) j = gA σ4 j := fun j hj => by rw [gA_sAn _ (by omega), gA_sAn _ (by omega), gA_sAn _ (by omega), gA_sAn _ (by omega), gA_sAn _ (by omega)]
  have aI : ∀ k, gI (sA (sA (sA (sA (sA σ4 (1 + 7 * t) F0) (1 + 7 * t + 1) F1) (1 + 7 * t + 2) F2) (1 + 7 * t + 3) F3) (1 + 7 * t + 4) F4) k = gI σ4 k := fun _ => rfl
  generalize sA (sA (sA (sA (sA σ4 (1 + 7 * t) F0) (1 + 7 * t + 1) F1) (1 + 7 * t + 2) F2) (1 + 7 * t + 3) F3) (1 + 7 * t + 4) F4 = σ9 at *
  have key := lp_run (f := fun v : (Int32 × St) => x_X7_clear_L61 t v.1 v.2) (fun i => (iI ((i + 1 : Nat) : Int), sA σ9 (1 + 7 * t + 5) (fun k => if 1 ≤ k ∧ k < i + 1 then iI ((k : Int) - 1) else gA σ9 (1 + 7 * t + 5) k))) (w := (iI ((9 : Nat) : Int), sA σ9 (1 + 7 * t + 5) (fun k => if 1 ≤ k ∧ k < 9 then iI ((k : Int) - 1) else gA σ9 (1 + 7 * t + 5) k))) 8 FU (by unfold FU; omega) (fun i hi => ?_) ?_
  · have s0 : sA σ9 (1 + 7 * t + 5) (fun k => if 1 ≤ k ∧ k < 0 + 1 then iI ((k : Int) - 1) else gA σ9 (1 + 7 * t + 5) k) = σ9 := by
      rw [show (fun k : Nat => if 1 ≤ k ∧ k < 0 + 1 then iI ((k : Int) - 1) else gA σ9 (1 + 7 * t + 5) k) = gA σ9 (1 + 7 * t + 5) from funext (fun k => if_neg (by omega)), sA_gA]
    simp only [s0] at key
    have key : lp (fun v : (Int32 × St) => x_X7_clear_L61 t v.1 v.2) FU (1, σ9) = _ := key
    rw [key, bd2_some] at ec
    obtain ⟨F6, e6, q6⟩ := fill_ex (1 + 7 * t + 6) 0 (sA σ9 (1 + 7 * t + 5) (fun k => if 1 ≤ k ∧ k < 9 then iI ((k : Int) - 1) else gA σ9 (1 + 7 * t + 5) k))
    rw [e6, bd_some, f_put, gA_sA, sA_sA, bd_some, L6] at ec
    have ep : putF F6 4 0 1 = upd F6 0 1 := putF_in (k := 0) (by omega) (by omega)
    rw [ep] at ec
    refine ⟨_, ec, ⟨(aI _).trans i0, (aI _).trans i1, (aI _).trans i2, (aI _).trans i3, fun c hc => absurd hc (by show ¬ c < 0; omega), fun k w hk => absurd hk (by show ¬ k < 0; omega), fun k hk => absurd hk (by show ¬ k < 0; omega), fun k w hk => absurd hk (by show ¬ k < 0; omega), fun f h1 h2 => ?_, fun i hi => ?_⟩, fun k hk => (aI k).trans (iI' k hk), fun j hj => ?_, fun k hk => ?_, fun k hk => ?_, fun k hk => ?_⟩
    · rw [gA_sAn _ (by omega), gA_sA]
      exact if_pos ⟨h1, by omega⟩
    · rw [gA_sA]
      show upd F6 0 1 i = iI (if i = 0 then 1 else 0)
      unfold upd
      by_cases c : i = 0
      · rw [if_pos c, if_pos c]; rfl
      · rw [if_neg c, if_neg c, q6 i (by omega)]; rfl
    · rw [gA_sAn _ (by omega), gA_sAn _ (by omega), aA j hj, iA']
    · rw [gA_sAn _ (by omega), gA_sAn _ (by omega), a2]; exact q2 k (by omega)
    · rw [gA_sAn _ (by omega), gA_sAn _ (by omega), a3]; exact q3 k (by omega)
    · rw [gA_sAn _ (by omega), gA_sAn _ (by omega), a4]; exact q4 k (by omega)
  · show x_X7_clear_L61 t (iI ((i + 1 : Nat) : Int)) _ = _
    unfold x_X7_clear_L61
    simp (disch := omega) only [qg8]
    rw [if_neg (by omega), f_put, bd_some, gA_sA, sA_sA, L5, putF_in (show i + 1 < 9 by omega) (by omega), qs1, qa1]
    congr 4
    funext k
    unfold upd
    by_cases e : k = i + 1
    · rw [if_pos e, if_pos (by omega), e]
    · rw [if_neg e]; exact ifc (by omega)
  · show x_X7_clear_L61 t (iI ((8 + 1 : Nat) : Int)) _ = _
    unfold x_X7_clear_L61
    simp (disch := omega) only [qg8]
    rw [if_pos (by omega)]
theorem m_clears (τ : St) : ∃ τ2, x_X10_clears τ = some τ2 ∧ TdM 1 τ2 T0 ∧ (∀ k, ¬ (12 ≤ k ∧ k ≤ 15) → gI τ2 k = gI τ k) ∧ (∀ j, ¬ (j = 12 ∨ j = 13 ∨ j = 15) → gA τ2 j = gA τ j) ∧ (∀ k : Nat, k < 24 → gA τ2 15 k = iI k) := by
  have i0 : gI (sI (sI (sI (sI τ 12 0) 13 0) 14 0) 15 5) 12 = 0 := by rw [gI_sIn _ (by omega), gI_sIn _ (by omega), gI_sIn _ (by omega), gI_sI]
  have i1 : gI (sI (sI (sI (sI τ 12 0) 13 0) 14 0) 15 5) 13 = 0 := by rw [gI_sIn _ (by omega), gI_sIn _ (by omega), gI_sI]
  have i2 : gI (sI (sI (sI (sI τ 12 0) 13 0) 14 0) 15 5) 14 = 0 := by rw [gI_sIn _ (by omega), gI_sI]
  have i3 : gI (sI (sI (sI (sI τ 12 0) 13 0) 14 0) 15 5) 15 = 5 := gI_sI _ _ _
  have iI' : ∀ k, ¬ (12 ≤ k ∧ k ≤ 15) → gI (sI (sI (sI (sI τ 12 0) 13 0) 14 0) 15 5) k = gI τ k := fun k hk => by rw [gI_sIn _ (by omega), gI_sIn _ (by omega), gI_sIn _ (by omega), gI_sIn _ (by omega)]
  have iA' : ∀ j, gA (sI (sI (sI (sI τ 12 0) 13 0) 14 0) 15 5) j = gA τ j := fun _ => rfl
  have ec : x_X10_clears τ = x_X10_clears τ := rfl
  conv at ec => rhs; unfold x_X10_clears
  rw [bd_some, bd_some, bd_some, bd_some] at ec
  generalize sI (sI (sI (sI τ 12 0) 13 0) 14 0) 15 5 = τ4 at *
  obtain ⟨A, a1, a2⟩ := fl_loop (b := 15) (n := 24) (τ := τ4) (g := fun i => iI (i : Int)) (f := fun v : (Int32 × St) => x_X10_clears_L22 v.1 v.2) (by decide) (by omega) (by decide) (fun i σ hi => by
    show x_X10_clears_L22 (iI (i : Int)) σ = _
    unfold x_X10_clears_L22
    rw [show (24 : Int32) = iI ((24 : Nat) : Int) from rfl]
    simp (disch := omega) only [iI_leD, Int.ofNat_le])
  obtain ⟨B, b1, b2⟩ := fl_loop (b := 12) (n := 9) (τ := sA τ4 15 A) (g := fun i => if i = 0 then 0 else iI ((i : Int) - 1)) (f := fun v : (Int32 × St) => x_X10_clears_L43 v.1 v.2) (by decide) (by omega) (by decide) (fun i σ hi => by
    show x_X10_clears_L43 (iI (i : Int)) σ = _
    unfold x_X10_clears_L43 x_X10_clears_b43_65
    rw [show (9 : Int32) = iI ((9 : Nat) : Int) from rfl]
    simp (disch := omega) only [iI_leD, Int.ofNat_le, qe0, qs1]
    by_cases c : i = 0
    · rw [if_pos (show (i : Int) = 0 by omega), if_pos c]
    · rw [if_neg (show ¬ (i : Int) = 0 by omega), if_neg c])
  obtain ⟨C, c1, c2⟩ := fl_loop (b := 13) (n := 4) (τ := sA (sA τ4 15 A) 12 B) (g := fun i => if i = 0 then 1 else 0) (f := fun v : (Int32 × St) => x_X10_clears_L74 v.1 v.2) (by decide) (by omega) (by decide) (fun i σ hi => by
    show x_X10_clears_L74 (iI (i : Int)) σ = _
    unfold x_X10_clears_L74 x_X10_clears_b74_93
    rw [show (4 : Int32) = iI ((4 : Nat) : Int) from rfl]
    simp (disch := omega) only [iI_leD, Int.ofNat_le, qe0]
    by_cases c : i = 0
    · rw [if_pos (show (i : Int) = 0 by omega), if_pos c]
    · rw [if_neg (show ¬ (i : Int) = 0 by omega), if_neg c])
  rw [a1, bd2_some, b1, bd2_some, c1, bd2_some] at ec
  refine ⟨_, ec, ⟨i0, i1, i2, i3, fun c hc => absurd hc (by show ¬ c < 0; omega), fun k w hk => absurd hk (by show ¬ k < 0; omega), fun k w hk => absurd hk (by show ¬ k < 0; omega), fun f h1 h2 => ?_, fun i hi => ?_⟩, iI', fun j hj => ?_, fun k hk => ?_⟩
  · show gA _ 12 f = iI ((f : Int) - 1)
    rw [gA_sAn _ (by omega), gA_sA, b2 f (by omega), if_neg (by omega)]
  · show gA _ 13 i = iI (if i = 0 then 1 else 0)
    rw [gA_sA, c2 i hi]
    split <;> rfl
  · rw [gA_sAn _ (by omega), gA_sAn _ (by omega), gA_sAn _ (by omega), iA']
  · rw [gA_sAn _ (by omega), gA_sAn _ (by omega), gA_sA, a2 k hk]
