/-! what the reference keeps and takes back -/
theorem cp_loop {a b n : Nat} {τ : St} {f : (Int32 × St) → Option (Bool × (Int32 × St))} (hab : a ≠ b) (ha : n ≤ lenM a) (hb : n ≤ lenM b) (hn : n ≤ 192) (la : lenM a < 2147483648) (lb : lenM b < 2147483648) (hf : ∀ (i : Nat) (σ : St), i ≤ n → f (iI (i : Int), σ) = if n ≤ i then some (false, (iI (i : Int), σ)) else bd (ldI (gA σ a) (lenM a) (iI (i : Int))) fun v => bd (stI σ b (lenM b) (iI (i : Int)) v) fun σ4 => some (true, (iI (i : Int) + 1, σ4))) : ∃ G, lp f FU (0, τ) = some (iI (n : Int), sA τ b G) ∧ ∀ k, k < n → G k = gA τ a k := by
  have key := lp_inv (f := f) (fun i x => ∃ G, x = (iI (i : Nat), sA τ b G) ∧ ∀ k, k < i → G k = gA τ a k) (fun x => ∃ G, x = (iI (n : Int), sA τ b G) ∧ ∀ k, k < n → G k = gA τ a k) n FU (by unfold FU; omega) (fun i x hi hg => ?_) (fun x hg => ?_) (0, τ) ⟨gA τ b, by rw [sA_gA]; rfl, fun k hk => absurd hk (by omega)⟩
  · obtain ⟨x, e, G, rfl, hG⟩ := key
    exact ⟨G, e, hG⟩
  · obtain ⟨G, rfl, hG⟩ := hg
    refine ⟨(iI ((i + 1 : Nat) : Int), sA τ b (upd G i (gA τ a i))), ?_, _, rfl, fun k hk => ?_⟩
    · rw [hf i _ (by omega), if_neg (by omega), ldI_in (show i < lenM a by omega) la, bd_some, stI_in (show i < lenM b by omega) lb, bd_some, gA_sAn _ hab, gA_sA, sA_sA, qa1]
      rfl
    · unfold upd
      by_cases e : k = i
      · rw [if_pos e, e]
      · rw [if_neg e]; exact hG k (by omega)
  · obtain ⟨G, rfl, hG⟩ := hg
    exact ⟨(iI (n : Int), sA τ b G), by rw [hf n _ (Nat.le_refl _), if_pos (Nat.le_refl _)], G, rfl, hG⟩
theorem m_keeps (τ : St) : ∃ A B C, x_X10_keeps τ = some (sA (sA (sA τ 28 A) 29 B) 30 C) ∧ (∀ k, k < 192 → A k = gA τ 17 k) ∧ (∀ k, k < 8 → B k = gA τ 16 k) ∧ (∀ k, k < 24 → C k = gA τ 7 k) := by
  obtain ⟨A, a1, a2⟩ := cp_loop (a := 17) (b := 28) (n := 192) (τ := τ) (f := fun v : (Int32 × St) => x_X10_keeps_L2 v.1 v.2) (by omega) (by decide) (by decide) (by omega) (by decide) (by decide) (fun i σ hi => by
    show x_X10_keeps_L2 (iI (i : Int)) σ = _
    unfold x_X10_keeps_L2
    rw [show (192 : Int32) = iI ((192 : Nat) : Int) from rfl]
    simp (disch := omega) only [iI_leD, Int.ofNat_le])
  obtain ⟨B, b1, b2⟩ := cp_loop (a := 16) (b := 29) (n := 8) (τ := sA τ 28 A) (f := fun v : (Int32 × St) => x_X10_keeps_L29 v.1 v.2) (by omega) (by decide) (by decide) (by omega) (by decide) (by decide) (fun i σ hi => by
    show x_X10_keeps_L29 (iI (i : Int)) σ = _
    unfold x_X10_keeps_L29
    rw [show (8 : Int32) = iI ((8 : Nat) : Int) from rfl]
    simp (disch := omega) only [iI_leD, Int.ofNat_le])
  obtain ⟨C, c1, c2⟩ := cp_loop (a := 7) (b := 30) (n := 24) (τ := sA (sA τ 28 A) 29 B) (f := fun v : (Int32 × St) => x_X10_keeps_L55 v.1 v.2) (by omega) (by decide) (by decide) (by omega) (by decide) (by decide) (fun i σ hi => by
    show x_X10_keeps_L55 (iI (i : Int)) σ = _
    unfold x_X10_keeps_L55
    rw [show (24 : Int32) = iI ((24 : Nat) : Int) from rfl]
    simp (disch := omega) only [iI_leD, Int.ofNat_le])
  refine ⟨A, B, C, ?_, a2, fun k hk => by rw [b2 k hk, gA_sAn _ (by omega)], fun k hk => by rw [c2 k hk, gA_sAn _ (by omega), gA_sAn _ (by omega)]⟩
  unfold x_X10_keeps
  rw [a1, bd2_some, b1, bd2_some, c1, bd2_some]
theorem m_backs (τ : St) : ∃ A B C, x_X10_back τ = some (sA (sA (sA τ 17 A) 16 B) 7 C) ∧ (∀ k, k < 192 → A k = gA τ 28 k) ∧ (∀ k, k < 8 → B k = gA τ 29 k) ∧ (∀ k, k < 24 → C k = gA τ 30 k) := by
  obtain ⟨A, a1, a2⟩ := cp_loop (a := 28) (b := 17) (n := 192) (τ := τ) (f := fun v : (Int32 × St) => x_X10_back_L2 v.1 v.2) (by omega) (by decide) (by decide) (by omega) (by decide) (by decide) (fun i σ hi => by
    show x_X10_back_L2 (iI (i : Int)) σ = _
    unfold x_X10_back_L2
    rw [show (192 : Int32) = iI ((192 : Nat) : Int) from rfl]
    simp (disch := omega) only [iI_leD, Int.ofNat_le])
  obtain ⟨B, b1, b2⟩ := cp_loop (a := 29) (b := 16) (n := 8) (τ := sA τ 17 A) (f := fun v : (Int32 × St) => x_X10_back_L29 v.1 v.2) (by omega) (by decide) (by decide) (by omega) (by decide) (by decide) (fun i σ hi => by
    show x_X10_back_L29 (iI (i : Int)) σ = _
    unfold x_X10_back_L29
    rw [show (8 : Int32) = iI ((8 : Nat) : Int) from rfl]
    simp (disch := omega) only [iI_leD, Int.ofNat_le])
  obtain ⟨C, c1, c2⟩ := cp_loop (a := 30) (b := 7) (n := 24) (τ := sA (sA τ 17 A) 16 B) (f := fun v : (Int32 × St) => x_X10_back_L55 v.1 v.2) (by omega) (by decide) (by decide) (by omega) (by decide) (by decide) (fun i σ hi => by
    show x_X10_back_L55 (iI (i : Int)) σ = _
    unfold x_X10_back_L55
    rw [show (24 : Int32) = iI ((24 : Nat) : Int) from rfl]
    simp (disch := omega) only [iI_leD, Int.ofNat_le])
  refine ⟨A, B, C, ?_, a2, fun k hk => by rw [b2 k hk, gA_sAn _ (by omega)], fun k hk => by rw [c2 k hk, gA_sAn _ (by omega), gA_sAn _ (by omega)]⟩
  unfold x_X10_back
  rw [a1, bd2_some, b1, bd2_some, c1, bd2_some]
