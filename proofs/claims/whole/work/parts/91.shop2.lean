/-! shop: a number, and a clause's end -/
theorem Md.mt {n : Nat} {σ τ : St} (h : Md n true σ τ) : MdC n σ τ ∧ ∃ a a' b : Nat, a ≤ n ∧ a' ≤ n ∧ gI σ 13 = iI a ∧ gI τ 3 = iI a' ∧ gI σ 15 = 0 ∧ gI τ 4 = -1 ∧ gI σ 11 = -1 ∧ Run (fun k => gA σ 0 k = 32) n a b ∧ Run (fun k => gA σ 0 k = 32) n a' b := by
  obtain ⟨hc, a, a', ha, ha', h13, h3, hm⟩ := h
  rw [if_pos rfl] at hm
  obtain ⟨q1, q2, q3, b, q4, q5⟩ := hm
  exact ⟨hc, a, a', b, ha, ha', h13, h3, q1, q2, q3, q4, q5⟩
theorem Md.mf {n : Nat} {σ τ : St} (h : Md n false σ τ) : MdC n σ τ ∧ ∃ a a' : Nat, a ≤ n ∧ a' ≤ n ∧ gI σ 13 = iI a ∧ gI τ 3 = iI a' ∧ MdF σ τ := by
  obtain ⟨hc, a, a', ha, ha', h13, h3, hm⟩ := h
  rw [if_neg (by decide)] at hm
  exact ⟨hc, a, a', ha, ha', h13, h3, hm⟩
theorem c_blame1 {σ : St} {w p : Int32} (h : gI σ 15 = 0) : x_X3_blame w p σ = some (sI (sI σ 15 w) 11 p) := by
  unfold x_X3_blame
  rw [if_pos h, bd_some, bd_some]
theorem c_blame0 {σ : St} {w p : Int32} (h : gI σ 15 ≠ 0) : x_X3_blame w p σ = some σ := by
  unfold x_X3_blame
  rw [if_neg h]
theorem m_wrong1 {τ : St} {w p : Int32} (h : gI τ 4 = -1) : x_X10_wrong w p τ = some (sI (sI τ 4 p) 5 w) := by
  unfold x_X10_wrong
  rw [if_pos h, bd_some, bd_some]
theorem m_wrong0 {τ : St} {w p : Int32} (h : gI τ 4 ≠ -1) : x_X10_wrong w p τ = some τ := by
  unfold x_X10_wrong
  rw [if_neg h]
theorem m_fine1 {τ : St} (h : gI τ 4 = -1) : x_X10_fine τ = some 1 := by
  unfold x_X10_fine
  rw [if_pos h]
theorem m_fine0 {τ : St} (h : gI τ 4 ≠ -1) : x_X10_fine τ = some 0 := by
  unfold x_X10_fine
  rw [if_neg h]
/-- both tell the same fault -/
theorem Md.tell {n a a' : Nat} {σ τ : St} {w p : Int32} (h : MdC n σ τ) (ha : a ≤ n) (ha' : a' ≤ n) (h1 : gI σ 13 = iI a) (h2 : gI τ 3 = iI a') (hw : w ≠ 0) (hp : p ≠ -1) : Md n false (sI (sI σ 15 w) 11 p) (sI (sI τ 4 p) 5 w) := by
  refine Md.bad (h.fr ((FrN.sI (by omega)).trans (FrN.sI (by omega))) ((FrO.sI (by omega)).trans (FrO.sI (by omega)))) ha ha' ?_ ?_ ⟨?_, ?_, ?_, ?_⟩
  · rw [gI_sIn _ (by omega), gI_sIn _ (by omega)]; exact h1
  · rw [gI_sIn _ (by omega), gI_sIn _ (by omega)]; exact h2
  · rw [gI_sIn _ (by omega), gI_sI]; exact hw
  · rw [gI_sIn _ (by omega), gI_sI]; exact hp
  · rw [gI_sI, gI_sIn _ (by omega), gI_sI]
  · rw [gI_sIn _ (by omega), gI_sI, gI_sI]
theorem iI_nm1 {b : Nat} (h : b ≤ 600) : iI (b : Int) ≠ -1 := by
  rw [ne_eq, qeM (by omega) (by omega)]; omega
theorem both_number {n : Nat} {ok : Bool} {σ τ : St} (lo hi : Int) (hlo : 0 ≤ lo ∧ lo ≤ 100) (hhi : -1 ≤ hi ∧ hi ≤ 999) (h : Md n ok σ τ) :
    ∃ (ok2 : Bool) (r : Int32) (σ2 : St) (r2 : Int32) (τ2 : St), x_X3_number (iI lo) (iI hi) σ = some (r, σ2) ∧ x_X10_readNumber (iI lo) (iI hi) τ = some (r2, τ2) ∧ Md n ok2 σ2 τ2 ∧ FrN σ σ2 ∧ FrO τ τ2 ∧
      (ok2 = true → ok = true ∧ (∃ v : Int, lo ≤ v ∧ v ≤ hi ∧ r = iI v ∧ r2 = iI v) ∧ ∀ c τs, x_X10_here τ = some (c, τs) → gI σ2 14 = gI τs 3) ∧ (ok2 = false → r2 = 0) := by
  cases ok with
  | false =>
    obtain ⟨hc, a, a', ha, ha', h13, h3, hm⟩ := h.mf
    obtain ⟨b, r1⟩ := run_ex (fun k => gA σ 0 k = 32) ha
    have ec : x_X3_number (iI lo) (iI hi) σ = some (iI lo, sI σ 13 (iI b)) := by
      unfold x_X3_number
      rw [c_skip hc.1 hc.2.1 h13 r1, bd_some, gI_sIn _ (by omega), if_neg hm.1]
    have em : x_X10_readNumber (iI lo) (iI hi) τ = some (0, τ) := by
      unfold x_X10_readNumber
      rw [m_fine0 hm.2.1, bd_some, if_pos rfl]
    refine ⟨false, _, _, _, _, ec, em, Md.bad (hc.fr (FrN.sI (by omega)) FrO.rfl) r1.2.1 ha' (gI_sI _ _ _) h3 ?_, FrN.sI (by omega), FrO.rfl, fun q => absurd q (by decide), fun _ => rfl⟩
    unfold MdF
    rw [gI_sIn _ (by omega), gI_sIn _ (by omega)]
    exact hm
  | true =>
    obtain ⟨hc, a, a', b, ha, ha', h13, h3, f15, t4, f11, r1, r2⟩ := h.mt
    have hn := hc.1
    have r2m := r2.tape hc.2.2.2
    have hb : b ≤ n := r1.2.1
    obtain ⟨e, re⟩ := run_ex (Dg (gA σ 0)) hb
    have he := re.2.1
    have hbe := re.1
    have fN : FrN σ (sI (sI σ 13 (iI b)) 14 (iI b)) := (FrN.sI (by omega)).trans (FrN.sI (by omega))
    have fO : FrO τ (sI τ 3 (iI b)) := FrO.sI (by omega)
    have g13 : gI (sI (sI σ 13 (iI b)) 14 (iI b)) 13 = iI b := by rw [gI_sIn _ (by omega), gI_sI]
    have g14 : gI (sI (sI σ 13 (iI b)) 14 (iI b)) 14 = iI b := gI_sI _ _ _
    have g15 : gI (sI (sI σ 13 (iI b)) 14 (iI b)) 15 = 0 := by rw [gI_sIn _ (by omega), gI_sIn _ (by omega)]; exact f15
    have g11 : gI (sI (sI σ 13 (iI b)) 14 (iI b)) 11 = -1 := by rw [gI_sIn _ (by omega), gI_sIn _ (by omega)]; exact f11
    have t3 : gI (sI τ 3 (iI b)) 3 = iI b := gI_sI _ _ _
    have t4b : gI (sI τ 3 (iI b)) 4 = -1 := by rw [gI_sIn _ (by omega)]; exact t4
    have hhere := m_here hn hc.2.2.1 h3 r2m
    have ec : x_X3_number (iI lo) (iI hi) σ = x_X3_number (iI lo) (iI hi) σ := rfl
    have em : x_X10_readNumber (iI lo) (iI hi) τ = x_X10_readNumber (iI lo) (iI hi) τ := rfl
    conv at ec => rhs; unfold x_X3_number
    conv at em => rhs; unfold x_X10_readNumber
    rw [c_skip hn hc.2.1 h13 r1, bd_some, gI_sIn _ (by omega), if_pos f15, gI_sI, bd_some] at ec
    rw [m_fine1 t4, bd_some, if_neg (by decide), hhere, bd2_some] at em
    have hplace : ∀ (σ2 : St), gI σ2 14 = iI b → ∀ c τs, x_X10_here τ = some (c, τs) → gI σ2 14 = gI τs 3 := fun σ2 q c τs q2 => by
      rw [hhere] at q2
      have q3 := (Prod.mk.inj (Option.some.inj q2)).2
      rw [q, ← q3, gI_sI]
    have hc5 := hc.fr fN fO
    generalize sI (sI σ 13 (iI b)) 14 (iI b) = σ5 at *
    generalize sI τ 3 (iI b) = τ6 at *
    have re5 : Run (Dg (gA σ5 0)) n b e := by rw [fN.2 0]; exact re
    obtain ⟨x, y, hxy, l1, l2⟩ := both_digits (σ := σ5) (τ := τ6) (iI lo) (iI hi) (gI τ6 3) hn hc5.2.1 hc5.2.2.1 hc5.2.2.2 re5
    have s5 : sI σ5 13 (iI b) = σ5 := by rw [← g13, sI_gI]
    have s6 : sI τ6 3 (iI b) = τ6 := by rw [← t3, sI_gI]
    rw [s5] at l1
    rw [s6] at l2
    rw [l1, bd2_some, gI_sI, gI_sIn _ (by omega), g14] at ec
    have hcE := hc5.fr (FrN.sI (k := 13) (v := iI e) (by omega)) (FrO.sI (k := 3) (v := iI e) (by omega))
    have hcB := hc5.fr (FrN.sI (k := 13) (v := iI e) (by omega)) FrO.rfl
    have e15 : gI (sI σ5 13 (iI e)) 15 = 0 := by rw [gI_sIn _ (by omega)]; exact g15
    have e14 : gI (sI σ5 13 (iI e)) 14 = iI b := by rw [gI_sIn _ (by omega)]; exact g14
    have m4 : gI (sI τ6 3 (iI e)) 4 = -1 := by rw [gI_sIn _ (by omega)]; exact t4b
    rw [r_eq (by omega) (by omega) (by omega) (by omega)] at ec
    by_cases ceb : e = b
    · -- no digit
      have hdig : x_X10_isDigit (if b < n then gA τ 1 b else 0) = some 0 := by
        rw [m_isDigit]
        by_cases q : b < n
        · rw [if_pos q, ← hc.2.2.2 b q, if_neg (show ¬ Dg (gA σ 0) b from by rw [ceb] at re; exact re.2.2.2 q)]
        · rw [if_neg q, if_neg (by decide)]
      rw [if_pos (by omega), c_blame1 e15, bd_some] at ec
      rw [hdig, bd_some, if_pos rfl, m_wrong1 t4b, bd_some, t3] at em
      rw [ceb] at ec hcB
      refine ⟨false, _, _, _, _, ec, em, Md.tell hcB hb hb (gI_sI _ _ _) t3 (by decide) (iI_nm1 (by omega)), fN.trans ((FrN.sI (by omega)).trans ((FrN.sI (by omega)).trans (FrN.sI (by omega)))), fO.trans ((FrO.sI (by omega)).trans (FrO.sI (by omega))), fun q => absurd q (by decide), fun _ => rfl⟩
    · have hb2 : b < n := by omega
      have hdig : x_X10_isDigit (if b < n then gA τ 1 b else 0) = some 1 := by
        rw [m_isDigit, if_pos hb2, ← hc.2.2.2 b hb2, if_pos (show Dg (gA σ 0) b from re.2.2.1 b (by omega) (by omega))]
      have x0 : 0 ≤ x ∧ x ≤ 10000 := by rcases hxy with q | q <;> omega
      have y0 : 0 ≤ y ∧ y ≤ 99999 := by rcases hxy with q | q <;> omega
      rw [if_neg (by omega), r_lt (by omega) (by omega) (by omega) (by omega), r_le (by omega) (by omega) (by omega) (by omega)] at ec
      rw [hdig, bd_some, if_neg (by decide), bd_some, l2, bd2_some, r_lt (by omega) (by omega) (by omega) (by omega), r_le (by omega) (by omega) (by omega) (by omega)] at em
      by_cases hin : lo ≤ x ∧ x ≤ hi
      · have hxy2 : x = y := by rcases hxy with q | q <;> omega
        rw [if_neg (by omega), if_pos hin.2] at ec
        rw [if_neg (by omega), if_pos (by omega)] at em
        obtain ⟨b2, rb⟩ := run_ex (fun k => gA (sI σ5 13 (iI e)) 0 k = 32) he
        refine ⟨true, _, _, _, _, ec, em, Md.good hcE he he (gI_sI _ _ _) (gI_sI _ _ _) ⟨e15, m4, ?_⟩ rb rb, fN.trans (FrN.sI (by omega)), fO.trans (FrO.sI (by omega)), fun _ => ⟨rfl, ⟨x, hin.1, hin.2, rfl, by rw [hxy2]⟩, hplace _ e14⟩, fun q => absurd q (by decide)⟩
        rw [gI_sIn _ (by omega)]; exact g11
      · have ebc : x_X3_number_b138 (iI x) (sI σ5 13 (iI e)) = some (iI x, sI (sI (sI σ5 13 (iI e)) 15 2) 11 (iI b)) := by
          unfold x_X3_number_b138
          rw [e14, c_blame1 e15, bd_some]
        have ebm : x_X10_readNumber_b126 (gI τ6 3) (sI τ6 3 (iI e)) = some (0, sI (sI (sI τ6 3 (iI e)) 4 (iI b)) 5 2) := by
          unfold x_X10_readNumber_b126
          rw [t3, m_wrong1 m4, bd_some]
        rw [ebc] at ec
        rw [ebm] at em
        have ec2 : x_X3_number (iI lo) (iI hi) σ = some (iI x, sI (sI (sI σ5 13 (iI e)) 15 2) 11 (iI b)) := by
          by_cases q : x < lo
          · rw [if_pos q] at ec; exact ec
          · rw [if_neg q, if_neg (by omega)] at ec; exact ec
        have em2 : x_X10_readNumber (iI lo) (iI hi) τ = some (0, sI (sI (sI τ6 3 (iI e)) 4 (iI b)) 5 2) := by
          by_cases q : y < lo
          · rw [if_pos q] at em; exact em
          · rw [if_neg q, if_neg (by rcases hxy with w | w <;> omega)] at em; exact em
        exact ⟨false, _, _, _, _, ec2, em2, Md.tell hcE he he (gI_sI _ _ _) (gI_sI _ _ _) (by decide) (iI_nm1 (by omega)), fN.trans ((FrN.sI (by omega)).trans ((FrN.sI (by omega)).trans (FrN.sI (by omega)))), fO.trans ((FrO.sI (by omega)).trans ((FrO.sI (by omega)).trans (FrO.sI (by omega)))), fun q => absurd q (by decide), fun _ => rfl⟩
theorem c_next {σ : St} {n b : Nat} (hn : n ≤ 600) (h12 : gI σ 12 = iI n) (h13 : gI σ 13 = iI b) (hb : b ≤ n) : x_X3_next σ = some (if b < n then gA σ 0 b else -1) := by
  unfold x_X3_next
  rw [h12, h13]
  simp (disch := omega) only [iI_leD]
  by_cases c : b < n
  · rw [if_neg (by omega), if_pos c, f_at, bd_some, atF_in (show b < lenN 0 from (show b < 600 by omega)) (by decide)]
  · rw [if_pos (by omega), if_neg c]
theorem both_ends {n : Nat} {ok : Bool} {σ τ : St} (h : Md n ok σ τ) :
    ∃ (ok2 : Bool) (r : Int32) (σ2 τ2 : St), x_X3_ends σ = some (r, σ2) ∧ x_X10_sign 59 τ = some τ2 ∧ Md n ok2 σ2 τ2 ∧ FrN σ σ2 ∧ FrO τ τ2 ∧ (ok2 = true → ok = true ∧ r = 1) ∧ (ok2 = false → r = 0) := by
  cases ok with
  | false =>
    obtain ⟨hc, a, a', ha, ha', h13, h3, hm⟩ := h.mf
    obtain ⟨b, r1⟩ := run_ex (fun k => gA σ 0 k = 32) ha
    have fN : FrN σ (sI σ 13 (iI b)) := FrN.sI (by omega)
    have hc5 := hc.fr fN (FrO.rfl (σ := τ))
    have g15 : gI (sI σ 13 (iI b)) 15 ≠ 0 := by rw [gI_sIn _ (by omega)]; exact hm.1
    have e22 : x_X3_ends_b22 (sI σ 13 (iI b)) = some (0, sI σ 13 (iI b)) := by
      unfold x_X3_ends_b22
      rw [if_neg g15]
    have ec : x_X3_ends σ = some (0, sI σ 13 (iI b)) := by
      unfold x_X3_ends
      rw [c_skip hc.1 hc.2.1 h13 r1, bd_some, c_next (b := b) hc.1 hc5.2.1 (gI_sI _ _ _) r1.2.1, bd_some, c_blame0 g15, bd_some, e22]
      exact ite_self _
    have em : x_X10_sign 59 τ = some τ := by
      unfold x_X10_sign x_X10_sign_b24
      rw [m_fine0 hm.2.1, bd_some, if_pos rfl, bd_some, if_pos rfl]
    refine ⟨false, _, _, _, ec, em, Md.bad hc5 r1.2.1 ha' (gI_sI _ _ _) h3 ?_, fN, FrO.rfl, fun q => absurd q (by decide), fun _ => rfl⟩
    unfold MdF
    rw [gI_sIn _ (by omega), gI_sIn _ (by omega)]
    exact hm
  | true =>
    obtain ⟨hc, a, a', b, ha, ha', h13, h3, f15, t4, f11, r1, r2⟩ := h.mt
    have hn := hc.1
    have r2m := r2.tape hc.2.2.2
    have hb : b ≤ n := r1.2.1
    have fN : FrN σ (sI σ 13 (iI b)) := FrN.sI (by omega)
    have fO : FrO τ (sI τ 3 (iI b)) := FrO.sI (by omega)
    have hhere := m_here hn hc.2.2.1 h3 r2m
    have hc5 := hc.fr fN fO
    have g13 : gI (sI σ 13 (iI b)) 13 = iI b := gI_sI _ _ _
    have g15 : gI (sI σ 13 (iI b)) 15 = 0 := by rw [gI_sIn _ (by omega)]; exact f15
    have g11 : gI (sI σ 13 (iI b)) 11 = -1 := by rw [gI_sIn _ (by omega)]; exact f11
    have t3 : gI (sI τ 3 (iI b)) 3 = iI b := gI_sI _ _ _
    have t4b : gI (sI τ 3 (iI b)) 4 = -1 := by rw [gI_sIn _ (by omega)]; exact t4
    have ec : x_X3_ends σ = x_X3_ends σ := rfl
    have em : x_X10_sign 59 τ = x_X10_sign 59 τ := rfl
    conv at ec => rhs; unfold x_X3_ends
    conv at em => rhs; unfold x_X10_sign
    rw [c_skip hc.1 hc.2.1 h13 r1, bd_some, c_next (b := b) hn hc5.2.1 g13 hb, bd_some, g13, c_blame1 g15, bd_some] at ec
    rw [m_fine1 t4, bd_some, if_neg (by decide), hhere, bd2_some, t3, m_wrong1 t4b, bd_some] at em
    have a0 : gA (sI σ 13 (iI b)) 0 = gA σ 0 := rfl
    rw [a0] at ec
    generalize sI σ 13 (iI b) = σ5 at *
    generalize sI τ 3 (iI b) = τ6 at *
    by_cases hs : b < n ∧ gA σ 0 b = 59
    · rw [if_pos hs.1, if_pos hs.2] at ec
      rw [if_pos hs.1, ← hc.2.2.2 b hs.1, if_pos hs.2] at em
      unfold x_X3_ends_b22 at ec
      unfold x_X10_sign_b24 at em
      rw [if_pos g15, g13, qa1, bd_some] at ec
      rw [m_fine1 t4b, bd_some, if_neg (by decide), t3, qa1, bd_some] at em
      have hb1 : b + 1 ≤ n := by omega
      obtain ⟨b2, rb⟩ := run_ex (fun k => gA (sI σ5 13 (iI ((b : Int) + 1))) 0 k = 32) hb1
      refine ⟨true, _, _, _, ec, em, Md.good (a := b + 1) (a' := b + 1) (hc5.fr (FrN.sI (by omega)) (FrO.sI (by omega))) hb1 hb1 (gI_sI _ _ _) (gI_sI _ _ _) ⟨?_, ?_, ?_⟩ rb rb, fN.trans (FrN.sI (by omega)), fO.trans (FrO.sI (by omega)), fun _ => ⟨rfl, rfl⟩, fun q => absurd q (by decide)⟩
      · rw [gI_sIn _ (by omega)]; exact g15
      · rw [gI_sIn _ (by omega)]; exact t4b
      · rw [gI_sIn _ (by omega)]; exact g11
    · have n1 : ¬ (if b < n then gA σ 0 b else -1) = 59 := by
        by_cases q : b < n
        · rw [if_pos q]; exact fun w => hs ⟨q, w⟩
        · rw [if_neg q]; decide
      have n2 : ¬ (if b < n then gA τ 1 b else 0) = 59 := by
        by_cases q : b < n
        · rw [if_pos q, ← hc.2.2.2 b q]; exact fun w => hs ⟨q, w⟩
        · rw [if_neg q]; decide
      rw [if_neg n1] at ec
      rw [if_neg n2] at em
      have b15 : gI (sI (sI σ5 15 1) 11 (iI b)) 15 ≠ 0 := by rw [gI_sIn _ (by omega), gI_sI]; decide
      have b4 : gI (sI (sI τ6 4 (iI b)) 5 1) 4 ≠ -1 := by rw [gI_sIn _ (by omega), gI_sI]; exact iI_nm1 (by omega)
      unfold x_X3_ends_b22 at ec
      unfold x_X10_sign_b24 at em
      rw [if_neg b15] at ec
      rw [m_fine0 b4, bd_some, if_pos rfl] at em
      exact ⟨false, _, _, _, ec, em, Md.tell hc5 hb hb g13 t3 (by decide) (iI_nm1 (by omega)), fN.trans ((FrN.sI (by omega)).trans (FrN.sI (by omega))), fO.trans ((FrO.sI (by omega)).trans (FrO.sI (by omega))), fun q => absurd q (by decide), fun _ => rfl⟩
