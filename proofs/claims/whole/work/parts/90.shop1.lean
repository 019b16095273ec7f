/-! shop: runs of bytes, blanks, numbers -/
def Run (P : Nat → Prop) (n b e : Nat) : Prop := b ≤ e ∧ e ≤ n ∧ (∀ k, b ≤ k → k < e → P k) ∧ (e < n → ¬ P e)
theorem run_ex (P : Nat → Prop) {n b : Nat} (h : b ≤ n) : ∃ e, Run P n b e := by
  have key : ∀ (d b : Nat), b + d = n → ∃ e, Run P n b e := by
    intro d
    induction d with
    | zero => intro b hb; exact ⟨b, by omega, by omega, fun k h1 h2 => absurd h2 (by omega), fun q => absurd q (by omega)⟩
    | succ d ih =>
      intro b hb
      by_cases c : P b
      · obtain ⟨e, h1, h2, h3, h4⟩ := ih (b + 1) (by omega)
        refine ⟨e, by omega, h2, fun k h5 h6 => ?_, h4⟩
        by_cases q : k = b
        · rw [q]; exact c
        · exact h3 k (by omega) h6
      · exact ⟨b, by omega, by omega, fun k h1 h2 => absurd h2 (by omega), fun _ => c⟩
  exact key (n - b) b (by omega)
theorem Run.uniq {P : Nat → Prop} {n b e e2 : Nat} (h : Run P n b e) (k : Run P n b e2) : e = e2 := by
  obtain ⟨h1, h2, h3, h4⟩ := h
  obtain ⟨k1, k2, k3, k4⟩ := k
  by_cases q : e < e2
  · exact absurd (k3 e h1 q) (h4 (by omega))
  · by_cases q2 : e2 < e
    · exact absurd (h3 e2 k1 q2) (k4 (by omega))
    · omega
/-- from where a run ends nothing more of it comes -/
theorem Run.again {P : Nat → Prop} {n b e : Nat} (h : Run P n b e) : Run P n e e := ⟨Nat.le_refl _, h.2.1, fun k h1 h2 => absurd h2 (by omega), h.2.2.2⟩
theorem c_skip {σ : St} {n a b : Nat} (hn : n ≤ 600) (h12 : gI σ 12 = iI n) (h13 : gI σ 13 = iI a) (hr : Run (fun k => gA σ 0 k = 32) n a b) : x_X3_skipBlanks σ = some (sI σ 13 (iI b)) := by
  obtain ⟨r1, r2, r3, r4⟩ := hr
  have key := lp_run (f := fun v : St => x_X3_skipBlanks_L0 v) (fun i => sI σ 13 (iI ((a + i : Nat) : Int))) (w := sI σ 13 (iI b)) (b - a) FU (by unfold FU; omega) (fun i hi => ?_) ?_
  · have e0 : sI σ 13 (iI ((a + 0 : Nat) : Int)) = σ := by
      rw [Nat.add_zero, ← h13, sI_gI]
    simp only [e0] at key
    unfold x_X3_skipBlanks
    rw [key]; rfl
  · have e := r3 (a + i) (by omega) (by omega)
    unfold x_X3_skipBlanks_L0
    rw [gI_sI, gI_sIn _ (by omega), h12]
    simp (disch := omega) only [iI_leD]
    rw [if_neg (by omega), f_at, gA_sI, bd_some, atF_in (show a + i < lenN 0 from (show a + i < 600 by omega)) (by decide), e, if_pos rfl, bd_some, sI_sI, qa1]
    rfl
  · rw [show a + (b - a) = b from by omega]
    unfold x_X3_skipBlanks_L0
    rw [gI_sI, gI_sIn _ (by omega), h12]
    simp (disch := omega) only [iI_leD]
    by_cases c : n ≤ b
    · rw [if_pos (by omega)]
    · rw [if_neg (by omega), f_at, gA_sI, bd_some, atF_in (show b < lenN 0 from (show b < 600 by omega)) (by decide), if_neg (r4 (by omega))]
theorem m_here {τ : St} {n a b : Nat} (hn : n ≤ 600) (h2 : gI τ 2 = iI n) (h3 : gI τ 3 = iI a) (hr : Run (fun k => gA τ 1 k = 32) n a b) : x_X10_here τ = some (if b < n then gA τ 1 b else 0, sI τ 3 (iI b)) := by
  obtain ⟨r1, r2, r3, r4⟩ := hr
  have key := lp_run (f := fun v : St => x_X10_here_L0 v) (fun i => sI τ 3 (iI ((a + i : Nat) : Int))) (w := sI τ 3 (iI b)) (b - a) FU (by unfold FU; omega) (fun i hi => ?_) ?_
  · have e0 : sI τ 3 (iI ((a + 0 : Nat) : Int)) = τ := by
      rw [Nat.add_zero, ← h3, sI_gI]
    simp only [e0] at key
    unfold x_X10_here
    rw [key, bd_some, gI_sI, gI_sIn _ (by omega), h2, gA_sI]
    simp (disch := omega) only [iI_leD]
    by_cases c : b < n
    · rw [if_neg (by omega), if_pos c, ldI_in (show b < lenM 1 from (show b < 600 by omega)) (by decide), bd_some]
    · rw [if_pos (by omega), if_neg c]
  · have e := r3 (a + i) (by omega) (by omega)
    unfold x_X10_here_L0
    rw [gI_sI, gI_sIn _ (by omega), h2, gA_sI]
    simp (disch := omega) only [iI_leD]
    rw [if_neg (by omega), ldI_in (show a + i < lenM 1 from (show a + i < 600 by omega)) (by decide), bd_some, e, if_pos rfl, bd_some, sI_sI, qa1]
    rfl
  · rw [show a + (b - a) = b from by omega]
    unfold x_X10_here_L0
    rw [gI_sI, gI_sIn _ (by omega), h2, gA_sI]
    simp (disch := omega) only [iI_leD]
    by_cases c : n ≤ b
    · rw [if_pos (by omega)]
    · rw [if_neg (by omega), ldI_in (show b < lenM 1 from (show b < 600 by omega)) (by decide), bd_some, if_neg (r4 (by omega))]
/-- what both readers have in common; 'ok': no fault as yet -/
def MdC (n : Nat) (σ τ : St) : Prop := n ≤ 600 ∧ gI σ 12 = iI n ∧ gI τ 2 = iI n ∧ (∀ k, k < n → gA σ 0 k = gA τ 1 k)
def MdF (σ τ : St) : Prop := gI σ 15 ≠ 0 ∧ gI τ 4 ≠ -1 ∧ gI σ 11 = gI τ 4 ∧ gI σ 15 = gI τ 5
def Md (n : Nat) (ok : Bool) (σ τ : St) : Prop := MdC n σ τ ∧ ∃ a a' : Nat, a ≤ n ∧ a' ≤ n ∧ gI σ 13 = iI a ∧ gI τ 3 = iI a' ∧ if ok = true then gI σ 15 = 0 ∧ gI τ 4 = -1 ∧ gI σ 11 = -1 ∧ ∃ b, Run (fun k => gA σ 0 k = 32) n a b ∧ Run (fun k => gA σ 0 k = 32) n a' b else MdF σ τ
theorem Run.tape {n a b : Nat} {f g : Nat → Int32} (h : Run (fun k => f k = 32) n a b) (e : ∀ k, k < n → f k = g k) : Run (fun k => g k = 32) n a b := by
  obtain ⟨h1, h2, h3, h4⟩ := h
  exact ⟨h1, h2, fun k k1 k2 => (e k (by omega)).symm.trans (h3 k k1 k2), fun q w => h4 q ((e b q).trans w)⟩
def FrN (σ σ2 : St) : Prop := (∀ k, ¬ (k = 11 ∨ k = 13 ∨ k = 14 ∨ k = 15) → gI σ2 k = gI σ k) ∧ (∀ j, gA σ2 j = gA σ j)
def FrO (τ τ2 : St) : Prop := (∀ k, ¬ (k = 3 ∨ k = 4 ∨ k = 5) → gI τ2 k = gI τ k) ∧ (∀ j, gA τ2 j = gA τ j)
theorem FrN.rfl {σ : St} : FrN σ σ := ⟨fun _ _ => Eq.refl _, fun _ => Eq.refl _⟩
theorem FrO.rfl {σ : St} : FrO σ σ := ⟨fun _ _ => Eq.refl _, fun _ => Eq.refl _⟩
theorem FrN.trans {a b c : St} (h : FrN a b) (k : FrN b c) : FrN a c := ⟨fun i h1 => (k.1 i h1).trans (h.1 i h1), fun j => (k.2 j).trans (h.2 j)⟩
theorem FrO.trans {a b c : St} (h : FrO a b) (k : FrO b c) : FrO a c := ⟨fun i h1 => (k.1 i h1).trans (h.1 i h1), fun j => (k.2 j).trans (h.2 j)⟩
theorem FrN.sI {σ : St} {k : Nat} {v : Int32} (h : k = 11 ∨ k = 13 ∨ k = 14 ∨ k = 15) : FrN σ (sI σ k v) := ⟨fun i h1 => gI_sIn _ (by omega) _, fun _ => Eq.refl _⟩
theorem FrO.sI {σ : St} {k : Nat} {v : Int32} (h : k = 3 ∨ k = 4 ∨ k = 5) : FrO σ (sI σ k v) := ⟨fun i h1 => gI_sIn _ (by omega) _, fun _ => Eq.refl _⟩
theorem MdC.fr {n : Nat} {σ τ σ2 τ2 : St} (h : MdC n σ τ) (f : FrN σ σ2) (g : FrO τ τ2) : MdC n σ2 τ2 := by
  unfold MdC at h ⊢
  rw [f.1 12 (by omega), g.1 2 (by omega), f.2 0, g.2 1]
  exact h
/-- nothing else of both matters -/
theorem Md.eq {n : Nat} {ok : Bool} {σ τ σ2 τ2 : St} (h : Md n ok σ τ) (h1 : ∀ k, k = 11 ∨ k = 12 ∨ k = 13 ∨ k = 15 → gI σ2 k = gI σ k) (h2 : gA σ2 0 = gA σ 0) (k1 : ∀ k, 2 ≤ k → k ≤ 5 → gI τ2 k = gI τ k) (k2 : gA τ2 1 = gA τ 1) : Md n ok σ2 τ2 := by
  unfold Md MdC MdF at h ⊢
  rw [h1 11 (by omega), h1 12 (by omega), h1 13 (by omega), h1 15 (by omega), h2, k1 2 (by omega) (by omega), k1 3 (by omega) (by omega), k1 4 (by omega) (by omega), k1 5 (by omega) (by omega), k2]
  exact h
theorem Md.bad {n a a' : Nat} {σ τ : St} (h : MdC n σ τ) (ha : a ≤ n) (ha' : a' ≤ n) (h1 : gI σ 13 = iI a) (h2 : gI τ 3 = iI a') (h3 : MdF σ τ) : Md n false σ τ := ⟨h, a, a', ha, ha', h1, h2, by rw [if_neg (by decide)]; exact h3⟩
theorem Md.good {n a a' b : Nat} {σ τ : St} (h : MdC n σ τ) (ha : a ≤ n) (ha' : a' ≤ n) (h1 : gI σ 13 = iI a) (h2 : gI τ 3 = iI a') (h3 : gI σ 15 = 0 ∧ gI τ 4 = -1 ∧ gI σ 11 = -1) (r1 : Run (fun k => gA σ 0 k = 32) n a b) (r2 : Run (fun k => gA σ 0 k = 32) n a' b) : Md n true σ τ := ⟨h, a, a', ha, ha', h1, h2, by rw [if_pos rfl]; exact ⟨h3.1, h3.2.1, h3.2.2, b, r1, r2⟩⟩
/-- digits -/
abbrev Dg (f : Nat → Int32) (k : Nat) : Prop := ¬ f k < 48 ∧ ¬ 57 < f k
theorem Dg.val {f : Nat → Int32} {k : Nat} (h : Dg f k) : ∃ d : Int, 48 ≤ d ∧ d ≤ 57 ∧ f k = iI d := by
  obtain ⟨d, ⟨d1, d2⟩, e⟩ := ex_iI (f k)
  obtain ⟨h1, h2⟩ := h
  rw [e] at h1 h2
  rw [ql48 d1 d2] at h1
  rw [qg57 d1 d2] at h2
  exact ⟨d, by omega, by omega, e⟩
theorem m_isDigit (p : Int32) : x_X10_isDigit p = some (if ¬ p < 48 ∧ ¬ 57 < p then 1 else 0) := by
  unfold x_X10_isDigit
  by_cases c : p < 48
  · rw [if_pos c, if_neg (fun q => q.1 c)]
  · rw [if_neg c]
    by_cases c2 : 57 < p
    · rw [if_pos c2, if_neg (fun q => q.2 c2)]
    · rw [if_neg c2, if_pos ⟨c, c2⟩]
/-- the number that both have come to -/
def NmR (x y : Int) : Prop := (x = y ∧ 0 ≤ x ∧ x ≤ 9999) ∨ (x = 10000 ∧ 10000 ≤ y ∧ y ≤ 99999)
theorem both_digits {σ τ : St} {n b e : Nat} (p1 p2 w8 : Int32) (hn : n ≤ 600) (h12 : gI σ 12 = iI n) (h2 : gI τ 2 = iI n) (ht : ∀ k, k < n → gA σ 0 k = gA τ 1 k) (hr : Run (Dg (gA σ 0)) n b e) :
    ∃ x y : Int, NmR x y ∧ lp (fun v : (Int32 × St) => x_X3_number_L23 p1 p2 v.1 v.2) FU (0, sI σ 13 (iI b)) = some (iI x, sI σ 13 (iI e)) ∧ lp (fun v : (Int32 × St) => x_X10_readNumber_L41 p1 p2 w8 v.1 v.2) FU (0, sI τ 3 (iI b)) = some (iI y, sI τ 3 (iI e)) := by
  obtain ⟨r1, r2, r3, r4⟩ := hr
  have key := lp2_inv (f := fun v : (Int32 × St) => x_X3_number_L23 p1 p2 v.1 v.2) (g := fun v : (Int32 × St) => x_X10_readNumber_L41 p1 p2 w8 v.1 v.2)
    (fun i v w => ∃ x y : Int, NmR x y ∧ v = (iI x, sI σ 13 (iI ((b + i : Nat) : Int))) ∧ w = (iI y, sI τ 3 (iI ((b + i : Nat) : Int)))) (fun v w => ∃ x y : Int, NmR x y ∧ v = (iI x, sI σ 13 (iI e)) ∧ w = (iI y, sI τ 3 (iI e))) (e - b) FU FU (by unfold FU; omega) (by unfold FU; omega) (fun i v w hi hg => ?_) (fun v w hg => ?_) (0, sI σ 13 (iI b)) (0, sI τ 3 (iI b)) ⟨0, 0, Or.inl ⟨rfl, by omega, by omega⟩, rfl, rfl⟩
  · obtain ⟨_, _, k1, k2, x, y, h, rfl, rfl⟩ := key
    exact ⟨x, y, h, k1, k2⟩
  · obtain ⟨x, y, h, rfl, rfl⟩ := hg
    have hd := r3 (b + i) (by omega) (by omega)
    obtain ⟨d, d1, d2, ed⟩ := hd.val
    have em : gA τ 1 (b + i) = iI d := by rw [← ht (b + i) (by omega)]; exact ed
    have hy0 : 0 ≤ y := by rcases h with h | h <;> omega
    have hy9 : y ≤ 99999 := by rcases h with h | h <;> omega
    have hx0 : 0 ≤ x := by rcases h with h | h <;> omega
    have hx9 : x ≤ 10000 := by rcases h with h | h <;> omega
    have ec : x_X3_number_L23 p1 p2 (iI x) (sI σ 13 (iI ((b + i : Nat) : Int))) = some (true, (iI (if x * 10 + d - 48 ≤ 10000 then x * 10 + d - 48 else 10000), sI σ 13 (iI ((b + (i + 1) : Nat) : Int)))) := by
      unfold x_X3_number_L23
      rw [gI_sI, gI_sIn _ (by omega), h12]
      simp (disch := omega) only [iI_leD]
      rw [if_neg (by omega), f_at, gA_sI, bd_some, atF_in (show b + i < lenN 0 from (show b + i < 600 by omega)) (by decide), if_neg hd.1, bd_some, if_neg hd.2, bd_some, bd_some, sI_sI, ed, qa1, qx10, iI_add, qs48]
      unfold mnI
      simp (disch := omega) only [qg10000, ql10000]
      by_cases c : 10000 < x * 10 + d - 48
      · rw [if_pos c, if_neg (by omega)]; rfl
      · rw [if_neg c, if_pos (by omega)]; rfl
    have eM : x_X10_readNumber_L41 p1 p2 w8 (iI y) (sI τ 3 (iI ((b + i : Nat) : Int))) = some (true, (iI (if y ≤ 9999 then 10 * y + d - 48 else 10000), sI τ 3 (iI ((b + (i + 1) : Nat) : Int)))) := by
      unfold x_X10_readNumber_L41 x_X10_readNumber_b41_99
      rw [gI_sI, gI_sIn _ (by omega), h2, gA_sI]
      simp (disch := omega) only [iI_leD]
      have hdm : ¬ iI d < 48 ∧ ¬ 57 < iI d := by rw [← ed]; exact hd
      rw [if_neg (by omega), ldI_in (show b + i < lenM 1 from (show b + i < 600 by omega)) (by decide), bd_some, em, m_isDigit, if_pos hdm, bd_some, if_neg (by decide), bd_some]
      simp (disch := omega) only [qm9999, bd_some, sI_sI, qa1, qy10, iI_add, qs48]
      by_cases c : y ≤ 9999
      · rw [if_pos c, if_pos c]; rfl
      · rw [if_neg c, if_neg c]; rfl
    refine ⟨_, _, ec, eM, _, _, ?_, rfl, rfl⟩
    unfold NmR
    rcases h with ⟨rfl, q1, q2⟩ | ⟨rfl, q1, q2⟩
    · rw [if_pos q2]
      by_cases c : x * 10 + d - 48 ≤ 10000
      · rw [if_pos c]; omega
      · rw [if_neg c]; omega
    · rw [if_neg (show ¬ (10000 : Int) * 10 + d - 48 ≤ 10000 by omega), if_neg (show ¬ y ≤ 9999 by omega)]
      omega
  · obtain ⟨x, y, h, rfl, rfl⟩ := hg
    rw [show b + (e - b) = e from by omega]
    refine ⟨(iI x, sI σ 13 (iI e)), (iI y, sI τ 3 (iI e)), ?_, ?_, x, y, h, rfl, rfl⟩
    · show x_X3_number_L23 p1 p2 (iI x) (sI σ 13 (iI e)) = _
      unfold x_X3_number_L23
      rw [gI_sI, gI_sIn _ (by omega), h12]
      simp (disch := omega) only [iI_leD]
      by_cases c : n ≤ e
      · rw [if_pos (by omega)]
      · have hd : ¬ Dg (gA σ 0) e := r4 (by omega)
        rw [if_neg (by omega), f_at, gA_sI, bd_some, atF_in (show e < lenN 0 from (show e < 600 by omega)) (by decide)]
        by_cases c2 : gA σ 0 e < 48
        · rw [if_pos c2]
        · rw [if_neg c2, bd_some]
          by_cases c3 : 57 < gA σ 0 e
          · rw [if_pos c3]
          · exact absurd ⟨c2, c3⟩ hd
    · show x_X10_readNumber_L41 p1 p2 w8 (iI y) (sI τ 3 (iI e)) = _
      unfold x_X10_readNumber_L41
      rw [gI_sI, gI_sIn _ (by omega), h2, gA_sI]
      simp (disch := omega) only [iI_leD]
      by_cases c : n ≤ e
      · rw [if_pos (by omega)]
      · have hd : ¬ Dg (gA σ 0) e := r4 (by omega)
        rw [if_neg (by omega), ldI_in (show e < lenM 1 from (show e < 600 by omega)) (by decide), bd_some, m_isDigit, ← ht e (by omega), if_neg hd, bd_some, if_pos rfl]
