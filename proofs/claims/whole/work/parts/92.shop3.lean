/-! shop: words -/
abbrev Lt (f : Nat → Int32) (k : Nat) : Prop := ¬ f k < 97 ∧ ¬ 122 < f k
theorem Lt.val {f : Nat → Int32} {k : Nat} (h : Lt f k) : 97 ≤ (f k).toInt ∧ (f k).toInt ≤ 122 := by
  obtain ⟨d1, d2⟩ := ok_iI (f k)
  obtain ⟨h1, h2⟩ := h
  rw [← iI_toInt (f k)] at h1 h2
  rw [ql97 d1 d2] at h1
  rw [qg122 d1 d2] at h2
  omega
theorem m_isSmall (p : Int32) : x_X10_isSmall p = some (if ¬ p < 97 ∧ ¬ 122 < p then 1 else 0) := by
  unfold x_X10_isSmall
  by_cases c : p < 97
  · rw [if_pos c, if_neg (fun q => q.1 c)]
  · rw [if_neg c]
    by_cases c2 : 122 < p
    · rw [if_pos c2, if_neg (fun q => q.2 c2)]
    · rw [if_neg c2, if_pos ⟨c, c2⟩]
/-- the word that stands there is the i-th -/
def Wd (f : Nat → Int32) (b e i : Nat) : Prop := e - b = lenS.getD i 0 ∧ ∀ k, k < lenS.getD i 0 → f (b + k) = chS i k
theorem lenS_le (i : Nat) (h : i < 9) : lenS.getD i 0 ≤ 6 := (show ∀ i, i < 9 → lenS.getD i 0 ≤ 6 by decide) i h
theorem c_stands {σ : St} {b e i : Nat} (hb : b ≤ e) (he : e ≤ 600) (h13 : gI σ 13 = iI e) (hi : i < 9) : (Wd (gA σ 0) b e i ∧ x_X3_stands i (iI b) σ = some 1) ∨ (¬ Wd (gA σ 0) b e i ∧ x_X3_stands i (iI b) σ = some 0) := by
  have hl := lenS_le i hi
  have el : x_J0_length_8abf5 i = some (iI (lenS.getD i 0 : Nat)) := by unfold x_J0_length_8abf5; rw [iI_nat]
  unfold x_X3_stands
  rw [el, bd_some, h13, iI_sub, r_eq (by omega) (by omega) (by omega) (by omega)]
  by_cases c : (e : Int) - b = (lenS.getD i 0 : Nat)
  · rw [if_pos c]
    have key := lpr_inv (f := fun v : Int32 => x_X3_stands_L17 i (iI b) σ v) (fun j v => v = iI (j : Nat) ∧ ∀ k, k < j → gA σ 0 (b + k) = chS i k) (fun _ => ∀ k, k < lenS.getD i 0 → gA σ 0 (b + k) = chS i k) (fun r => r = 0 ∧ ∃ k, k < lenS.getD i 0 ∧ gA σ 0 (b + k) ≠ chS i k) (lenS.getD i 0) FU (by unfold FU; omega) (fun j v hj hg => ?_) (fun v hg => ?_) (iI ((0 : Nat) : Int)) ⟨rfl, fun k hk => absurd hk (by omega)⟩
    · rcases key with ⟨w, k1, k2⟩ | ⟨r, k1, rfl, k, k2, k3⟩
      · left
        refine ⟨⟨by omega, k2⟩, ?_⟩
        show bs (lpr _ FU (iI ((0 : Nat) : Int))) _ _ = _
        rw [k1]; rfl
      · right
        refine ⟨fun q => k3 (q.2 k k2), ?_⟩
        show bs (lpr _ FU (iI ((0 : Nat) : Int))) _ _ = _
        rw [k1]; rfl
    · obtain ⟨rfl, hq⟩ := hg
      have ech : x_J0_charAt_5068e i (iI (j : Int)) = some (chS i j) := by
        unfold x_J0_charAt_5068e
        rw [iI_tnN (by omega), if_neg (by rw [ql0 (by omega) (by omega)]; omega)]
      unfold x_X3_stands_L17
      rw [el, bd_some, r_le (by omega) (by omega) (by omega) (by omega), if_neg (by omega), iI_add, f_at, bd_some, show (b : Int) + j = ((b + j : Nat) : Int) from by omega, atF_in (show b + j < lenN 0 from (show b + j < 600 by omega)) (by decide), ech, bd_some, qa1]
      by_cases q : gA σ 0 (b + j) = chS i j
      · left
        rw [if_pos q]
        refine ⟨_, rfl, rfl, fun k hk => ?_⟩
        by_cases w : k = j
        · rw [w]; exact q
        · exact hq k (by omega)
      · right
        rw [if_neg q]
        exact ⟨_, rfl, rfl, j, hj, q⟩
    · obtain ⟨rfl, hq⟩ := hg
      unfold x_X3_stands_L17
      rw [el, bd_some, if_pos (Int32.le_refl _)]
      exact ⟨_, rfl, hq⟩
  · rw [if_neg c]
    right
    exact ⟨fun q => c (by have := q.1; omega), rfl⟩
/-- which word stands there -/
def Kd (f : Nat → Int32) (b e : Nat) (z : Int) : Prop := (z = -1 ∧ ∀ i, i < 9 → ¬ Wd f b e i) ∨ ∃ i : Nat, i < 9 ∧ z = i ∧ Wd f b e i
theorem c_wordOf {i : Nat} (h : i < 9) : x_X3_wordOf (iI i) = some i := (show ∀ i, i < 9 → x_X3_wordOf (iI ((i : Nat) : Int)) = some i by decide) i h
theorem c_readWord {σ : St} {n b e : Nat} (hn : n ≤ 600) (h12 : gI σ 12 = iI n) (h13 : gI σ 13 = iI b) (hr : Run (Lt (gA σ 0)) n b e) : ∃ z, Kd (gA σ 0) b e z ∧ x_X3_readWord σ = some (iI z, sI σ 13 (iI e)) := by
  obtain ⟨r1, r2, r3, r4⟩ := hr
  have key := lp_run (f := fun v : St => x_X3_readWord_L5 (iI b) v) (fun i => sI σ 13 (iI ((b + i : Nat) : Int))) (w := sI σ 13 (iI e)) (e - b) FU (by unfold FU; omega) (fun i hi => ?_) ?_
  · have e0 : sI σ 13 (iI ((b + 0 : Nat) : Int)) = σ := by
      rw [Nat.add_zero, ← h13, sI_gI]
    simp only [e0] at key
    have key2 := lpr_inv (f := fun v : Int32 => x_X3_readWord_L63 (iI b) (sI σ 13 (iI e)) v) (fun j v => v = iI (j : Nat) ∧ ∀ i, i < j → ¬ Wd (gA σ 0) b e i) (fun _ => ∀ i, i < 9 → ¬ Wd (gA σ 0) b e i) (fun r => ∃ i : Nat, i < 9 ∧ r = (iI i, sI σ 13 (iI e)) ∧ Wd (gA σ 0) b e i) 9 FU (by unfold FU; omega) (fun j v hj hg => ?_) (fun v hg => ?_) (iI ((0 : Nat) : Int)) ⟨rfl, fun k hk => absurd hk (by omega)⟩
    · unfold x_X3_readWord
      rw [bd_some, h13, key, bd_some]
      rcases key2 with ⟨w, k1, k2⟩ | ⟨r, k1, i, k2, rfl, k3⟩
      · refine ⟨-1, Or.inl ⟨rfl, k2⟩, ?_⟩
        show bs (lpr _ FU (iI ((0 : Nat) : Int))) _ _ = _
        rw [k1]; rfl
      · refine ⟨i, Or.inr ⟨i, k2, rfl, k3⟩, ?_⟩
        show bs (lpr _ FU (iI ((0 : Nat) : Int))) _ _ = _
        rw [k1]; rfl
    · obtain ⟨rfl, hq⟩ := hg
      unfold x_X3_readWord_L63
      simp (disch := omega) only [qM9]
      rw [if_neg (by omega), c_wordOf hj, bd_some, qa1]
      rcases c_stands (σ := sI σ 13 (iI e)) (b := b) (e := e) r1 (by omega) (gI_sI _ _ _) hj with ⟨q1, q2⟩ | ⟨q1, q2⟩
      · right
        rw [q2, bd_some, if_neg (by decide)]
        exact ⟨_, rfl, j, hj, rfl, q1⟩
      · left
        rw [q2, bd_some, if_pos rfl]
        refine ⟨_, rfl, rfl, fun i hi => ?_⟩
        by_cases w : i = j
        · rw [w]; exact q1
        · exact hq i (by omega)
    · obtain ⟨rfl, hq⟩ := hg
      unfold x_X3_readWord_L63
      simp (disch := omega) only [qM9]
      rw [if_pos (by omega)]
      exact ⟨_, rfl, hq⟩
  · have hl := r3 (b + i) (by omega) (by omega)
    unfold x_X3_readWord_L5
    rw [gI_sI, gI_sIn _ (by omega), h12]
    simp (disch := omega) only [iI_leD]
    rw [if_neg (by omega), f_at, gA_sI, bd_some, atF_in (show b + i < lenN 0 from (show b + i < 600 by omega)) (by decide), if_neg hl.1, bd_some, if_neg hl.2, bd_some, sI_sI, qa1]
    rfl
  · rw [show b + (e - b) = e from by omega]
    unfold x_X3_readWord_L5
    rw [gI_sI, gI_sIn _ (by omega), h12]
    simp (disch := omega) only [iI_leD]
    by_cases c : n ≤ e
    · rw [if_pos (by omega)]
    · have hl : ¬ Lt (gA σ 0) e := r4 (by omega)
      rw [if_neg (by omega), f_at, gA_sI, bd_some, atF_in (show e < lenN 0 from (show e < 600 by omega)) (by decide)]
      by_cases c2 : gA σ 0 e < 97
      · rw [if_pos c2]
      · rw [if_neg c2, bd_some]
        by_cases c3 : 122 < gA σ 0 e
        · rw [if_pos c3]
        · exact absurd ⟨c2, c3⟩ hl
/-- a word as a number -/
def wcode (d : Nat → Int) : Nat → Int
  | 0 => 0
  | m + 1 => wcode d m * 32 + d m
theorem wcode_nn {d : Nat → Int} : ∀ m, (∀ k, k < m → 1 ≤ d k ∧ d k ≤ 31) → 0 ≤ wcode d m := by
  intro m
  induction m with
  | zero => intro _; exact Int.le_refl 0
  | succ m ih =>
    intro h
    have h1 := ih (fun k hk => h k (by omega))
    have h2 := h m (by omega)
    show 0 ≤ wcode d m * 32 + d m
    omega
theorem wcode_lt {d : Nat → Int} : ∀ m, (∀ k, k < m → 1 ≤ d k ∧ d k ≤ 31) → wcode d m < 32 ^ m := by
  intro m
  induction m with
  | zero => intro _; exact Int.zero_lt_one
  | succ m ih =>
    intro h
    have h1 := ih (fun k hk => h k (by omega))
    have h2 := h m (by omega)
    show wcode d m * 32 + d m < 32 ^ (m + 1)
    rw [Int.pow_succ]
    omega
theorem wcode_inj {d g : Nat → Int} : ∀ m l, (∀ k, k < m → 1 ≤ d k ∧ d k ≤ 31) → (∀ k, k < l → 1 ≤ g k ∧ g k ≤ 31) → wcode d m = wcode g l → m = l ∧ ∀ k, k < m → d k = g k := by
  intro m
  induction m with
  | zero =>
    intro l h1 h2 e
    cases l with
    | zero => exact ⟨rfl, fun k hk => absurd hk (by omega)⟩
    | succ l =>
      have h3 := wcode_nn l (fun k hk => h2 k (by omega))
      have h4 := h2 l (by omega)
      have e : 0 = wcode g l * 32 + g l := e
      omega
  | succ m ih =>
    intro l h1 h2 e
    have h3 := wcode_nn m (fun k hk => h1 k (by omega))
    have h4 := h1 m (by omega)
    cases l with
    | zero =>
      have e : wcode d m * 32 + d m = 0 := e
      omega
    | succ l =>
      have h5 := wcode_nn l (fun k hk => h2 k (by omega))
      have h6 := h2 l (by omega)
      have e : wcode d m * 32 + d m = wcode g l * 32 + g l := e
      obtain ⟨q1, q2⟩ := ih l (fun k hk => h1 k (by omega)) (fun k hk => h2 k (by omega)) (by omega)
      refine ⟨by omega, fun k hk => ?_⟩
      by_cases w : k = m
      · rw [w]
        subst q1
        omega
      · exact q2 k (by omega)
theorem wcode_eq {d g : Nat → Int} : ∀ m, (∀ k, k < m → d k = g k) → wcode d m = wcode g m := by
  intro m
  induction m with
  | zero => intro _; rfl
  | succ m ih =>
    intro h
    show wcode d m * 32 + d m = wcode g m * 32 + g m
    rw [ih (fun k hk => h k (by omega)), h m (by omega)]
theorem shl5 {v d : Nat} (hv : v < 33554432) (hd : d < 32) : (iI (v : Int) <<< (5 &&& 31)) ||| iI (d : Int) = iI ((v * 32 + d : Nat) : Int) := by
  refine Int32.toBitVec_inj.mp ?_
  rw [Int32.toBitVec_or, Int32.toBitVec_shiftLeft, show ((5 : Int32) &&& 31).toBitVec.smod 32 = 5#32 by decide]
  show (BitVec.ofInt 32 (v : Int) <<< (5#32).toNat) ||| BitVec.ofInt 32 (d : Int) = BitVec.ofInt 32 ((v * 32 + d : Nat) : Int)
  refine BitVec.eq_of_toNat_eq ?_
  rw [BitVec.toNat_or, BitVec.toNat_shiftLeft, show (5#32).toNat = 5 from rfl, BitVec.ofInt_natCast, BitVec.ofInt_natCast, BitVec.ofInt_natCast, BitVec.toNat_ofNat, BitVec.toNat_ofNat, BitVec.toNat_ofNat, Nat.mod_eq_of_lt (show v < 2 ^ 32 by omega), Nat.mod_eq_of_lt (show d < 2 ^ 32 by omega), Nat.mod_eq_of_lt (show v * 32 + d < 2 ^ 32 by omega), Nat.shiftLeft_eq, Nat.mod_eq_of_lt (show v * 2 ^ 5 < 2 ^ 32 by omega), Nat.mul_comm v (2 ^ 5), ← Nat.two_pow_add_eq_or_of_lt (show d < 2 ^ 5 by omega)]
def dgt (f : Nat → Int32) (b k : Nat) : Int := (f (b + k)).toInt - 96
/-- the word as the reference has it -/
def wordV (f : Nat → Int32) (b m : Nat) : Int32 := if m ≤ 6 then iI (wcode (dgt f b) m) else 0
theorem pow32 {m : Nat} (h : m ≤ 6) : (32 : Int) ^ m ≤ 1073741824 := by
  have : m = 0 ∨ m = 1 ∨ m = 2 ∨ m = 3 ∨ m = 4 ∨ m = 5 ∨ m = 6 := by omega
  rcases this with rfl | rfl | rfl | rfl | rfl | rfl | rfl <;> decide
theorem pow32b {m : Nat} (h : m ≤ 5) : (32 : Int) ^ m ≤ 33554432 := by
  have : m = 0 ∨ m = 1 ∨ m = 2 ∨ m = 3 ∨ m = 4 ∨ m = 5 := by omega
  rcases this with rfl | rfl | rfl | rfl | rfl | rfl <;> decide
theorem m_word {τ : St} {n a b e : Nat} (hn : n ≤ 600) (h2 : gI τ 2 = iI n) (h3 : gI τ 3 = iI a) (hb : Run (fun k => gA τ 1 k = 32) n a b) (hr : Run (Lt (gA τ 1)) n b e) : x_X10_word τ = some (wordV (gA τ 1) b (e - b), sI τ 3 (iI b)) := by
  obtain ⟨r1, r2, r3, r4⟩ := hr
  have key := lp_run (f := fun v : (Int32 × Int32 × Int32) => x_X10_word_L14 (sI τ 3 (iI b)) v.1 v.2.1 v.2.2) (fun i => (wordV (gA τ 1) b i, iI (i : Nat), iI ((b + i : Nat) : Int))) (w := (wordV (gA τ 1) b (e - b), iI ((e - b : Nat) : Int), iI ((e : Nat) : Int))) (e - b) FU (by unfold FU; omega) (fun i hi => ?_) ?_
  · have e0 : (wordV (gA τ 1) b 0, iI ((0 : Nat) : Int), iI ((b + 0 : Nat) : Int)) = ((0 : Int32), (0 : Int32), iI (b : Int)) := rfl
    simp only [e0] at key
    unfold x_X10_word
    rw [m_here hn h2 h3 hb, bd2_some, gI_sI, key, bd3_some]
    simp (disch := omega) only [qm6]
    by_cases c : e - b ≤ 6
    · rw [if_pos (by omega)]
    · rw [if_neg (by omega)]
      unfold wordV
      rw [if_neg c]
  · have hl := r3 (b + i) (by omega) (by omega)
    have hlv := hl.val
    have hdi : ∀ k, k < i + 1 → 1 ≤ dgt (gA τ 1) b k ∧ dgt (gA τ 1) b k ≤ 31 := fun k hk => by
      have := (r3 (b + k) (by omega) (by omega)).val
      unfold dgt
      omega
    show x_X10_word_L14 (sI τ 3 (iI b)) (wordV (gA τ 1) b i) (iI (i : Nat)) (iI ((b + i : Nat) : Int)) = _
    unfold x_X10_word_L14
    rw [gI_sIn _ (by omega), h2, gA_sI]
    simp (disch := omega) only [iI_leD, qM6]
    rw [if_neg (by omega), ldI_in (show b + i < lenM 1 from (show b + i < 600 by omega)) (by decide), bd_some, m_isSmall, if_pos hl, bd_some, if_neg (by decide), qa1, qa1]
    by_cases c : 6 ≤ i
    · rw [if_pos (by omega)]
      unfold wordV
      rw [if_neg (by omega)]
      rfl
    · rw [if_neg (by omega), bd_some]
      unfold wordV
      rw [if_pos (by omega), if_pos (by omega)]
      have hnn := wcode_nn i (fun k hk => hdi k (by omega))
      have hlt := wcode_lt i (fun k hk => hdi k (by omega))
      have hp := pow32b (m := i) (by omega)
      obtain ⟨v, hv⟩ := Int.eq_ofNat_of_zero_le hnn
      have hd := hdi i (by omega)
      obtain ⟨d, hd2⟩ := Int.eq_ofNat_of_zero_le (a := dgt (gA τ 1) b i) (by omega)
      have ech : gA τ 1 (b + i) - 96 = iI (d : Int) := by
        rw [← iI_toInt (gA τ 1 (b + i)), qs96]
        congr 1
      rw [ech, hv, shl5 (by omega) (by omega), show wcode (dgt (gA τ 1) b) (i + 1) = ((v * 32 + d : Nat) : Int) from by
        show wcode (dgt (gA τ 1) b) i * 32 + dgt (gA τ 1) b i = _
        rw [hv, hd2]; rfl]
      rfl
  · rw [show b + (e - b) = e from by omega]
    show x_X10_word_L14 (sI τ 3 (iI b)) (wordV (gA τ 1) b (e - b)) (iI ((e - b : Nat) : Int)) (iI ((e : Nat) : Int)) = _
    unfold x_X10_word_L14
    rw [gI_sIn _ (by omega), h2, gA_sI]
    simp (disch := omega) only [iI_leD]
    by_cases c : n ≤ e
    · rw [if_pos (by omega)]
    · have hl : ¬ Lt (gA τ 1) e := r4 (by omega)
      rw [if_neg (by omega), ldI_in (show e < lenM 1 from (show e < 600 by omega)) (by decide), bd_some, m_isSmall, if_neg hl, bd_some, if_pos rfl]
/-- the words' numbers -/
def WO (i : Nat) : Int32 := (x_X10_of i).getD 0
theorem m_of {i : Nat} (h : i < 9) : x_X10_of i = some (WO i) := (show ∀ i, i < 9 → x_X10_of i = some (WO i) by decide +kernel) i h
theorem of_wcode {i : Nat} (h : i < 9) : WO i = iI (wcode (dgt (chS i) 0) (lenS.getD i 0)) := (show ∀ i, i < 9 → WO i = iI (wcode (dgt (chS i) 0) (lenS.getD i 0)) by decide +kernel) i h
theorem of_ne {i j : Nat} (h : i < 9) (hj : j < 9) (hn : i ≠ j) : WO i ≠ WO j := (show ∀ i, i < 9 → ∀ j, j < 9 → i ≠ j → WO i ≠ WO j by decide +kernel) i h j hj hn
theorem of_nz {i : Nat} (h : i < 9) : WO i ≠ 0 := (show ∀ i, i < 9 → WO i ≠ 0 by decide +kernel) i h
theorem ch_dg {i k : Nat} (h : i < 9) (hk : k < lenS.getD i 0) : 1 ≤ dgt (chS i) 0 k ∧ dgt (chS i) 0 k ≤ 31 := (show ∀ i, i < 9 → ∀ k, k < lenS.getD i 0 → 1 ≤ dgt (chS i) 0 k ∧ dgt (chS i) 0 k ≤ 31 by decide +kernel) i h k hk
theorem word_iff {f : Nat → Int32} {n b e i : Nat} (hr : Run (Lt f) n b e) (hi : i < 9) : wordV f b (e - b) = WO i ↔ Wd f b e i := by
  obtain ⟨r1, r2, r3, r4⟩ := hr
  have hl := lenS_le i hi
  have hdi : ∀ k, k < e - b → 1 ≤ dgt f b k ∧ dgt f b k ≤ 31 := fun k hk => by
    have := (r3 (b + k) (by omega) (by omega)).val
    unfold dgt
    omega
  unfold wordV
  by_cases c : e - b ≤ 6
  · rw [if_pos c, of_wcode hi]
    have n1 := wcode_nn (e - b) hdi
    have l1 := wcode_lt (e - b) hdi
    have p1 := pow32 c
    have n2 := wcode_nn (d := dgt (chS i) 0) (lenS.getD i 0) (fun k hk => ch_dg hi hk)
    have l2 := wcode_lt (d := dgt (chS i) 0) (lenS.getD i 0) (fun k hk => ch_dg hi hk)
    have p2 := pow32 hl
    rw [iI_eqD (by omega) (by omega) (by omega) (by omega)]
    constructor
    · intro q
      obtain ⟨q1, q2⟩ := wcode_inj _ _ hdi (fun k hk => ch_dg hi hk) q
      refine ⟨q1, fun k hk => ?_⟩
      have q3 := q2 k (by omega)
      unfold dgt at q3
      rw [Nat.zero_add] at q3
      exact Int32.toInt_inj.mp (by omega)
    · intro q
      rw [q.1]
      refine wcode_eq _ (fun k hk => ?_)
      unfold dgt
      rw [q.2 k hk, Nat.zero_add]
  · rw [if_neg c]
    constructor
    · intro q; exact absurd q.symm (of_nz hi)
    · intro q; have := q.1; omega
theorem m_pass {τ : St} {n b e : Nat} (hn : n ≤ 600) (h2 : gI τ 2 = iI n) (h3 : gI τ 3 = iI b) (hr : Run (Lt (gA τ 1)) n b e) : x_X10_pass τ = some (sI τ 3 (iI e)) := by
  obtain ⟨r1, r2, r3, r4⟩ := hr
  have key := lp_run (f := fun v : St => x_X10_pass_L0 v) (fun i => sI τ 3 (iI ((b + i : Nat) : Int))) (w := sI τ 3 (iI e)) (e - b) FU (by unfold FU; omega) (fun i hi => ?_) ?_
  · have e0 : sI τ 3 (iI ((b + 0 : Nat) : Int)) = τ := by
      rw [Nat.add_zero, ← h3, sI_gI]
    simp only [e0] at key
    unfold x_X10_pass
    rw [key]; rfl
  · have hl := r3 (b + i) (by omega) (by omega)
    unfold x_X10_pass_L0
    rw [gI_sI, gI_sIn _ (by omega), h2, gA_sI]
    simp (disch := omega) only [iI_leD]
    rw [if_neg (by omega), ldI_in (show b + i < lenM 1 from (show b + i < 600 by omega)) (by decide), bd_some, m_isSmall, if_pos hl, bd_some, if_neg (by decide), bd_some, sI_sI, qa1]
    rfl
  · rw [show b + (e - b) = e from by omega]
    unfold x_X10_pass_L0
    rw [gI_sI, gI_sIn _ (by omega), h2, gA_sI]
    simp (disch := omega) only [iI_leD]
    by_cases c : n ≤ e
    · rw [if_pos (by omega)]
    · have hl : ¬ Lt (gA τ 1) e := r4 (by omega)
      rw [if_neg (by omega), ldI_in (show e < lenM 1 from (show e < 600 by omega)) (by decide), bd_some, m_isSmall, if_neg hl, bd_some, if_pos rfl]
