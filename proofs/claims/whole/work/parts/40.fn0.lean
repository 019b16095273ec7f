/-! the functional side, first layer: ints by Int, states, rows, loops -/
def iI (n : Int) : Int32 := Int32.ofInt n
theorem iI_toInt (x : Int32) : iI x.toInt = x := Int32.ofInt_toInt x
theorem toInt_iI {n : Int} (h1 : -2147483648 ≤ n) (h2 : n < 2147483648) : (iI n).toInt = n := Int32.toInt_ofInt_of_le (by omega) (by omega)
theorem iI_add (a b : Int) : iI a + iI b = iI (a + b) := (Int32.ofInt_add a b).symm
theorem iI_sub (a b : Int) : iI a - iI b = iI (a - b) := (Int32.ofInt_sub a b).symm
theorem iI_mul (a b : Int) : iI a * iI b = iI (a * b) := (Int32.ofInt_mul a b).symm
theorem iI_neg (a : Int) : - iI a = iI (-a) := (Int32.ofInt_neg a).symm
theorem iI_nat (n : Nat) : nI n = iI n := Int32.ofInt_eq_ofNat.symm
theorem iI_lit (n : Nat) : (no_index (OfNat.ofNat n) : Int32) = iI n := Int32.ofInt_eq_ofNat.symm
def ok32 (n : Int) : Prop := -2147483648 ≤ n ∧ n < 2147483648
theorem iI_lt {a b : Int} (ha : ok32 a) (hb : ok32 b) : iI a < iI b ↔ a < b := by
  rw [Int32.lt_iff_toInt_lt, toInt_iI ha.1 ha.2, toInt_iI hb.1 hb.2]
theorem iI_le {a b : Int} (ha : ok32 a) (hb : ok32 b) : iI a ≤ iI b ↔ a ≤ b := by
  rw [Int32.le_iff_toInt_le, toInt_iI ha.1 ha.2, toInt_iI hb.1 hb.2]
theorem iI_inj {a b : Int} (ha : ok32 a) (hb : ok32 b) : iI a = iI b ↔ a = b := by
  rw [← Int32.toInt_inj, toInt_iI ha.1 ha.2, toInt_iI hb.1 hb.2]
theorem iI_tn {n : Int} (ha : ok32 n) : (iI n).toNatClampNeg = n.toNat := by
  show (iI n).toInt.toNat = _
  rw [toInt_iI ha.1 ha.2]
theorem iI_tnN {n : Nat} (h : n < 2147483648) : (iI (n : Int)).toNatClampNeg = n := by
  rw [iI_tn ⟨by omega, by omega⟩]; rfl
theorem ok_iI (x : Int32) : ok32 x.toInt := ⟨by have := Int32.le_toInt x; omega, by have := Int32.toInt_lt x; omega⟩
/-- states -/
theorem gA_sA (σ : St) (k : Nat) (f : Nat → Int32) : gA (sA σ k f) k = f := by simp [gA, sA]
theorem gA_sAn (σ : St) {k j : Nat} (h : j ≠ k) (f : Nat → Int32) : gA (sA σ k f) j = gA σ j := by simp [gA, sA, h]
theorem gI_sI (σ : St) (k : Nat) (v : Int32) : gI (sI σ k v) k = v := by simp [gI, sI]
theorem gI_sIn (σ : St) {k j : Nat} (h : j ≠ k) (v : Int32) : gI (sI σ k v) j = gI σ j := by simp [gI, sI, h]
theorem gI_sA (σ : St) (k j : Nat) (f : Nat → Int32) : gI (sA σ k f) j = gI σ j := rfl
theorem gA_sI (σ : St) (k j : Nat) (v : Int32) : gA (sI σ k v) j = gA σ j := rfl
theorem gL_sA (σ : St) (k j : Nat) (f : Nat → Int32) : gL (sA σ k f) j = gL σ j := rfl
theorem gL_sI (σ : St) (k j : Nat) (v : Int32) : gL (sI σ k v) j = gL σ j := rfl
theorem gJ_sA (σ : St) (k j : Nat) (f : Nat → Int32) : gJ (sA σ k f) j = gJ σ j := rfl
theorem gJ_sI (σ : St) (k j : Nat) (v : Int32) : gJ (sI σ k v) j = gJ σ j := rfl
theorem gI_sJ (σ : St) (k j : Nat) (f : Nat → Int64) : gI (sJ σ k f) j = gI σ j := rfl
theorem gI_sL (σ : St) (k j : Nat) (v : Int64) : gI (sL σ k v) j = gI σ j := rfl
theorem gA_sJ (σ : St) (k j : Nat) (f : Nat → Int64) : gA (sJ σ k f) j = gA σ j := rfl
theorem gA_sL (σ : St) (k j : Nat) (v : Int64) : gA (sL σ k v) j = gA σ j := rfl
theorem gJ_sJ (σ : St) (k : Nat) (f : Nat → Int64) : gJ (sJ σ k f) k = f := by simp [gJ, sJ]
theorem gJ_sJn (σ : St) {k j : Nat} (h : j ≠ k) (f : Nat → Int64) : gJ (sJ σ k f) j = gJ σ j := by simp [gJ, sJ, h]
theorem gL_sL (σ : St) (k : Nat) (v : Int64) : gL (sL σ k v) k = v := by simp [gL, sL]
theorem gL_sLn (σ : St) {k j : Nat} (h : j ≠ k) (v : Int64) : gL (sL σ k v) j = gL σ j := by simp [gL, sL, h]
theorem gL_sJ (σ : St) (k j : Nat) (f : Nat → Int64) : gL (sJ σ k f) j = gL σ j := rfl
theorem gJ_sL (σ : St) (k j : Nat) (v : Int64) : gJ (sL σ k v) j = gJ σ j := rfl
theorem sA_sA (σ : St) (k : Nat) (f g : Nat → Int32) : sA (sA σ k f) k g = sA σ k g := by
  simp only [sA, Prod.mk.injEq, true_and, and_true]; funext j; split <;> rfl
theorem sA_gA (σ : St) (k : Nat) : sA σ k (gA σ k) = σ := by
  obtain ⟨a, b, c⟩ := σ
  simp only [sA, gA, Prod.mk.injEq, true_and, and_true]; funext j
  split
  · next h => rw [h]
  · rfl
theorem sJ_sJ (σ : St) (k : Nat) (f g : Nat → Int64) : sJ (sJ σ k f) k g = sJ σ k g := by
  simp only [sJ, Prod.mk.injEq, true_and]; funext j; split <;> rfl
theorem sJ_gJ (σ : St) (k : Nat) : sJ σ k (gJ σ k) = σ := by
  obtain ⟨a, b, c, d⟩ := σ
  simp only [sJ, gJ, Prod.mk.injEq, true_and]; funext j
  split
  · next h => rw [h]
  · rfl
theorem sI_sI (σ : St) (k : Nat) (v w : Int32) : sI (sI σ k v) k w = sI σ k w := by
  simp only [sI, Prod.mk.injEq, and_true]; funext j; split <;> rfl
theorem sI_gI (σ : St) (k : Nat) : sI σ k (gI σ k) = σ := by
  obtain ⟨a, b⟩ := σ
  simp only [sI, gI, Prod.mk.injEq, and_true]; funext j
  split
  · next h => rw [h]
  · rfl
/-- rows: reads and writes inside -/
theorem ldI_in {f : Nat → Int32} {n k : Nat} (h : k < n) (hn : n < 2147483648) : ldI f n (iI k) = some (f k) := by
  have e : (iI (k : Int)).toNatClampNeg = k := iI_tnN (by omega)
  have e2 : ¬ (iI (k : Int) < 0) := by rw [show (0 : Int32) = iI 0 from rfl, iI_lt ⟨by omega, by omega⟩ ⟨by omega, by omega⟩]; omega
  simp only [ldI, e]
  rw [if_neg]
  rintro (h1 | h1)
  · exact e2 h1
  · omega
theorem ldJ_in {f : Nat → Int64} {n k : Nat} (h : k < n) (hn : n < 2147483648) : ldJ f n (iI k) = some (f k) := by
  have e : (iI (k : Int)).toNatClampNeg = k := iI_tnN (by omega)
  have e2 : ¬ (iI (k : Int) < 0) := by rw [show (0 : Int32) = iI 0 from rfl, iI_lt ⟨by omega, by omega⟩ ⟨by omega, by omega⟩]; omega
  simp only [ldJ, e]
  rw [if_neg]
  rintro (h1 | h1)
  · exact e2 h1
  · omega
theorem stI_in {σ : St} {j n k : Nat} {x : Int32} (h : k < n) (hn : n < 2147483648) : stI σ j n (iI k) x = some (sA σ j (upd (gA σ j) k x)) := by
  have e : (iI (k : Int)).toNatClampNeg = k := iI_tnN (by omega)
  have e2 : ¬ (iI (k : Int) < 0) := by rw [show (0 : Int32) = iI 0 from rfl, iI_lt ⟨by omega, by omega⟩ ⟨by omega, by omega⟩]; omega
  simp only [stI, e]
  rw [if_neg]
  rintro (h1 | h1)
  · exact e2 h1
  · omega
theorem stJ_in {σ : St} {j n k : Nat} {x : Int64} (h : k < n) (hn : n < 2147483648) : stJ σ j n (iI k) x = some (sJ σ j (vp_updL (gJ σ j) k x)) := by
  have e : (iI (k : Int)).toNatClampNeg = k := iI_tnN (by omega)
  have e2 : ¬ (iI (k : Int) < 0) := by rw [show (0 : Int32) = iI 0 from rfl, iI_lt ⟨by omega, by omega⟩ ⟨by omega, by omega⟩]; omega
  simp only [stJ, e]
  rw [if_neg]
  rintro (h1 | h1)
  · exact e2 h1
  · omega
/-- loops -/
theorem lp_run {V : Type} {f : V → Option (Bool × V)} (v : Nat → V) {w : V} : ∀ (n N : Nat), n < N → (∀ i, i < n → f (v i) = some (true, v (i + 1))) → f (v n) = some (false, w) → lp f N (v 0) = some w := by
  have key : ∀ (n N : Nat) (v : Nat → V), n < N → (∀ i, i < n → f (v i) = some (true, v (i + 1))) → f (v n) = some (false, w) → lp f N (v 0) = some w := by
    intro n
    induction n with
    | zero =>
      intro N v hN _ he
      obtain ⟨N, rfl⟩ : ∃ M, N = M + 1 := ⟨N - 1, by omega⟩
      show (match f (v 0) with | none => none | some (true, w) => lp f N w | some (false, w) => some w) = _
      rw [he]
    | succ n ih =>
      intro N v hN hs he
      obtain ⟨N, rfl⟩ : ∃ M, N = M + 1 := ⟨N - 1, by omega⟩
      show (match f (v 0) with | none => none | some (true, w) => lp f N w | some (false, w) => some w) = _
      rw [hs 0 (by omega)]
      exact ih N (fun i => v (i + 1)) (by omega) (fun i hi => hs (i + 1) (by omega)) he
  exact fun n N => key n N v
theorem lp_inv {V : Type} {f : V → Option (Bool × V)} (G : Nat → V → Prop) (K : V → Prop) (n N : Nat) (hN : n < N) (step : ∀ i v, i < n → G i v → ∃ w, f v = some (true, w) ∧ G (i + 1) w) (fin : ∀ v, G n v → ∃ w, f v = some (false, w) ∧ K w) : ∀ v, G 0 v → ∃ w, lp f N v = some w ∧ K w := by
  have key : ∀ (d : Nat) (N : Nat) (i : Nat) (v : V), i + d = n → d < N → G i v → ∃ w, lp f N v = some w ∧ K w := by
    intro d
    induction d with
    | zero =>
      intro N i v hi hN hg
      obtain ⟨N, rfl⟩ : ∃ M, N = M + 1 := ⟨N - 1, by omega⟩
      obtain rfl : i = n := by omega
      obtain ⟨w, h1, h2⟩ := fin v hg
      exact ⟨w, by show (match f v with | none => none | some (true, w) => lp f N w | some (false, w) => some w) = _; rw [h1], h2⟩
    | succ d ih =>
      intro N i v hi hN hg
      obtain ⟨N, rfl⟩ : ∃ M, N = M + 1 := ⟨N - 1, by omega⟩
      obtain ⟨w, h1, h2⟩ := step i v (by omega) hg
      obtain ⟨o, h3, h4⟩ := ih N (i + 1) w (by omega) (by omega) h2
      exact ⟨o, by show (match f v with | none => none | some (true, w) => lp f N w | some (false, w) => some w) = _; rw [h1]; exact h3, h4⟩
  exact fun v hg => key n N 0 v (by omega) hN hg
/-- a loop that falls by a measure -/
theorem lp_meas {V : Type} {f : V → Option (Bool × V)} (G : V → Prop) (μ : V → Nat) (K : V → Prop) (step : ∀ v, G v → (∃ w, f v = some (true, w) ∧ G w ∧ μ w < μ v) ∨ (∃ w, f v = some (false, w) ∧ K w)) : ∀ (N : Nat) (v : V), G v → μ v < N → ∃ w, lp f N v = some w ∧ K w := by
  intro N
  induction N with
  | zero => intro v _ h; omega
  | succ N ih =>
    intro v hg hm
    rcases step v hg with ⟨w, h1, h2, h3⟩ | ⟨w, h1, h2⟩
    · obtain ⟨o, h4, h5⟩ := ih w h2 (by omega)
      exact ⟨o, by show (match f v with | none => none | some (true, w) => lp f N w | some (false, w) => some w) = _; rw [h1]; exact h4, h5⟩
    · exact ⟨w, by show (match f v with | none => none | some (true, w) => lp f N w | some (false, w) => some w) = _; rw [h1], h2⟩
/-- a loop out of which the method may return: by a measure -/
theorem lpr_meas {V ρ : Type} {f : V → Option ((Bool × V) ⊕ ρ)} (G : V → Prop) (μ : V → Nat) (K : V → Prop) (KR : ρ → Prop) (step : ∀ v, G v → (∃ w, f v = some (.inl (true, w)) ∧ G w ∧ μ w < μ v) ∨ (∃ w, f v = some (.inl (false, w)) ∧ K w) ∨ (∃ r, f v = some (.inr r) ∧ KR r)) : ∀ (N : Nat) (v : V), G v → μ v < N → (∃ w, lpr f N v = some (.inl w) ∧ K w) ∨ (∃ r, lpr f N v = some (.inr r) ∧ KR r) := by
  intro N
  induction N with
  | zero => intro v _ h; omega
  | succ N ih =>
    intro v hg hm
    have e : lpr f (N + 1) v = (match f v with | none => none | some (.inl (true, w)) => lpr f N w | some (.inl (false, w)) => some (.inl w) | some (.inr r) => some (.inr r)) := rfl
    rcases step v hg with ⟨w, h1, h2, h3⟩ | ⟨w, h1, h2⟩ | ⟨r, h1, h2⟩
    · rw [e, h1]; exact ih w h2 (by omega)
    · exact Or.inl ⟨w, by rw [e, h1], h2⟩
    · exact Or.inr ⟨r, by rw [e, h1], h2⟩
/-- a counted loop out of which the method may return -/
theorem lpr_inv {V ρ : Type} {f : V → Option ((Bool × V) ⊕ ρ)} (G : Nat → V → Prop) (K : V → Prop) (KR : ρ → Prop) (n N : Nat) (hN : n < N) (step : ∀ i v, i < n → G i v → (∃ w, f v = some (.inl (true, w)) ∧ G (i + 1) w) ∨ (∃ r, f v = some (.inr r) ∧ KR r)) (fin : ∀ v, G n v → ∃ w, f v = some (.inl (false, w)) ∧ K w) : ∀ v, G 0 v → (∃ w, lpr f N v = some (.inl w) ∧ K w) ∨ (∃ r, lpr f N v = some (.inr r) ∧ KR r) := by
  have key : ∀ (d : Nat) (N : Nat) (i : Nat) (v : V), i + d = n → d < N → G i v → (∃ w, lpr f N v = some (.inl w) ∧ K w) ∨ (∃ r, lpr f N v = some (.inr r) ∧ KR r) := by
    intro d
    induction d with
    | zero =>
      intro N i v hi hN hg
      obtain ⟨N, rfl⟩ : ∃ M, N = M + 1 := ⟨N - 1, by omega⟩
      have e : lpr f (N + 1) v = (match f v with | none => none | some (.inl (true, w)) => lpr f N w | some (.inl (false, w)) => some (.inl w) | some (.inr r) => some (.inr r)) := rfl
      obtain rfl : i = n := by omega
      obtain ⟨w, h1, h2⟩ := fin v hg
      exact Or.inl ⟨w, by rw [e, h1], h2⟩
    | succ d ih =>
      intro N i v hi hN hg
      obtain ⟨N, rfl⟩ : ∃ M, N = M + 1 := ⟨N - 1, by omega⟩
      have e : lpr f (N + 1) v = (match f v with | none => none | some (.inl (true, w)) => lpr f N w | some (.inl (false, w)) => some (.inl w) | some (.inr r) => some (.inr r)) := rfl
      rcases step i v (by omega) hg with ⟨w, h1, h2⟩ | ⟨r, h1, h2⟩
      · rw [e, h1]; exact ih N (i + 1) w (by omega) (by omega) h2
      · exact Or.inr ⟨r, by rw [e, h1], h2⟩
  exact fun v hg => key n N 0 v (by omega) hN hg
theorem bd_some {α β : Type} (x : α) (f : α → Option β) : bd (some x) f = f x := rfl
theorem bd2_some {α β δ : Type} (x : α) (y : β) (f : α → β → Option δ) : bd2 (some (x, y)) f = f x y := rfl
theorem bd3_some {α β γ δ : Type} (x : α) (y : β) (z : γ) (f : α → β → γ → Option δ) : bd3 (some (x, y, z)) f = f x y z := rfl
theorem bd4_some {α β γ γ2 δ : Type} (x : α) (y : β) (z : γ) (w : γ2) (f : α → β → γ → γ2 → Option δ) : bd4 (some (x, y, z, w)) f = f x y z w := rfl
theorem bd5_some {α β γ γ2 γ3 δ : Type} (x : α) (y : β) (z : γ) (w : γ2) (v : γ3) (f : α → β → γ → γ2 → γ3 → Option δ) : bd5 (some (x, y, z, w, v)) f = f x y z w v := rfl
theorem lenN_le (j : Nat) : lenN j ≤ 1000 := by
  by_cases h : j < 49
  · exact (show ∀ k, k < 49 → lenN k ≤ 1000 by decide) j h
  · unfold lenN
    rw [List.getD_eq_getElem?_getD, List.getElem?_eq_none (by simp only [List.length_cons, List.length_nil]; omega)]
    exact Nat.zero_le _
theorem ifc {c d : Prop} [Decidable c] [Decidable d] {α : Type} {x y : α} (h : c ↔ d) : (if c then x else y) = (if d then x else y) := by
  by_cases e : c
  · rw [if_pos e, if_pos (h.mp e)]
  · rw [if_neg e, if_neg (fun q => e (h.mpr q))]
