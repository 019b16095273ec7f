/-! the functional side: rows of numbers (class Numbers) -/
theorem iI_ltD {a b : Int} (h1 : -2147483648 ≤ a) (h2 : a < 2147483648) (h3 : -2147483648 ≤ b) (h4 : b < 2147483648) : (iI a < iI b) = (a < b) := propext (iI_lt ⟨h1, h2⟩ ⟨h3, h4⟩)
theorem iI_leD {a b : Int} (h1 : -2147483648 ≤ a) (h2 : a < 2147483648) (h3 : -2147483648 ≤ b) (h4 : b < 2147483648) : (iI a ≤ iI b) = (a ≤ b) := propext (iI_le ⟨h1, h2⟩ ⟨h3, h4⟩)
theorem iI_eqD {a b : Int} (h1 : -2147483648 ≤ a) (h2 : a < 2147483648) (h3 : -2147483648 ≤ b) (h4 : b < 2147483648) : (iI a = iI b) = (a = b) := propext (iI_inj ⟨h1, h2⟩ ⟨h3, h4⟩)
theorem iI_tnD {n : Int} (h1 : 0 ≤ n) (h2 : n < 2147483648) : (iI n).toNatClampNeg = n.toNat := iI_tn ⟨by omega, h2⟩
theorem i0 : (0 : Int32) = iI 0 := rfl
theorem i1 : (1 : Int32) = iI 1 := rfl
theorem i2 : (2 : Int32) = iI 2 := rfl
theorem i3 : (3 : Int32) = iI 3 := rfl
theorem i4 : (4 : Int32) = iI 4 := rfl
theorem im1 : (-1 : Int32) = iI (-1) := rfl
def atF (f : Nat → Int32) (n : Nat) (p : Int32) : Int32 := if p < 0 then 0 else if nI n ≤ p then 0 else f p.toNatClampNeg
def putF (f : Nat → Int32) (n : Nat) (p v : Int32) : Nat → Int32 := if p < 0 then f else if nI n ≤ p then f else upd f p.toNatClampNeg v
theorem atF_in {f : Nat → Int32} {n k : Nat} (h : k < n) (hn : n < 2147483648) : atF f n (iI k) = f k := by
  simp (disch := omega) only [atF, i0, iI_nat, iI_ltD, iI_leD, iI_tnD]
  rw [if_neg (by omega), if_neg (by omega)]; simp
theorem atF_inZ {f : Nat → Int32} {n : Nat} {z : Int} (h0 : 0 ≤ z) (h : z < n) (hn : n < 2147483648) : atF f n (iI z) = f z.toNat := by
  obtain ⟨k, rfl⟩ := Int.eq_ofNat_of_zero_le h0
  rw [atF_in (by omega) hn]; simp
theorem atF_neg {f : Nat → Int32} {n : Nat} {z : Int} (h0 : z < 0) (h1 : -2147483648 ≤ z) : atF f n (iI z) = 0 := by
  simp (disch := omega) only [atF, i0, iI_ltD]
  rw [if_pos (by omega)]
theorem atF_out {f : Nat → Int32} {n : Nat} {z : Int} (h0 : (n : Int) ≤ z) (h1 : z < 2147483648) : atF f n (iI z) = 0 := by
  simp (disch := omega) only [atF, i0, iI_nat, iI_ltD, iI_leD]
  rw [if_neg (by omega), if_pos (by omega)]
theorem putF_in {f : Nat → Int32} {n k : Nat} {v : Int32} (h : k < n) (hn : n < 2147483648) : putF f n (iI k) v = upd f k v := by
  simp (disch := omega) only [putF, i0, iI_nat, iI_ltD, iI_leD, iI_tnD]
  rw [if_neg (by omega), if_neg (by omega)]; simp
theorem putF_inZ {f : Nat → Int32} {n : Nat} {z : Int} {v : Int32} (h0 : 0 ≤ z) (h : z < n) (hn : n < 2147483648) : putF f n (iI z) v = upd f z.toNat v := by
  obtain ⟨k, rfl⟩ := Int.eq_ofNat_of_zero_le h0
  rw [putF_in (by omega) hn]; simp
theorem putF_out {f : Nat → Int32} {n : Nat} {z : Int} {v : Int32} (h0 : (n : Int) ≤ z) (h1 : z < 2147483648) : putF f n (iI z) v = f := by
  simp (disch := omega) only [putF, i0, iI_nat, iI_ltD, iI_leD]
  rw [if_neg (by omega), if_pos (by omega)]
theorem len_lt (j : Nat) : lenN j < 2147483648 := by have := lenN_le j; omega
theorem f_at (j : Nat) (p : Int32) (σ : St) : x_X2_at j p σ = some (atF (gA σ j) (lenN j) p) := by
  have hn := len_lt j
  obtain ⟨z, hz, rfl⟩ : ∃ z, ok32 z ∧ p = iI z := ⟨p.toInt, ok_iI p, (iI_toInt p).symm⟩
  obtain ⟨h1, h2⟩ := hz
  unfold x_X2_at atF
  by_cases c1 : iI z < 0
  · rw [if_pos c1, if_pos c1]
  · rw [if_neg c1, if_neg c1]
    by_cases c2 : nI (lenN j) ≤ iI z
    · rw [if_pos c2, if_pos c2]
    · rw [if_neg c2, if_neg c2]
      simp (disch := omega) only [i0, iI_nat, iI_ltD, iI_leD] at c1 c2
      obtain ⟨k, rfl⟩ := Int.eq_ofNat_of_zero_le (a := z) (by omega)
      rw [ldI_in (by omega) hn, iI_tnN (by omega)]; rfl
theorem f_put (j : Nat) (p v : Int32) (σ : St) : x_X2_put j p v σ = some (sA σ j (putF (gA σ j) (lenN j) p v)) := by
  have hn := len_lt j
  obtain ⟨z, hz, rfl⟩ : ∃ z, ok32 z ∧ p = iI z := ⟨p.toInt, ok_iI p, (iI_toInt p).symm⟩
  obtain ⟨h1, h2⟩ := hz
  unfold x_X2_put putF
  by_cases c1 : iI z < 0
  · rw [if_pos c1, if_pos c1, sA_gA]
  · rw [if_neg c1, if_neg c1]
    by_cases c2 : nI (lenN j) ≤ iI z
    · rw [if_pos c2, if_pos c2, sA_gA]
    · rw [if_neg c2, if_neg c2]
      simp (disch := omega) only [i0, iI_nat, iI_ltD, iI_leD] at c1 c2
      obtain ⟨k, rfl⟩ := Int.eq_ofNat_of_zero_le (a := z) (by omega)
      rw [stI_in (by omega) hn, iI_tnN (by omega)]; rfl
theorem f_add (j : Nat) (p v : Int32) (σ : St) : x_X2_add j p v σ = some (sA σ j (putF (gA σ j) (lenN j) p (atF (gA σ j) (lenN j) p + v))) := by
  simp only [x_X2_add, f_at, f_put, bd_some]
theorem f_swap (j : Nat) (p q : Int32) (σ : St) : x_X2_swap j p q σ = some (sA σ j (putF (putF (gA σ j) (lenN j) p (atF (gA σ j) (lenN j) q)) (lenN j) q (atF (gA σ j) (lenN j) p))) := by
  simp only [x_X2_swap, f_at, f_put, bd_some, gA_sA, sA_sA]
theorem f_holds (j : Nat) (p : Int32) (σ : St) : x_X2_holds j p σ = some (if p < 0 then 0 else if nI (lenN j) ≤ p then 0 else 1) := by
  unfold x_X2_holds; split
  · rfl
  · split <;> rfl
theorem f_fill (j : Nat) (v : Int32) (σ : St) : x_X2_fill j v σ = some (sA σ j (fun k => if k < lenN j then v else gA σ j k)) := by
  have hn := lenN_le j
  have key : lp (fun w : Int32 × St => x_X2_fill_L2 j v w.1 w.2) FU (iI ((0 : Nat) : Int), sA σ j (fun k => if k < 0 then v else gA σ j k)) = some (iI ((lenN j : Nat) : Int), sA σ j (fun k => if k < lenN j then v else gA σ j k)) := by
    refine lp_run (fun i => (iI ((i : Nat) : Int), sA σ j (fun k => if k < i then v else gA σ j k))) (lenN j) FU (by unfold FU; omega) (fun i hi => ?_) ?_
    · simp (disch := omega) only [x_X2_fill_L2, iI_nat, iI_leD]
      rw [if_neg (by omega), stI_in hi (by omega), bd_some, i1, iI_add, gA_sA, sA_sA]
      congr 5
      funext k
      simp only [upd]
      by_cases e : k = i
      · rw [if_pos e, if_pos (by omega)]
      · rw [if_neg e]; exact ifc (by omega)
    · simp (disch := omega) only [x_X2_fill_L2, iI_nat, iI_leD]
      rw [if_pos (by omega)]
  unfold x_X2_fill
  have e0 : sA σ j (fun k => if k < 0 then v else gA σ j k) = σ := by
    rw [show (fun k => if k < 0 then v else gA σ j k) = gA σ j from by funext k; rfl, sA_gA]
  rw [e0] at key
  rw [show (0 : Int32) = iI ((0 : Nat) : Int) from rfl, key]; rfl
theorem f_fillByNumber (j : Nat) (σ : St) : x_X2_fillByNumber j σ = some (sA σ j (fun k => if k < lenN j then iI k else gA σ j k)) := by
  have hn := lenN_le j
  have key : lp (fun w : Int32 × St => x_X2_fillByNumber_L2 j w.1 w.2) FU (iI ((0 : Nat) : Int), sA σ j (fun k : Nat => if k < 0 then iI (k : Int) else gA σ j k)) = some (iI ((lenN j : Nat) : Int), sA σ j (fun k => if k < lenN j then iI k else gA σ j k)) := by
    refine lp_run (fun i => (iI ((i : Nat) : Int), sA σ j (fun k => if k < i then iI k else gA σ j k))) (lenN j) FU (by unfold FU; omega) (fun i hi => ?_) ?_
    · simp (disch := omega) only [x_X2_fillByNumber_L2, iI_nat, iI_leD]
      rw [if_neg (by omega), stI_in hi (by omega), bd_some, i1, iI_add, gA_sA, sA_sA]
      congr 5
      funext k
      simp only [upd]
      by_cases e : k = i
      · rw [if_pos e, if_pos (by omega), e]
      · rw [if_neg e]; exact ifc (by omega)
    · simp (disch := omega) only [x_X2_fillByNumber_L2, iI_nat, iI_leD]
      rw [if_pos (by omega)]
  unfold x_X2_fillByNumber
  have e0 : sA σ j (fun k : Nat => if k < 0 then iI (k : Int) else gA σ j k) = σ := by
    rw [show (fun k : Nat => if k < 0 then iI (k : Int) else gA σ j k) = gA σ j from by funext k; rfl, sA_gA]
  rw [e0] at key
  rw [show (0 : Int32) = iI ((0 : Nat) : Int) from rfl, key]; rfl
theorem f_copy (j j1 : Nat) (hj : j1 ≠ j) (hlen : lenN j = lenN j1) (σ : St) : x_X2_copy j j1 σ = some (sA σ j (fun k => if k < lenN j then gA σ j1 k else gA σ j k)) := by
  have hn := lenN_le j
  have key : lp (fun w : Int32 × St => x_X2_copy_L2 j j1 w.1 w.2) FU (iI ((0 : Nat) : Int), sA σ j (fun k => if k < 0 then gA σ j1 k else gA σ j k)) = some (iI ((lenN j : Nat) : Int), sA σ j (fun k => if k < lenN j then gA σ j1 k else gA σ j k)) := by
    refine lp_run (fun i => (iI ((i : Nat) : Int), sA σ j (fun k => if k < i then gA σ j1 k else gA σ j k))) (lenN j) FU (by unfold FU; omega) (fun i hi => ?_) ?_
    · simp (disch := omega) only [x_X2_copy_L2, iI_nat, iI_leD]
      rw [if_neg (by omega), f_at, bd_some, stI_in hi (by omega), bd_some, i1, iI_add, gA_sA, sA_sA, gA_sAn _ hj, ← hlen, atF_in hi (by omega)]
      congr 5
      funext k
      simp only [upd]
      by_cases e : k = i
      · rw [if_pos e, if_pos (by omega), e]
      · rw [if_neg e]; exact ifc (by omega)
    · simp (disch := omega) only [x_X2_copy_L2, iI_nat, iI_leD]
      rw [if_pos (by omega)]
  unfold x_X2_copy
  have e0 : sA σ j (fun k => if k < 0 then gA σ j1 k else gA σ j k) = σ := by
    rw [show (fun k => if k < 0 then gA σ j1 k else gA σ j k) = gA σ j from by funext k; rfl, sA_gA]
  rw [e0] at key
  rw [show (0 : Int32) = iI ((0 : Nat) : Int) from rfl, key]; rfl
/-- the sum of the first n -/
def sumF (f : Nat → Int32) : Nat → Int32
  | 0 => 0
  | n + 1 => sumF f n + f n
theorem f_sum (j : Nat) (σ : St) : x_X2_sum j σ = some (sumF (gA σ j) (lenN j)) := by
  have hn := lenN_le j
  have key : lp (fun w : Int32 × Int32 => x_X2_sum_L4 j σ w.1 w.2) FU (sumF (gA σ j) 0, iI ((0 : Nat) : Int)) = some (sumF (gA σ j) (lenN j), iI ((lenN j : Nat) : Int)) := by
    refine lp_run (fun i => (sumF (gA σ j) i, iI ((i : Nat) : Int))) (lenN j) FU (by unfold FU; omega) (fun i hi => ?_) ?_
    · simp (disch := omega) only [x_X2_sum_L4, iI_nat, iI_leD]
      rw [if_neg (by omega), ldI_in hi (by omega), bd_some, i1, iI_add]
      rfl
    · simp (disch := omega) only [x_X2_sum_L4, iI_nat, iI_leD]
      rw [if_pos (by omega)]
  unfold x_X2_sum
  rw [show ((0 : Int32), (0 : Int32)) = (sumF (gA σ j) 0, iI ((0 : Nat) : Int)) from rfl, key]; rfl
/-- the first place of a number -/
theorem f_placeOf (j : Nat) (v : Int32) (σ : St) : (∃ k, k < lenN j ∧ gA σ j k = v ∧ (∀ i, i < k → gA σ j i ≠ v) ∧ x_X2_placeOf j v σ = some (iI k)) ∨ ((∀ i, i < lenN j → gA σ j i ≠ v) ∧ x_X2_placeOf j v σ = some (-1)) := by
  have hn := lenN_le j
  have key := lpr_inv (f := fun w : Int32 => x_X2_placeOf_L2 j v σ w) (fun i w => w = iI ((i : Nat) : Int) ∧ ∀ q, q < i → gA σ j q ≠ v) (fun _ => ∀ q, q < lenN j → gA σ j q ≠ v) (fun r => ∃ k, k < lenN j ∧ gA σ j k = v ∧ (∀ i, i < k → gA σ j i ≠ v) ∧ r = iI k) (lenN j) FU (by unfold FU; omega) (fun i w hi hg => ?_) (fun w hg => ?_) (iI ((0 : Nat) : Int)) ⟨rfl, fun q hq => absurd hq (by omega)⟩
  · unfold x_X2_placeOf
    rcases key with ⟨w, h1, h2⟩ | ⟨r, h1, k, h2, h3, h4, rfl⟩
    · right
      refine ⟨h2, ?_⟩
      rw [show (0 : Int32) = iI ((0 : Nat) : Int) from rfl, h1]; rfl
    · left
      refine ⟨k, h2, h3, h4, ?_⟩
      rw [show (0 : Int32) = iI ((0 : Nat) : Int) from rfl, h1]; rfl
  · obtain ⟨rfl, hq⟩ := hg
    simp (disch := omega) only [x_X2_placeOf_L2, iI_nat, iI_leD]
    rw [if_neg (by omega), ldI_in hi (by omega), bd_some]
    by_cases e : gA σ j i = v
    · right
      rw [if_pos e]
      exact ⟨_, rfl, i, hi, e, hq, rfl⟩
    · left
      rw [if_neg e, i1, iI_add]
      refine ⟨_, rfl, rfl, fun q hq2 => ?_⟩
      by_cases e2 : q = i
      · rw [e2]; exact e
      · exact hq q (by omega)
  · obtain ⟨rfl, hq⟩ := hg
    simp (disch := omega) only [x_X2_placeOf_L2, iI_nat, iI_leD]
    rw [if_pos (by omega)]
    exact ⟨_, rfl, hq⟩
theorem f_holds1 {j a : Nat} {σ : St} (ha : a < lenN j) : x_X2_holds j (iI a) σ = some 1 := by
  have hn := lenN_le j
  rw [f_holds]
  simp (disch := omega) only [i0, iI_nat, iI_ltD, iI_leD]
  rw [if_neg (by omega), if_neg (by omega)]
/-- what is taken out at one place and put at another -/
def shiftF (f : Nat → Int32) (a b : Nat) : Nat → Int32 := fun k => if k = b then f a else if a ≤ k ∧ k < b then f (k + 1) else if b < k ∧ k ≤ a then f (k - 1) else f k
theorem f_shift (j a b : Nat) (σ : St) (ha : a < lenN j) (hb : b < lenN j) : x_X2_shift j (iI a) (iI b) σ = some (sA σ j (shiftF (gA σ j) a b)) := by
  have hn := lenN_le j
  have h1 : lp (fun w : Int32 × St => x_X2_shift_L26 j (iI a) (iI b) (gA σ j a) w.1 w.2) FU (iI a, σ) = some (iI ((a + (b - a) : Nat) : Int), sA σ j (fun k => if a ≤ k ∧ k < b then gA σ j (k + 1) else gA σ j k)) := by
    have e0 : sA σ j (fun k => if a ≤ k ∧ k < a + 0 then gA σ j (k + 1) else gA σ j k) = σ := by
      rw [show (fun k => if a ≤ k ∧ k < a + 0 then gA σ j (k + 1) else gA σ j k) = gA σ j from by funext k; rw [if_neg (by omega)], sA_gA]
    have := lp_run (f := fun w : Int32 × St => x_X2_shift_L26 j (iI a) (iI b) (gA σ j a) w.1 w.2) (fun i => (iI ((a + i : Nat) : Int), sA σ j (fun k => if a ≤ k ∧ k < a + i then gA σ j (k + 1) else gA σ j k))) (w := (iI ((a + (b - a) : Nat) : Int), sA σ j (fun k => if a ≤ k ∧ k < b then gA σ j (k + 1) else gA σ j k))) (b - a) FU (by unfold FU; omega) (fun i hi => ?_) ?_
    · simp only [e0] at this
      exact this
    · simp (disch := omega) only [x_X2_shift_L26, iI_leD]
      rw [if_neg (by omega), f_at, bd_some, f_put, bd_some, i1, iI_add, gA_sA, sA_sA, show ((a + i : Nat) : Int) + 1 = ((a + i + 1 : Nat) : Int) from by omega, atF_in (by omega) (by omega), putF_in (by omega) (by omega), if_neg (by omega)]
      congr 4
      funext k
      simp only [upd]
      by_cases e : k = a + i
      · rw [if_pos e, if_pos (by omega), e]
      · rw [if_neg e]; exact ifc (by omega)
    · simp (disch := omega) only [x_X2_shift_L26, iI_leD]
      rw [if_pos (by omega)]
      congr 4
      funext k
      exact ifc (by omega)
  have h2 : ∀ σ1 : St, lp (fun w : Int32 × St => x_X2_shift_L55 j (iI b) (gA σ j a) w.1 w.2) FU (iI a, σ1) = some (iI ((a - (a - b) : Nat) : Int), sA σ1 j (fun k => if b < k ∧ k ≤ a then gA σ1 j (k - 1) else gA σ1 j k)) := by
    intro σ1
    have e0 : sA σ1 j (fun k => if a - 0 < k ∧ k ≤ a then gA σ1 j (k - 1) else gA σ1 j k) = σ1 := by
      rw [show (fun k => if a - 0 < k ∧ k ≤ a then gA σ1 j (k - 1) else gA σ1 j k) = gA σ1 j from by funext k; rw [if_neg (by omega)], sA_gA]
    have := lp_run (f := fun w : Int32 × St => x_X2_shift_L55 j (iI b) (gA σ j a) w.1 w.2) (fun i => (iI ((a - i : Nat) : Int), sA σ1 j (fun k => if a - i < k ∧ k ≤ a then gA σ1 j (k - 1) else gA σ1 j k))) (w := (iI ((a - (a - b) : Nat) : Int), sA σ1 j (fun k => if b < k ∧ k ≤ a then gA σ1 j (k - 1) else gA σ1 j k))) (a - b) FU (by unfold FU; omega) (fun i hi => ?_) ?_
    · simp only [e0] at this
      exact this
    · simp (disch := omega) only [x_X2_shift_L55, iI_leD]
      rw [if_neg (by omega), f_at, bd_some, f_put, bd_some, i1, iI_sub, iI_neg, iI_add, gA_sA, sA_sA, show ((a - i : Nat) : Int) - 1 = ((a - i - 1 : Nat) : Int) from by omega, atF_in (by omega) (by omega), putF_in (by omega) (by omega), if_neg (by omega), show ((a - i : Nat) : Int) + -1 = ((a - (i + 1) : Nat) : Int) from by omega]
      congr 4
      funext k
      simp only [upd]
      by_cases e : k = a - i
      · rw [if_pos e, if_pos (by omega), e]
      · rw [if_neg e]; exact ifc (by omega)
    · simp (disch := omega) only [x_X2_shift_L55, iI_leD]
      rw [if_pos (by omega)]
      congr 4
      funext k
      exact ifc (by omega)
  unfold x_X2_shift
  rw [f_holds1 ha, bd_some, if_neg (by decide), f_holds1 hb, bd_some, if_neg (by decide), f_at, bd_some, atF_in ha (by omega), h1, bd2_some, h2, bd2_some, f_put, bd_some, putF_in hb (by omega), gA_sA, gA_sA, sA_sA, sA_sA]
  congr 2
  funext k
  simp only [upd, shiftF]
  by_cases e : k = b
  · rw [if_pos e, if_pos e]
  · rw [if_neg e, if_neg e]
    by_cases c1 : b < k ∧ k ≤ a
    · rw [if_pos c1, if_neg (by omega), if_neg (by omega), if_pos c1]
    · rw [if_neg c1, if_neg c1]
