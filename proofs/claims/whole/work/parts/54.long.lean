/-! longs; the greatest common divisor; often; moves -/
def jJ (n : Int) : Int64 := Int64.ofInt n
theorem toInt_jJ {n : Int} (h1 : -9223372036854775808 ≤ n) (h2 : n < 9223372036854775808) : (jJ n).toInt = n := Int64.toInt_ofInt_of_le (by omega) (by omega)
theorem jJ_add (a b : Int) : jJ a + jJ b = jJ (a + b) := (Int64.ofInt_add a b).symm
theorem jJ_sub (a b : Int) : jJ a - jJ b = jJ (a - b) := (Int64.ofInt_sub a b).symm
theorem jJ_mul (a b : Int) : jJ a * jJ b = jJ (a * b) := (Int64.ofInt_mul a b).symm
theorem jJ_le {a b : Int} (h1 : -9223372036854775808 ≤ a) (h2 : a < 9223372036854775808) (h3 : -9223372036854775808 ≤ b) (h4 : b < 9223372036854775808) : (jJ a ≤ jJ b) = (a ≤ b) := by
  rw [Int64.le_iff_toInt_le, toInt_jJ h1 h2, toInt_jJ h3 h4]
theorem jJ_lt {a b : Int} (h1 : -9223372036854775808 ≤ a) (h2 : a < 9223372036854775808) (h3 : -9223372036854775808 ≤ b) (h4 : b < 9223372036854775808) : (jJ a < jJ b) = (a < b) := by
  rw [Int64.lt_iff_toInt_lt, toInt_jJ h1 h2, toInt_jJ h3 h4]
theorem jJ_inj {a b : Int} (h1 : -9223372036854775808 ≤ a) (h2 : a < 9223372036854775808) (h3 : -9223372036854775808 ≤ b) (h4 : b < 9223372036854775808) : (jJ a = jJ b) = (a = b) := by
  rw [← Int64.toInt_inj, toInt_jJ h1 h2, toInt_jJ h3 h4]
theorem jJ_iI {n : Int} (h1 : -2147483648 ≤ n) (h2 : n < 2147483648) : Int32.toInt64 (iI n) = jJ n := Int32.toInt64_ofInt (by rw [Int32.toInt_minValue]; omega) (by rw [Int32.toInt_maxValue]; omega)
theorem jJ_div {a b : Nat} (ha : a < 9223372036854775808) (hb : b < 9223372036854775808) : jJ (a : Int) / jJ (b : Int) = jJ ((a / b : Nat) : Int) := by
  unfold jJ
  rw [Int64.ofInt_eq_ofNat, Int64.ofInt_eq_ofNat, Int64.ofInt_eq_ofNat]
  exact (Int64.ofNat_div (by omega) (by omega)).symm
theorem j0 : (0 : Int64) = jJ 0 := rfl
theorem j2 : (2 : Int64) = jJ 2 := rfl
theorem rmJ_ok {a b : Nat} (ha : a < 9223372036854775808) (hb : b < 9223372036854775808) (h0 : 0 < b) : rmJ (jJ a) (jJ b) = some (jJ ((a % b : Nat) : Int)) := by
  unfold rmJ
  rw [j0, if_neg (by rw [jJ_inj (by omega) (by omega) (by omega) (by omega)]; omega), jJ_div ha hb, jJ_mul, jJ_sub]
  congr 2
  have := Nat.div_add_mod a b
  have h2 : ((b * (a / b) : Nat) : Int) = (b : Int) * ((a / b : Nat) : Int) := Int.natCast_mul _ _
  rw [Int.mul_comm]
  omega
theorem dvJ_ok {a b : Nat} (ha : a < 9223372036854775808) (hb : b < 9223372036854775808) (h0 : 0 < b) : dvJ (jJ a) (jJ b) = some (jJ ((a / b : Nat) : Int)) := by
  unfold dvJ
  rw [j0, if_neg (by rw [jJ_inj (by omega) (by omega) (by omega) (by omega)]; omega), jJ_div ha hb]
theorem lp_t {V : Type} {f : V → Option (Bool × V)} {v w : V} {N : Nat} (h : f v = some (true, w)) : lp f (N + 1) v = lp f N w := by
  show (match f v with | none => none | some (true, w) => lp f N w | some (false, w) => some w) = _
  rw [h]
theorem lp_f {V : Type} {f : V → Option (Bool × V)} {v w : V} {N : Nat} (h : f v = some (false, w)) : lp f (N + 1) v = some w := by
  show (match f v with | none => none | some (true, w) => lp f N w | some (false, w) => some w) = _
  rw [h]
def cgF (v : Int64 × Int64 × Int32) : Option (Bool × (Int64 × Int64 × Int32)) := x_X9_commonDivisor_L3 v.1 v.2.1 v.2.2
def mgF (v : Int64 × Int64) : Option (Bool × (Int64 × Int64)) := x_X10_divisor_L6 v.1 v.2
theorem cg_stop (a : Int64) {k : Nat} (hk : k < 100) : cgF (a, jJ ((0 : Nat) : Int), iI k) = some (false, (a, jJ ((0 : Nat) : Int), iI k)) := by
  show x_X9_commonDivisor_L3 a (jJ ((0 : Nat) : Int)) (iI k) = _
  unfold x_X9_commonDivisor_L3
  simp (disch := omega) only [qM100]
  rw [if_neg (by omega), if_pos (show lg_cmp (jJ ((0 : Nat) : Int)) 0 = 0 from (lg_cmp_eq _ _).mpr rfl)]
theorem cg_go {a b k : Nat} (ha : a < 9223372036854775808) (hb : b < 9223372036854775808) (h0 : 0 < b) (hk : k < 100) : cgF (jJ a, jJ b, iI k) = some (true, (jJ b, jJ ((a % b : Nat) : Int), iI ((k + 1 : Nat) : Int))) := by
  show x_X9_commonDivisor_L3 (jJ a) (jJ b) (iI k) = _
  unfold x_X9_commonDivisor_L3
  simp (disch := omega) only [qM100]
  rw [if_neg (by omega), if_neg (by rw [lg_cmp_eq, j0, jJ_inj (by omega) (by omega) (by omega) (by omega)]; omega), rmJ_ok ha hb (by omega), bd_some, qa1]; rfl
theorem mg_stop (a : Int64) : mgF (a, jJ ((0 : Nat) : Int)) = some (false, (a, jJ ((0 : Nat) : Int))) := by
  show x_X10_divisor_L6 a (jJ ((0 : Nat) : Int)) = _
  unfold x_X10_divisor_L6
  rw [if_pos (show lg_cmp (jJ ((0 : Nat) : Int)) 0 = 0 from (lg_cmp_eq _ _).mpr rfl)]
theorem mg_go {a b : Nat} (ha : a < 9223372036854775808) (hb : b < 9223372036854775808) (h0 : 0 < b) : mgF (jJ a, jJ b) = some (true, (jJ b, jJ ((a % b : Nat) : Int))) := by
  show x_X10_divisor_L6 (jJ a) (jJ b) = _
  unfold x_X10_divisor_L6
  rw [if_neg (by rw [lg_cmp_eq, j0, jJ_inj (by omega) (by omega) (by omega) (by omega)]; omega), rmJ_ok ha hb (by omega), bd_some]
theorem gcd_step (a b : Nat) : Nat.gcd a b = Nat.gcd b (a % b) := by rw [Nat.gcd_comm a b, Nat.gcd_rec b a, Nat.gcd_comm]
theorem gcd_half {b r m : Nat} (h0 : 0 < r) (h1 : r < b) (hb : b < 2 ^ (m + 1)) : b % r < 2 ^ m := by
  have hr2 : b % r < r := Nat.mod_lt _ h0
  have h1 := Nat.div_add_mod b r
  have h2 : 1 ≤ b / r := (Nat.one_le_div_iff h0).mpr (by omega)
  have h3 : r * 1 ≤ r * (b / r) := Nat.mul_le_mul_left _ h2
  rw [Nat.pow_succ] at hb
  omega
theorem c_gcd : ∀ (m a b k N : Nat), a < 9223372036854775808 → b < 9223372036854775808 → b < 2 ^ m → k + 2 * m ≤ 99 → 2 * m + 1 < N → ∃ w, lp cgF N (jJ a, jJ b, iI k) = some (jJ (Nat.gcd a b : Nat), w) := by
  intro m
  induction m with
  | zero =>
    intro a b k N ha hb hb2 hk hN
    obtain ⟨N, rfl⟩ : ∃ M, N = M + 1 := ⟨N - 1, by omega⟩
    obtain rfl : b = 0 := by simpa using hb2
    rw [Nat.gcd_zero_right]
    exact ⟨_, lp_f (cg_stop _ (by omega))⟩
  | succ m ih =>
    intro a b k N ha hb hb2 hk hN
    obtain ⟨N, rfl⟩ : ∃ M, N = M + 2 := ⟨N - 2, by omega⟩
    by_cases e : b = 0
    · subst e
      rw [Nat.gcd_zero_right]
      exact ⟨_, lp_f (cg_stop _ (by omega))⟩
    · have hr : a % b < b := Nat.mod_lt _ (by omega)
      rw [lp_t (cg_go (k := k) ha hb (by omega) (by omega)), gcd_step a b]
      by_cases e2 : a % b = 0
      · rw [e2, Nat.gcd_zero_right]
        exact ⟨_, lp_f (cg_stop _ (by omega))⟩
      · have hr2 : b % (a % b) < a % b := Nat.mod_lt _ (by omega)
        rw [lp_t (cg_go (k := k + 1) hb (by omega) (by omega) (by omega)), gcd_step b (a % b)]
        exact ih _ _ _ _ (by omega) (by omega) (gcd_half (by omega) hr hb2) (by omega) (by omega)
theorem m_gcd : ∀ (m a b N : Nat), a < 9223372036854775808 → b < 9223372036854775808 → b < 2 ^ m → 2 * m + 1 < N → ∃ w, lp mgF N (jJ a, jJ b) = some (jJ (Nat.gcd a b : Nat), w) := by
  intro m
  induction m with
  | zero =>
    intro a b N ha hb hb2 hN
    obtain ⟨N, rfl⟩ : ∃ M, N = M + 1 := ⟨N - 1, by omega⟩
    obtain rfl : b = 0 := by simpa using hb2
    rw [Nat.gcd_zero_right]
    exact ⟨_, lp_f (mg_stop _)⟩
  | succ m ih =>
    intro a b N ha hb hb2 hN
    obtain ⟨N, rfl⟩ : ∃ M, N = M + 2 := ⟨N - 2, by omega⟩
    by_cases e : b = 0
    · subst e
      rw [Nat.gcd_zero_right]
      exact ⟨_, lp_f (mg_stop _)⟩
    · have hr : a % b < b := Nat.mod_lt _ (by omega)
      rw [lp_t (mg_go ha hb (by omega)), gcd_step a b]
      by_cases e2 : a % b = 0
      · rw [e2, Nat.gcd_zero_right]
        exact ⟨_, lp_f (mg_stop _)⟩
      · have hr2 : b % (a % b) < a % b := Nat.mod_lt _ (by omega)
        rw [lp_t (mg_go hb (by omega) (by omega)), gcd_step b (a % b)]
        exact ih _ _ _ (by omega) (by omega) (gcd_half (by omega) hr hb2) (by omega)
theorem c_least {a b : Nat} {w : Int32} (ha : a < 9223372036854775808) (hb : b < 2 ^ 40) (h0 : 0 < b) : x_X9_leastTerms (jJ a) (jJ b) w = some (jJ (((if w = 0 then a else b) / Nat.gcd a b : Nat) : Int)) := by
  have hb2 : b < 9223372036854775808 := Nat.lt_trans hb (by decide)
  obtain ⟨⟨y, z⟩, hg⟩ := c_gcd 40 a b 0 FU ha hb2 hb (by omega) (by unfold FU; omega)
  have hg0 : 0 < Nat.gcd a b := Nat.gcd_pos_of_pos_right _ h0
  have hgb : Nat.gcd a b ≤ b := Nat.gcd_le_right _ h0
  have key : ∀ c : Nat, c < 9223372036854775808 → x_X9_leastTerms_b10 (jJ a) (jJ b) (jJ c) = some (jJ ((c / Nat.gcd a b : Nat) : Int)) := by
    intro c hc
    unfold x_X9_leastTerms_b10 x_X9_commonDivisor
    show bd (bd3 (lp cgF FU (jJ a, jJ b, iI ((0 : Nat) : Int))) _) _ = _
    rw [hg, bd3_some, bd_some, if_neg (by rw [lg_cmp_le, j0, jJ_le (by omega) (by omega) (by omega) (by omega)]; omega), dvJ_ok hc (by omega) hg0, bd_some]
  unfold x_X9_leastTerms
  by_cases e : w = 0
  · rw [if_pos e, if_pos e, key a ha]
  · rw [if_neg e, if_neg e, key b hb2]
theorem m_frac {a b : Nat} {w : Int32} (ha : a < 9223372036854775808) (hb : b < 2 ^ 41) (h0 : 0 < b) : x_X10_fraction (jJ a) (jJ b) w = some (jJ (((if w = 0 then a else b) / Nat.gcd a b : Nat) : Int)) := by
  have hb2 : b < 9223372036854775808 := Nat.lt_trans hb (by decide)
  obtain ⟨y, hg⟩ := m_gcd 41 a b FU ha hb2 hb (by unfold FU; omega)
  have hg0 : 0 < Nat.gcd a b := Nat.gcd_pos_of_pos_right _ h0
  have hgb : Nat.gcd a b ≤ b := Nat.gcd_le_right _ h0
  unfold x_X10_fraction x_X10_divisor
  show bd (bd2 (lp mgF FU (jJ a, jJ b)) _) _ = _
  rw [hg, bd2_some, bd_some]
  by_cases e : w = 0
  · rw [if_pos e, if_pos e, dvJ_ok ha (by omega) hg0, bd_some]
  · rw [if_neg e, if_neg e, dvJ_ok hb2 (by omega) hg0, bd_some]
