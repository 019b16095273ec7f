/-! basket: bits and longs; what is best for so much -/
theorem jJ_shr {x : Int} {k : Nat} (h1 : -9223372036854775808 ≤ x) (h2 : x < 9223372036854775808) (hk : k < 64) (hb : (Int32.toInt64 (iI (k : Int)) &&& 63).toBitVec.smod 64 = BitVec.ofNat 64 k) : jJ x >>> (Int32.toInt64 (iI (k : Int)) &&& 63) = jJ (x / 2 ^ k) := by
  have e : (jJ x >>> (Int32.toInt64 (iI (k : Int)) &&& 63)).toInt = x / 2 ^ k := by
    show ((jJ x).toBitVec.sshiftRight' ((Int32.toInt64 (iI (k : Int)) &&& 63).toBitVec.smod 64)).toInt = _
    rw [hb, BitVec.toInt_sshiftRight', Int.shiftRight_eq_div_pow, BitVec.toNat_ofNat, Nat.mod_eq_of_lt (Nat.lt_trans hk (by decide))]
    show (jJ x).toInt / _ = _
    rw [toInt_jJ h1 h2]; rfl
  have e2 : jJ (x / 2 ^ k) = jJ ((jJ x >>> (Int32.toInt64 (iI (k : Int)) &&& 63)).toInt) := by rw [e]
  rw [e2]
  exact (Int64.ofInt_toInt _).symm
theorem sh40 : (Int32.toInt64 (iI ((40 : Nat) : Int)) &&& 63).toBitVec.smod 64 = BitVec.ofNat 64 40 := by decide
theorem sh26 : (Int32.toInt64 (iI ((26 : Nat) : Int)) &&& 63).toBitVec.smod 64 = BitVec.ofNat 64 26 := by decide
theorem jJ_shl40 {g : Nat} (h : g < 300) : jJ (g : Int) <<< (Int32.toInt64 40 &&& 63) = jJ ((g * 1099511627776 : Nat) : Int) := (show ∀ g, g < 300 → jJ ((g : Nat) : Int) <<< (Int32.toInt64 40 &&& 63) = jJ ((g * 1099511627776 : Nat) : Int) by decide +kernel) g h
theorem jJ_shl26 {g : Nat} (h : g < 100) : jJ (g : Int) <<< (Int32.toInt64 26 &&& 63) = jJ ((g * 67108864 : Nat) : Int) := (show ∀ g, g < 100 → jJ ((g : Nat) : Int) <<< (Int32.toInt64 26 &&& 63) = jJ ((g * 67108864 : Nat) : Int) by decide +kernel) g h
theorem jJ_one {k : Nat} (h : k < 24) : (1 : Int64) <<< (Int32.toInt64 (iI (k : Int)) &&& 63) = jJ ((2 ^ k : Nat) : Int) := (show ∀ k, k < 24 → (1 : Int64) <<< (Int32.toInt64 (iI ((k : Nat) : Int)) &&& 63) = jJ ((2 ^ k : Nat) : Int) by decide +kernel) k h
theorem jJ_mask {x : Nat} (h : x < 9223372036854775808) : jJ (x : Int) &&& (67108863 : Int64) = jJ ((x % 67108864 : Nat) : Int) := by
  have e : (jJ (x : Int) &&& (67108863 : Int64)).toBitVec = (jJ ((x % 67108864 : Nat) : Int)).toBitVec := by
    refine BitVec.eq_of_toNat_eq ?_
    show ((jJ (x : Int)).toBitVec &&& 67108863#64).toNat = _
    have e1 : ∀ y : Nat, y < 9223372036854775808 → (jJ (y : Int)).toBitVec.toNat = y := by
      intro y hy
      show (BitVec.ofInt 64 (y : Int)).toNat = y
      rw [BitVec.toNat_ofInt]
      omega
    rw [BitVec.toNat_and, e1 x h, e1 (x % 67108864) (by omega)]
    show x &&& (2 ^ 26 - 1) = _
    rw [Nat.and_two_pow_sub_one_eq_mod]
  exact Int64.toBitVec_inj.mp e
theorem shl24 {k : Nat} (h : k < 24) : (1 : Int32) <<< (iI (k : Int) &&& 31) = iI ((2 ^ k : Nat) : Int) := (show ∀ n, n < 24 → (1 : Int32) <<< (iI ((n : Nat) : Int) &&& 31) = iI ((2 ^ n : Nat) : Int) by decide +kernel) k h
theorem or_bit {B k : Nat} (hB : B < 2 ^ k) (hk : k < 24) : iI (B : Int) ||| ((1 : Int32) <<< (iI (k : Int) &&& 31)) = iI ((B + 2 ^ k : Nat) : Int) := by
  rw [shl24 hk, ← iI_nat, ← iI_nat, ← iI_nat]
  refine Int32.toBitVec_inj.mp ?_
  rw [Int32.toBitVec_or]
  show BitVec.ofNat 32 B ||| BitVec.ofNat 32 (2 ^ k) = BitVec.ofNat 32 (B + 2 ^ k)
  rw [← BitVec.ofNat_or]
  congr 1
  have := Nat.two_pow_add_eq_or_of_lt hB 1
  rw [Nat.mul_one] at this
  rw [Nat.or_comm, ← this, Nat.add_comm]
/-- goods, sets and the reference's values by price -/
def encN (G : Nat → Int) (B : Nat → Nat) (p : Nat) : Int := G p * 1099511627776 - (p : Int) * 67108864 - B p
def bkOk (k tot : Nat) (G : Nat → Int) (B : Nat → Nat) : Prop := G 0 = 0 ∧ B 0 = 0 ∧ (∀ p, G p = -1 ∨ (0 ≤ G p ∧ G p ≤ 9 * k ∧ p ≤ tot)) ∧ ∀ p, B p < 2 ^ k
def bkV (M : Nat) (G : Nat → Int) (B : Nat → Nat) (V : Nat → Int) : Prop := ∀ m, m ≤ M → (∀ p, p ≤ m → G p ≠ -1 → encN G B p ≤ V m) ∧ ∃ p, p ≤ m ∧ G p ≠ -1 ∧ encN G B p = V m
/-- one sleeve more -/
def bkC (M c g : Nat) (G : Nat → Int) (p : Nat) : Prop := c ≤ p ∧ p ≤ M ∧ G (p - c) ≠ -1 ∧ G p < G (p - c) + g
theorem bk_step {M k tot c g : Nat} {G G2 : Nat → Int} {B B2 : Nat → Nat} {V V2 : Nat → Int} (h : bkOk k tot G B) (hk : k < 24) (hM : M ≤ 999) (hc : 1 ≤ c) (hg : g ≤ 9) (hV : bkV M G B V)
    (h1 : ∀ p, bkC M c g G p → G2 p = G (p - c) + g ∧ B2 p = B (p - c) + 2 ^ k) (h2 : ∀ p, ¬ bkC M c g G p → G2 p = G p ∧ B2 p = B p)
    (h3 : ∀ m, m ≤ M → V2 m = if c ≤ m ∧ V m < V (m - c) + ((g : Int) * 1099511627776 - (c : Int) * 67108864 - (2 ^ k : Nat)) then V (m - c) + ((g : Int) * 1099511627776 - (c : Int) * 67108864 - (2 ^ k : Nat)) else V m) :
    bkOk (k + 1) (tot + c) G2 B2 ∧ bkV M G2 B2 V2 := by
  obtain ⟨a1, a2, a3, a4⟩ := h
  have hp24 : (2 : Nat) ^ k ≤ 8388608 := Nat.pow_le_pow_right (n := 2) (by omega) (show k ≤ 23 by omega)
  have hpk : (2 : Nat) ^ (k + 1) = 2 * 2 ^ k := by rw [Nat.pow_succ, Nat.mul_comm]
  have ok : bkOk (k + 1) (tot + c) G2 B2 := by
    refine ⟨?_, ?_, fun p => ?_, fun p => ?_⟩
    · rw [(h2 0 (fun q => by have := q.1; omega)).1, a1]
    · rw [(h2 0 (fun q => by have := q.1; omega)).2, a2]
    · by_cases e : bkC M c g G p
      · rw [(h1 p e).1]
        have := a3 (p - c)
        have := e.2.2.1
        have := e.1
        omega
      · rw [(h2 p e).1]
        have := a3 p
        omega
    · by_cases e : bkC M c g G p
      · rw [(h1 p e).2]
        have := a4 (p - c)
        omega
      · rw [(h2 p e).2]
        have := a4 p
        omega
  refine ⟨ok, ?_⟩
  have ea : ∀ p, G p ≠ -1 → G2 p ≠ -1 ∧ encN G B p ≤ encN G2 B2 p := by
    intro p hp
    by_cases e : bkC M c g G p
    · obtain ⟨q1, q2⟩ := h1 p e
      have b1 := a4 p
      have b2 := a4 (p - c)
      have b3 := e.2.2.2
      have b4 := a3 p
      unfold encN
      rw [q1, q2]
      refine ⟨by omega, by omega⟩
    · obtain ⟨q1, q2⟩ := h2 p e
      unfold encN
      rw [q1, q2]
      exact ⟨hp, Int.le_refl _⟩
  have eb : ∀ p, c ≤ p → p ≤ M → G (p - c) ≠ -1 → G2 p ≠ -1 ∧ encN G B (p - c) + ((g : Int) * 1099511627776 - (c : Int) * 67108864 - (2 ^ k : Nat)) ≤ encN G2 B2 p := by
    intro p hcp hpM hp
    have b4 := a3 (p - c)
    by_cases e : bkC M c g G p
    · obtain ⟨q1, q2⟩ := h1 p e
      unfold encN
      rw [q1, q2]
      refine ⟨by omega, ?_⟩
      rw [show ((p - c : Nat) : Int) = (p : Int) - c from by omega]
      omega
    · obtain ⟨q1, q2⟩ := h2 p e
      have b3 : ¬ G p < G (p - c) + g := fun z => e ⟨hcp, hpM, hp, z⟩
      have b5 := a4 p
      have b6 := a3 p
      unfold encN
      rw [q1, q2]
      refine ⟨by omega, ?_⟩
      rw [show ((p - c : Nat) : Int) = (p : Int) - c from by omega]
      omega
  have ec : ∀ p, G2 p ≠ -1 → (G p ≠ -1 ∧ encN G2 B2 p = encN G B p) ∨ (c ≤ p ∧ p ≤ M ∧ G (p - c) ≠ -1 ∧ encN G2 B2 p = encN G B (p - c) + ((g : Int) * 1099511627776 - (c : Int) * 67108864 - (2 ^ k : Nat))) := by
    intro p hp
    by_cases e : bkC M c g G p
    · right
      obtain ⟨q1, q2⟩ := h1 p e
      refine ⟨e.1, e.2.1, e.2.2.1, ?_⟩
      unfold encN
      rw [q1, q2, show ((p - c : Nat) : Int) = (p : Int) - c from by have := e.1; omega]
      omega
    · left
      obtain ⟨q1, q2⟩ := h2 p e
      rw [q1] at hp
      refine ⟨hp, ?_⟩
      unfold encN
      rw [q1, q2]
  intro m hm
  have hle : ∀ p, p ≤ m → G2 p ≠ -1 → encN G2 B2 p ≤ V2 m := by
    intro p hp hg2
    rw [h3 m hm]
    rcases ec p hg2 with ⟨q1, q2⟩ | ⟨q1, q2, q3, q4⟩
    · have := (hV m hm).1 p hp q1
      split <;> omega
    · have := (hV (m - c) (by omega)).1 (p - c) (by omega) q3
      split <;> omega
  refine ⟨hle, ?_⟩
  rw [h3 m hm]
  by_cases e : c ≤ m ∧ V m < V (m - c) + ((g : Int) * 1099511627776 - (c : Int) * 67108864 - (2 ^ k : Nat))
  · rw [if_pos e]
    obtain ⟨p0, r1, r2, r3⟩ := (hV (m - c) (by omega)).2
    obtain ⟨s1, s2⟩ := eb (p0 + c) (by omega) (by omega) (by rw [show p0 + c - c = p0 from by omega]; exact r2)
    have s3 := hle (p0 + c) (by omega) s1
    rw [h3 m hm, if_pos e] at s3
    rw [show p0 + c - c = p0 from by omega] at s2
    exact ⟨p0 + c, by omega, s1, by omega⟩
  · rw [if_neg e]
    obtain ⟨p0, r1, r2, r3⟩ := (hV m hm).2
    obtain ⟨s1, s2⟩ := ea p0 r2
    have s3 := hle p0 r1 s1
    rw [h3 m hm, if_neg e] at s3
    exact ⟨p0, r1, s1, by omega⟩
/-- the least price of the most good is what the reference's value tells -/
theorem bk_best {M k tot best : Nat} {G : Nat → Int} {B : Nat → Nat} {V : Nat → Int} (h : bkOk k tot G B) (hk : k ≤ 24) (hM : M ≤ 999) (hV : bkV M G B V) (hb : best ≤ M) (h1 : G best ≠ -1) (h2 : ∀ p, p ≤ M → G p ≤ G best) (h3 : ∀ p, p < best → G p < G best) : V M = encN G B best := by
  obtain ⟨a1, a2, a3, a4⟩ := h
  have hp24 : (2 : Nat) ^ k ≤ 16777216 := Nat.pow_le_pow_right (n := 2) (by omega) hk
  obtain ⟨p, p1, p2, p3⟩ := (hV M (Nat.le_refl _)).2
  have p4 := (hV M (Nat.le_refl _)).1 best hb h1
  by_cases e : p = best
  · rw [e] at p3; exact p3.symm
  · have q1 := h2 p p1
    have q2 := a4 p
    have q3 := a4 best
    unfold encN at p3 p4 ⊢
    by_cases e2 : G p = G best
    · have : best < p := by
        by_cases z : p < best
        · have := h3 p z; omega
        · omega
      omega
    · omega
