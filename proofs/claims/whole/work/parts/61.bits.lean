/-! bits -/
def bt1 (t : Int32) (c : Nat) : Bool := t.toBitVec.getLsbD c
theorem sm31 {c : Nat} (h : c < 32) : (iI ((c : Nat) : Int) &&& 31).toBitVec.smod 32 = BitVec.ofNat 32 c := (show ∀ c, c < 32 → (iI ((c : Nat) : Int) &&& 31).toBitVec.smod 32 = BitVec.ofNat 32 c by decide +kernel) c h
theorem sm32 {c : Nat} (h : c < 32) : (BitVec.ofNat 32 c).toNat = c := by
  rw [BitVec.toNat_ofNat]; omega
theorem bitZ {t : Int32} {c : Nat} (h : c < 32) : ((t >>> (iI (c : Int) &&& 31)) &&& 1 = 0) ↔ bt1 t c = false := by
  rw [← Int32.toBitVec_inj, Int32.toBitVec_and, Int32.toBitVec_shiftRight, sm31 h]
  unfold bt1
  show (t.toBitVec.sshiftRight (BitVec.ofNat 32 c).toNat) &&& 1#32 = 0#32 ↔ _
  rw [sm32 h]
  constructor
  · intro e
    have h2 := congrArg (fun v : BitVec 32 => v.getLsbD 0) e
    simp only [BitVec.getLsbD_and, BitVec.getLsbD_sshiftRight] at h2
    rw [if_pos (by omega)] at h2
    simpa using h2
  · intro e
    refine BitVec.eq_of_getLsbD_eq (fun i hi => ?_)
    rw [BitVec.getLsbD_and, BitVec.getLsbD_sshiftRight]
    by_cases h0 : i = 0
    · subst h0
      rw [if_pos (by omega), Nat.add_zero, e]; simp
    · have : (1#32).getLsbD i = false := by
        rw [BitVec.getLsbD_one]; simp [h0]
      rw [this, Bool.and_false]; simp
theorem bt_or (a b : Int32) (c : Nat) : bt1 (a ||| b) c = (bt1 a c || bt1 b c) := by
  unfold bt1
  rw [Int32.toBitVec_or, BitVec.getLsbD_or]
theorem bt_zero (c : Nat) : bt1 0 c = false := by
  unfold bt1
  show (0#32).getLsbD c = false
  simp
theorem bt_shl {b c : Nat} (hb : b < 32) (hc : c < 32) : bt1 ((1 : Int32) <<< (iI (b : Int) &&& 31)) c = decide (b = c) := by
  unfold bt1
  rw [Int32.toBitVec_shiftLeft, sm31 hb]
  show (1#32 <<< (BitVec.ofNat 32 b).toNat).getLsbD c = _
  rw [sm32 hb, BitVec.getLsbD_shiftLeft, BitVec.getLsbD_one]
  by_cases e : b = c
  · subst e; simp [hb]
  · rw [decide_eq_false e]
    by_cases e2 : c < b
    · simp [e2]
    · have : ¬ c - b = 0 := by omega
      simp [this]
theorem bt_ext {a b : Int32} (h : ∀ c, c < 32 → bt1 a c = bt1 b c) : a = b := Int32.toBitVec_inj.mp (BitVec.eq_of_getLsbD_eq (fun i hi => h i hi))
theorem c_hasBit {t : Int32} {c : Nat} (h : c < 32) : x_X9_hasBit t (iI c) = some (if bt1 t c = true then 1 else 0) := by
  rw [hasBit_cases]
  by_cases e : bt1 t c = true
  · rw [if_pos e, if_neg (fun q => by rw [(bitZ h).mp q] at e; exact absurd e (by decide))]
  · rw [if_neg e, if_pos ((bitZ h).mpr (by simpa using e))]
