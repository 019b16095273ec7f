/-! the game of getting up -/
/-- two loops side by side that may return -/
theorem lpr2_inv {V X ρ π : Type} {f : V → Option ((Bool × V) ⊕ ρ)} {g : X → Option ((Bool × X) ⊕ π)} (G : Nat → V → X → Prop) (K : V → X → Prop) (KR : ρ → π → Prop) (n N M : Nat) (hN : n < N) (hM : n < M)
    (step : ∀ i v x, i < n → G i v x → (∃ v2 x2, f v = some (.inl (true, v2)) ∧ g x = some (.inl (true, x2)) ∧ G (i + 1) v2 x2) ∨ (∃ r q, f v = some (.inr r) ∧ g x = some (.inr q) ∧ KR r q)) (fin : ∀ v x, G n v x → ∃ v2 x2, f v = some (.inl (false, v2)) ∧ g x = some (.inl (false, x2)) ∧ K v2 x2) : ∀ v x, G 0 v x → (∃ v2 x2, lpr f N v = some (.inl v2) ∧ lpr g M x = some (.inl x2) ∧ K v2 x2) ∨ (∃ r q, lpr f N v = some (.inr r) ∧ lpr g M x = some (.inr q) ∧ KR r q) := by
  have key : ∀ (d N M i : Nat) (v : V) (x : X), i + d = n → d < N → d < M → G i v x → (∃ v2 x2, lpr f N v = some (.inl v2) ∧ lpr g M x = some (.inl x2) ∧ K v2 x2) ∨ (∃ r q, lpr f N v = some (.inr r) ∧ lpr g M x = some (.inr q) ∧ KR r q) := by
    intro d
    induction d with
    | zero =>
      intro N M i v x hi hN hM hg
      obtain ⟨N, rfl⟩ : ∃ m, N = m + 1 := ⟨N - 1, by omega⟩
      obtain ⟨M, rfl⟩ : ∃ m, M = m + 1 := ⟨M - 1, by omega⟩
      have ef : lpr f (N + 1) v = (match f v with | none => none | some (.inl (true, w)) => lpr f N w | some (.inl (false, w)) => some (.inl w) | some (.inr r) => some (.inr r)) := rfl
      have eg : lpr g (M + 1) x = (match g x with | none => none | some (.inl (true, w)) => lpr g M w | some (.inl (false, w)) => some (.inl w) | some (.inr r) => some (.inr r)) := rfl
      obtain rfl : i = n := by omega
      obtain ⟨v2, x2, h1, h2, h3⟩ := fin v x hg
      exact Or.inl ⟨v2, x2, by rw [ef, h1], by rw [eg, h2], h3⟩
    | succ d ih =>
      intro N M i v x hi hN hM hg
      obtain ⟨N, rfl⟩ : ∃ m, N = m + 1 := ⟨N - 1, by omega⟩
      obtain ⟨M, rfl⟩ : ∃ m, M = m + 1 := ⟨M - 1, by omega⟩
      have ef : lpr f (N + 1) v = (match f v with | none => none | some (.inl (true, w)) => lpr f N w | some (.inl (false, w)) => some (.inl w) | some (.inr r) => some (.inr r)) := rfl
      have eg : lpr g (M + 1) x = (match g x with | none => none | some (.inl (true, w)) => lpr g M w | some (.inl (false, w)) => some (.inl w) | some (.inr r) => some (.inr r)) := rfl
      rcases step i v x (by omega) hg with ⟨v2, x2, h1, h2, h3⟩ | ⟨r, q, h1, h2, h3⟩
      · rw [ef, eg, h1, h2]
        exact ih N M (i + 1) v2 x2 (by omega) (by omega) (by omega) h3
      · exact Or.inr ⟨r, q, by rw [ef, h1], by rw [eg, h2], h3⟩
  exact fun v x hg => key n N M 0 v x (by omega) hN hM hg
def cntN (hr : Nat → Nat) (x : Nat) : Nat → Nat
  | 0 => 0
  | i + 1 => cntN hr x i + (if hr i = x then 1 else 0)
def mnF (hr : Nat → Nat) (H : Nat) : Nat → Nat
  | 0 => H
  | i + 1 => if hr i < mnF hr H i then hr i else mnF hr H i
theorem cntN_le (hr : Nat → Nat) (x i : Nat) : cntN hr x i ≤ i := by
  induction i with
  | zero => exact Nat.le_refl _
  | succ i ih => unfold cntN; split <;> omega
theorem cntN_zero {hr : Nat → Nat} {x i : Nat} (h : ∀ k, k < i → hr k ≠ x) : cntN hr x i = 0 := by
  induction i with
  | zero => rfl
  | succ i ih => unfold cntN; rw [ih (fun k hk => h k (by omega)), if_neg (h i (by omega))]
theorem cntN_pos {hr : Nat → Nat} {x i k : Nat} (hk : k < i) (h : hr k = x) : 0 < cntN hr x i := by
  induction i with
  | zero => omega
  | succ i ih =>
    unfold cntN
    by_cases e : k = i
    · rw [if_pos (by rw [← e]; exact h)]; omega
    · have := ih (by omega); omega
theorem mnF_le (hr : Nat → Nat) (H i : Nat) : (∀ k, k < i → mnF hr H i ≤ hr k) ∧ mnF hr H i ≤ H := by
  induction i with
  | zero => exact ⟨fun k hk => absurd hk (by omega), Nat.le_refl _⟩
  | succ i ih =>
    obtain ⟨h1, h2⟩ := ih
    unfold mnF
    by_cases e : hr i < mnF hr H i
    · rw [if_pos e]
      refine ⟨fun k hk => ?_, by omega⟩
      by_cases e2 : k = i
      · rw [e2]; exact Nat.le_refl _
      · have := h1 k (by omega); omega
    · rw [if_neg e]
      refine ⟨fun k hk => ?_, h2⟩
      by_cases e2 : k = i
      · rw [e2]; omega
      · exact h1 k (by omega)
theorem mnF_at (hr : Nat → Nat) (H i : Nat) : mnF hr H i = H ∨ ∃ k, k < i ∧ mnF hr H i = hr k := by
  induction i with
  | zero => exact Or.inl rfl
  | succ i ih =>
    unfold mnF
    by_cases e : hr i < mnF hr H i
    · rw [if_pos e]; exact Or.inr ⟨i, by omega, rfl⟩
    · rw [if_neg e]
      rcases ih with h | ⟨k, hk, h⟩
      · exact Or.inl h
      · exact Or.inr ⟨k, by omega, h⟩
/-- what one gets -/
def gnF (n H c v : Nat) (hr : Nat → Nat) (who : Nat) : Int := (if hr who = mnF hr H n then ((12 * v / cntN hr (hr who) n : Nat) : Int) else 0) - 12 * c * (H - 1 - hr who)
def RsC (σ : St) (n H c v : Nat) : Prop := gI σ 26 = iI n ∧ gI σ 27 = iI H ∧ gI σ 28 = iI c ∧ gI σ 29 = iI v
def HrC (σ : St) (n : Nat) (hr : Nat → Nat) : Prop := ∀ k, k < n → gA σ 48 k = iI (hr k)
def HrM (τ : St) (n : Nat) (hr : Nat → Nat) : Prop := ∀ k, k < n → gA τ 34 k = iI (hr k)
def RsB (n H c v : Nat) : Prop := 2 ≤ n ∧ n ≤ 4 ∧ 2 ≤ H ∧ H ≤ 4 ∧ c ≤ 99 ∧ 1 ≤ v ∧ v ≤ 999
theorem dvN {a b : Nat} (ha : a < 2147483648) (hb : b < 2147483648) (h0 : 0 < b) : dvI (iI (a : Int)) (iI (b : Int)) = some (iI ((a / b : Nat) : Int)) := by
  unfold dvI
  rw [i0, if_neg (by rw [iI_eqD (by omega) (by omega) (by omega) (by omega)]; omega), iI_div ha hb]
theorem rmN {a b : Nat} (ha : a < 2147483648) (hb : b < 2147483648) (h0 : 0 < b) : rmI (iI (a : Int)) (iI (b : Int)) = some (iI ((a % b : Nat) : Int)) := by
  unfold rmI
  rw [i0, if_neg (by rw [iI_eqD (by omega) (by omega) (by omega) (by omega)]; omega), iI_div ha hb, iI_mul, iI_sub]
  congr 2
  have := Nat.div_add_mod a b
  have h2 : ((b * (a / b) : Nat) : Int) = (b : Int) * ((a / b : Nat) : Int) := Int.natCast_mul _ _
  rw [Int.mul_comm]
  omega
theorem at48 {σ : St} {n : Nat} {hr : Nat → Nat} (h : HrC σ n hr) (hn : n ≤ 4) {k : Nat} (hk : k < n) : x_X2_at 48 (iI k) σ = some (iI (hr k)) := by
  rw [f_at, atF_in (show k < lenN 48 from (show k < 4 by omega)) (by decide), h k hk]
theorem c_gain {σ : St} {n H c v : Nat} {hr : Nat → Nat} (hb : RsB n H c v) (hs : RsC σ n H c v) (h : HrC σ n hr) (hH : ∀ k, k < n → hr k < H) {who : Nat} (hw : who < n) : x_X4_gainOf (iI who) σ = some (iI (gnF n H c v hr who)) := by
  obtain ⟨b1, b2, b3, b4, b5, b6, b7⟩ := hb
  obtain ⟨s1, s2, s3, s4⟩ := hs
  have hwH := hH who hw
  have key := lpr_inv (f := fun q : (Int32 × Int32) => x_X4_gainOf_L14 (iI (hr who)) σ q.1 q.2) (fun i q => q = (iI (cntN hr (hr who) i : Nat), iI ((i : Nat) : Int)) ∧ ∀ k, k < i → hr who ≤ hr k) (fun q => q.1 = iI (cntN hr (hr who) n : Nat) ∧ ∀ k, k < n → hr who ≤ hr k) (fun r => r = iI (0 - 12 * (c : Int) * (H - 1 - hr who)) ∧ ∃ k, k < n ∧ hr k < hr who) n FU (by unfold FU; omega) (fun i q hi hg => ?_) (fun q hg => ?_) (iI ((0 : Nat) : Int), iI ((0 : Nat) : Int)) ⟨rfl, fun k hk => absurd hk (by omega)⟩
  · unfold x_X4_gainOf
    rw [at48 h b2 hw, bd_some]
    show bs2 (lpr _ FU (iI ((0 : Nat) : Int), iI ((0 : Nat) : Int))) _ _ = _
    have hm := mnF_le hr H n
    rcases key with ⟨⟨q1, q2⟩, k1, rfl, k3⟩ | ⟨r, k1, rfl, k, k2, k3⟩
    · rw [k1]
      have hpos : 0 < cntN hr (hr who) n := cntN_pos hw rfl
      have hle := cntN_le hr (hr who) n
      show (if iI ((cntN hr (hr who) n : Nat) : Int) ≤ 0 then _ else _) = _
      simp (disch := omega) only [qm0]
      rw [if_neg (by omega), s4, show (12 : Int32) * iI (v : Int) = iI ((12 * v : Nat) : Int) from iI_mul 12 v, dvN (by omega) (by omega) hpos, bd_some]
      unfold x_X4_gainOf_b92
      rw [s2, s3, qs1, iI_sub, qy12, iI_mul, iI_sub]
      have he : hr who = mnF hr H n := by
        have h1 := hm.1 who hw
        rcases mnF_at hr H n with e | ⟨k, hk, e⟩
        · omega
        · have := k3 k hk; omega
      unfold gnF
      rw [if_pos he]
    · rw [k1]
      have he : ¬ hr who = mnF hr H n := by have := hm.1 k k2; omega
      unfold gnF
      rw [if_neg he]; rfl
  · obtain ⟨rfl, hq⟩ := hg
    have hbi := hH i hi
    have hle := cntN_le hr (hr who) i
    unfold x_X4_gainOf_L14
    rw [s1]
    simp (disch := omega) only [iI_leD]
    rw [if_neg (by omega), at48 h b2 hi, bd_some, bd_some]
    simp (disch := omega) only [iI_leD, iI_eqD, qa1]
    by_cases e1 : ((hr who : Nat) : Int) ≤ hr i
    · rw [if_pos e1]
      left
      by_cases e2 : ((hr i : Nat) : Int) = hr who
      · rw [if_pos e2]
        refine ⟨_, rfl, ?_, fun k hk => ?_⟩
        · show _ = (iI ((cntN hr (hr who) i + (if hr i = hr who then 1 else 0) : Nat) : Int), _)
          rw [if_pos (by omega)]; rfl
        · by_cases e3 : k = i
          · rw [e3]; omega
          · exact hq k (by omega)
      · rw [if_neg e2]
        refine ⟨_, rfl, ?_, fun k hk => ?_⟩
        · show _ = (iI ((cntN hr (hr who) i + (if hr i = hr who then 1 else 0) : Nat) : Int), _)
          rw [if_neg (by omega)]; rfl
        · by_cases e3 : k = i
          · rw [e3]; omega
          · exact hq k (by omega)
    · rw [if_neg e1]
      right
      refine ⟨_, rfl, ?_, i, hi, by omega⟩
      rw [s2, s3, qs1, iI_sub, show (-12 : Int32) = iI (-12) from rfl, iI_mul, iI_mul]
      congr 1
      rw [Int.neg_mul, Int.neg_mul]; omega
  · obtain ⟨rfl, hq⟩ := hg
    unfold x_X4_gainOf_L14
    rw [s1]
    simp (disch := omega) only [iI_leD]
    rw [if_pos (by omega)]
    exact ⟨_, rfl, rfl, hq⟩
theorem m_gain {τ : St} {n H c v : Nat} {hr : Nat → Nat} (hb : RsB n H c v) (h : HrM τ n hr) (hH : ∀ k, k < n → hr k < H) {who : Nat} (hw : who < n) : x_X10_gets (iI who) (iI n) (iI H) (iI c) (iI v) τ = some (iI (gnF n H c v hr who)) := by
  obtain ⟨b1, b2, b3, b4, b5, b6, b7⟩ := hb
  have hwH := hH who hw
  have ld : ∀ k, k < n → ldI (gA τ 34) (lenM 34) (iI (k : Int)) = some (iI (hr k)) := fun k hk => by
    rw [ldI_in (show k < lenM 34 from (show k < 4 by omega)) (by decide), h k hk]
  have key := lp_run (f := fun q : (Int32 × Int32 × Int32) => x_X10_gets_L9 (iI who) (iI n) (iI H) (iI c) (iI v) τ q.1 q.2.1 q.2.2) (fun i => (iI (mnF hr H i : Nat), iI (cntN hr (mnF hr H i) i : Nat), iI ((i : Nat) : Int))) (w := (iI (mnF hr H n : Nat), iI (cntN hr (mnF hr H n) n : Nat), iI ((n : Nat) : Int))) n FU (by unfold FU; omega) (fun i hi => ?_) ?_
  · unfold x_X10_gets
    show bd3 (lp _ FU (iI (mnF hr H 0 : Nat), iI (cntN hr (mnF hr H 0) 0 : Nat), iI ((0 : Nat) : Int))) _ = _
    have hm := mnF_le hr H n
    rw [key, bd3_some, ld who hw, bd_some]
    simp (disch := omega) only [iI_eqD]
    unfold x_X10_gets_b90
    rw [ld who hw]
    unfold gnF
    by_cases e : hr who = mnF hr H n
    · have hpos : 0 < cntN hr (hr who) n := cntN_pos hw rfl
      have hle := cntN_le hr (hr who) n
      rw [if_pos (show ((hr who : Nat) : Int) = mnF hr H n by omega), if_pos e, ← e, show (12 : Int32) * iI (v : Int) = iI ((12 * v : Nat) : Int) from iI_mul 12 v, dvN (by omega) (by omega) hpos, bd_some, bd_some, qs1, iI_sub, qy12, iI_mul, iI_sub]
    · rw [if_neg (show ¬ ((hr who : Nat) : Int) = mnF hr H n by omega), if_neg e, bd_some, qs1, iI_sub, qy12, iI_mul, i0, iI_sub]
  · have hbi := hH i hi
    have hm := mnF_le hr H i
    unfold x_X10_gets_L9 x_X10_gets_b9_39
    simp (disch := omega) only [iI_leD]
    rw [if_neg (by omega), ld i hi, bd_some, bd_some, bd_some]
    simp (disch := omega) only [iI_leD, iI_eqD, qa1, qa0]
    show _ = some (true, (iI ((if hr i < mnF hr H i then hr i else mnF hr H i : Nat) : Int), iI ((cntN hr (if hr i < mnF hr H i then hr i else mnF hr H i) i + (if hr i = (if hr i < mnF hr H i then hr i else mnF hr H i) then 1 else 0) : Nat) : Int), _))
    by_cases e : hr i < mnF hr H i
    · rw [if_pos e, if_neg (by omega), if_pos rfl, cntN_zero (fun k hk => by have := hm.1 k hk; omega), bd_some, if_pos rfl]
      rfl
    · rw [if_neg e, if_pos (by omega)]
      by_cases e2 : hr i = mnF hr H i
      · rw [if_pos (show ((hr i : Nat) : Int) = mnF hr H i by omega), if_pos e2]; rfl
      · rw [if_neg (show ¬ ((hr i : Nat) : Int) = mnF hr H i by omega), if_neg e2]; rfl
  · unfold x_X10_gets_L9
    simp (disch := omega) only [iI_leD]
    rw [if_pos (by omega)]
