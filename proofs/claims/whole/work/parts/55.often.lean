/-! often; moves -/
theorem even_nn : ∀ n : Nat, ∃ m, n * (n - 1) = 2 * m := by
  intro n
  induction n with
  | zero => exact ⟨0, rfl⟩
  | succ n ih =>
    obtain ⟨m, hm⟩ := ih
    refine ⟨m + n, ?_⟩
    show (n + 1) * n = _
    cases n with
    | zero => simp at hm ⊢; omega
    | succ n =>
      have : (n + 1) * n = 2 * m := hm
      rw [Nat.add_mul, Nat.one_mul, Nat.mul_add, Nat.mul_one, this]
      omega
/-- twice what it costs by n -/
def tw (b w d n : Nat) : Nat := 2 * b + 2 * w * n + d * w * n * (n - 1)
def cst (b w d n : Nat) : Nat := b + w * n + d * w * n * (n - 1) / 2
theorem tw_cst (b w d n : Nat) : tw b w d n = 2 * cst b w d n := by
  obtain ⟨m, hm⟩ := even_nn n
  have h1 : d * w * n * (n - 1) = 2 * (d * w * m) := by
    rw [Nat.mul_assoc, hm, ← Nat.mul_assoc, Nat.mul_comm (d * w) 2, Nat.mul_assoc]
  unfold tw cst
  rw [h1, Nat.mul_div_cancel_left _ (by omega : 0 < 2), Nat.mul_add, Nat.mul_add, Nat.mul_assoc 2 w n]
theorem cst_le {b w d n : Nat} (hb : b ≤ 9999) (hw : w ≤ 99) (hd : d ≤ 99) (hn : n ≤ 60) : d * w * n * (n - 1) ≤ 34700000 ∧ w * n ≤ 5940 := by
  have h1 : d * w ≤ 99 * 99 := Nat.mul_le_mul hd hw
  have h2 : d * w * n ≤ 99 * 99 * 60 := Nat.mul_le_mul h1 hn
  have h3 : d * w * n * (n - 1) ≤ 99 * 99 * 60 * 59 := Nat.mul_le_mul h2 (by omega)
  have h4 : w * n ≤ 99 * 60 := Nat.mul_le_mul hw hn
  exact ⟨by omega, by omega⟩
theorem jJ_mulN (a b : Nat) : jJ (a : Int) * jJ (b : Int) = jJ ((a * b : Nat) : Int) := by rw [jJ_mul, Int.natCast_mul]
theorem jJ_addN (a b : Nat) : jJ (a : Int) + jJ (b : Int) = jJ ((a + b : Nat) : Int) := by rw [jJ_add, Int.natCast_add]
theorem c_cost {b w d n : Nat} (hb : b ≤ 9999) (hw : w ≤ 99) (hd : d ≤ 99) (h1 : 1 ≤ n) (hn : n ≤ 60) : x_X9_sortingCost (iI b) (iI w) (iI d) (iI n) = some (jJ (cst b w d n : Nat)) := by
  obtain ⟨q1, q2⟩ := cst_le hb hw hd hn
  unfold x_X9_sortingCost
  rw [qs1, show (n : Int) - 1 = ((n - 1 : Nat) : Int) from by omega, jJ_iI (by omega) (by omega), jJ_iI (by omega) (by omega), jJ_iI (by omega) (by omega), jJ_iI (by omega) (by omega), jJ_iI (by omega) (by omega), jJ_mulN, jJ_mulN, jJ_mulN, jJ_mulN, show (2 : Int64) = jJ ((2 : Nat) : Int) from rfl, dvJ_ok (by omega) (by omega) (by omega), bd_some, jJ_addN, jJ_addN]
  rfl
theorem m_twice {b w d n : Nat} (hb : b ≤ 9999) (hw : w ≤ 99) (hd : d ≤ 99) (h1 : 1 ≤ n) (hn : n ≤ 60) : x_X10_twice (iI n) (iI b) (iI w) (iI d) = some (jJ ((2 * cst b w d n : Nat) : Int)) := by
  rw [← tw_cst]
  unfold x_X10_twice
  rw [qs1, show (n : Int) - 1 = ((n - 1 : Nat) : Int) from by omega, jJ_iI (by omega) (by omega), jJ_iI (by omega) (by omega), jJ_iI (by omega) (by omega), jJ_iI (by omega) (by omega), jJ_iI (by omega) (by omega), show (2 : Int64) = jJ ((2 : Nat) : Int) from rfl, jJ_mulN, jJ_mulN, jJ_mulN, jJ_mulN, jJ_mulN, jJ_mulN, jJ_addN, jJ_addN]
  rfl
theorem both_often {σ τ : St} {b w d : Nat} {v : Int32} (hb : b ≤ 9999) (hw : w ≤ 99) (hd : d ≤ 99) : ∃ (k : Nat) (z1 z2 : Int32), 1 ≤ k ∧ k ≤ 60 ∧ lp (fun q : (Int32 × Int32) => x_X9_often_L84 (iI b) (iI w) (iI d) v σ q.1 q.2) FU (1, 2) = some (iI k, z1) ∧ lp (fun q : (Int32 × Int32) => x_X10_often_L68 (iI b) (iI w) (iI d) v τ q.1 q.2) FU (1, 2) = some (iI k, z2) := by
  have key := lp2_inv (f := fun q : (Int32 × Int32) => x_X9_often_L84 (iI b) (iI w) (iI d) v σ q.1 q.2) (g := fun q : (Int32 × Int32) => x_X10_often_L68 (iI b) (iI w) (iI d) v τ q.1 q.2)
    (fun i v x => ∃ k : Nat, 1 ≤ k ∧ k ≤ 60 ∧ v = (iI k, iI ((i + 2 : Nat) : Int)) ∧ x = v) (fun v x => ∃ k : Nat, 1 ≤ k ∧ k ≤ 60 ∧ v.1 = iI k ∧ x.1 = iI k) 59 FU FU (by unfold FU; omega) (by unfold FU; omega) (fun i v x hi hg => ?_) (fun v x hg => ?_) (iI ((1 : Nat) : Int), iI ((2 : Nat) : Int)) (iI ((1 : Nat) : Int), iI ((2 : Nat) : Int)) ⟨1, by omega, by omega, rfl, rfl⟩
  · obtain ⟨⟨v1, v2⟩, ⟨x1, x2⟩, k1, k2, k, h1, h2, rfl, rfl⟩ := key
    exact ⟨k, _, _, h1, h2, k1, k2⟩
  · obtain ⟨k, b1, b2, rfl, rfl⟩ := hg
    have q1 := cst_le hb hw hd b2
    have q2 := cst_le hb hw hd (show i + 2 ≤ 60 by omega)
    have r1 : cst b w d k ≤ 18000000 := by unfold cst; omega
    have r2 : cst b w d (i + 2) ≤ 18000000 := by unfold cst; omega
    have s1 : cst b w d k * (i + 2) ≤ 18000000 * 60 := Nat.mul_le_mul r1 (by omega)
    have s2 : cst b w d (i + 2) * k ≤ 18000000 * 60 := Nat.mul_le_mul r2 b2
    have s3 : 2 * cst b w d k * (i + 2) = 2 * (cst b w d k * (i + 2)) := Nat.mul_assoc _ _ _
    have s4 : 2 * cst b w d (i + 2) * k = 2 * (cst b w d (i + 2) * k) := Nat.mul_assoc _ _ _
    have ec : (0 ≤ lg_cmp (jJ (cst b w d (i + 2) : Nat) * Int32.toInt64 (iI k)) (jJ (cst b w d k : Nat) * Int32.toInt64 (iI ((i + 2 : Nat) : Int)))) ↔ cst b w d k * (i + 2) ≤ cst b w d (i + 2) * k := by
      rw [lg_cmp_ge, jJ_iI (by omega) (by omega), jJ_iI (by omega) (by omega), jJ_mulN, jJ_mulN, jJ_le (by omega) (by omega) (by omega) (by omega)]; omega
    have em : (0 ≤ lg_cmp (jJ ((2 * cst b w d (i + 2) : Nat) : Int) * Int32.toInt64 (iI k)) (jJ ((2 * cst b w d k : Nat) : Int) * Int32.toInt64 (iI ((i + 2 : Nat) : Int)))) ↔ cst b w d k * (i + 2) ≤ cst b w d (i + 2) * k := by
      rw [lg_cmp_ge, jJ_iI (by omega) (by omega), jJ_iI (by omega) (by omega), jJ_mulN, jJ_mulN, s3, s4, jJ_le (by omega) (by omega) (by omega) (by omega)]; omega
    unfold x_X9_often_L84 x_X10_often_L68
    simp (disch := omega) only [qg60, qa1]
    rw [if_neg (by omega), if_neg (by omega), c_cost hb hw hd (by omega) (by omega), bd_some, c_cost hb hw hd b1 b2, bd_some, m_twice hb hw hd (by omega) (by omega), bd_some, m_twice hb hw hd b1 b2, bd_some]
    by_cases c : cst b w d k * (i + 2) ≤ cst b w d (i + 2) * k
    · rw [if_pos (ec.mpr c), if_pos (em.mpr c)]
      exact ⟨_, _, rfl, rfl, k, b1, b2, rfl, rfl⟩
    · rw [if_neg (fun q => c (ec.mp q)), if_neg (fun q => c (em.mp q))]
      exact ⟨_, _, rfl, rfl, i + 2, by omega, by omega, rfl, rfl⟩
  · obtain ⟨k, b1, b2, rfl, rfl⟩ := hg
    unfold x_X9_often_L84 x_X10_often_L68
    simp (disch := omega) only [qg60]
    rw [if_pos (by omega), if_pos (by omega)]
    exact ⟨_, _, rfl, rfl, k, b1, b2, rfl, rfl⟩
theorem m_may0' {τ : St} (h0 : gI τ 0 = 0) : x_X10_may 0 1 2 τ = some (0, refM τ 1 2) := m_may0 (k := 2) h0 (by decide) (by omega)
theorem op_often {σ τ : St} (h : Inv σ τ) (p1 p2 p3 p4 : Int32) : StT [(3, 1)] (x_X9_often p1 p2 p3 p4 σ) (x_X10_often p1 p2 p3 p4 τ) := by
  obtain ⟨T, s, n, ims, h⟩ := h
  obtain ⟨z, hz, rfl⟩ := ex_iI p1
  obtain ⟨y, hy, rfl⟩ := ex_iI p2
  obtain ⟨x, hx, rfl⟩ := ex_iI p3
  obtain ⟨w, hw, rfl⟩ := ex_iI p4
  obtain ⟨τ1, e1, h0, h1⟩ := h.st
  have hi : Inv σ τ1 := ⟨T, s, n, ims, h1⟩
  have hh := h1
  obtain ⟨hT, hs, hC, hM, hSC, hSM, hB, hI, hb⟩ := hh
  have hC8 := hT.1
  have hS24 := hT.2.1
  have hL6 := hT.2.2.1
  have d0 : ∀ a b c e, x_X9_often_b75 a b c e 0 σ = some (.inr (3, refC σ 2)) := fun a b c e => by unfold x_X9_often_b75; rw [c_need0, bt_inr]
  have d1 : ∀ a b c e, x_X9_often_b55 a b c e 0 σ = some (.inr (3, refC σ 2)) := fun a b c e => by unfold x_X9_often_b55; rw [c_need0, bt_inr]
  have d2 : ∀ a b c e, x_X9_often_b36 a b c e 0 σ = some (.inr (3, refC σ 2)) := fun a b c e => by unfold x_X9_often_b36; rw [c_need0, bt_inr]
  have d3 : ∀ a b c e, x_X9_often_b17 a b c e 0 σ = some (.inr (3, refC σ 2)) := fun a b c e => by unfold x_X9_often_b17; rw [c_need0, bt_inr]
  have f0 : ∀ a b c e, x_X10_often_b51 a b c e τ1 = some (0, refM τ1 1 2) := fun a b c e => by
    unfold x_X10_often_b51 x_X10_often_b52
    rw [m_may0' h0, bd2_some, if_pos rfl]
  have ex : x_X10_often (iI z) (iI y) (iI x) (iI w) τ = x_X10_often (iI z) (iI y) (iI x) (iI w) τ := rfl
  have ec : x_X9_often (iI z) (iI y) (iI x) (iI w) σ = x_X9_often (iI z) (iI y) (iI x) (iI w) σ := rfl
  conv at ex => rhs; unfold x_X10_often
  conv at ec => rhs; unfold x_X9_often x_X9_often_b16
  rw [bd_some, e1, m_wn 0 9999 0 9999 rfl rfl hz ⟨by omega, by omega⟩ ⟨by omega, by omega⟩, bd_some, m_wn 0 99 0 99 rfl rfl hy ⟨by omega, by omega⟩ ⟨by omega, by omega⟩, bd_some, m_wn 0 99 0 99 rfl rfl hx ⟨by omega, by omega⟩ ⟨by omega, by omega⟩, bd_some, m_wn 0 2 0 2 rfl rfl hw ⟨by omega, by omega⟩ ⟨by omega, by omega⟩, bd_some, f0] at ex
  obtain ⟨z1, z2⟩ := hz
  obtain ⟨y1, y2⟩ := hy
  obtain ⟨x1, x2⟩ := hx
  obtain ⟨w1, w2⟩ := hw
  simp (disch := omega) only [ql0, qg9999, d3] at ec
  by_cases ez : 0 ≤ z ∧ z ≤ 9999
  · rw [if_pos ez, if_neg (by decide)] at ex
    rw [if_neg (by omega), if_neg (by omega)] at ec
    unfold x_X9_often_b17 x_X9_often_b35 at ec
    rw [c_need1 (by decide), bt_inl] at ec
    simp (disch := omega) only [ql0, qg99, d2] at ec
    by_cases ey : 0 ≤ y ∧ y ≤ 99
    · rw [if_pos ey, if_neg (by decide)] at ex
      rw [if_neg (by omega), if_neg (by omega)] at ec
      unfold x_X9_often_b36 x_X9_often_b54 at ec
      rw [c_need1 (by decide), bt_inl] at ec
      simp (disch := omega) only [ql0, qg99, d1] at ec
      by_cases exx : 0 ≤ x ∧ x ≤ 99
      · rw [if_pos exx, if_neg (by decide)] at ex
        rw [if_neg (by omega), if_neg (by omega)] at ec
        unfold x_X9_often_b55 x_X9_often_b74 at ec
        rw [c_need1 (by decide), bt_inl] at ec
        simp (disch := omega) only [ql0, qg2, d0] at ec
        by_cases ew : 0 ≤ w ∧ w ≤ 2
        · rw [if_pos ew, if_neg (by decide)] at ex
          rw [if_neg (by omega), if_neg (by omega)] at ec
          unfold x_X9_often_b75 at ec
          unfold x_X10_often_b52 at ex
          obtain ⟨b, rfl⟩ := Int.eq_ofNat_of_zero_le ez.1
          obtain ⟨u, rfl⟩ := Int.eq_ofNat_of_zero_le ey.1
          obtain ⟨d, rfl⟩ := Int.eq_ofNat_of_zero_le exx.1
          obtain ⟨k, t1, t2, k1, k2, k3, k4⟩ := both_often (σ := σ) (τ := τ1) (b := b) (w := u) (d := d) (v := iI w) (by omega) (by omega) (by omega)
          rw [c_need1 (by decide), bt_inl, k3, bd2_some] at ec
          rw [m_may1 h0 (by decide), bd2_some, if_neg (by decide), k4, bd2_some] at ex
          by_cases e0 : iI w = 0
          · rw [if_pos e0] at ex ec
            exact StT.inl ec ex h0 hi
          · have q2 := cst_le (b := b) (w := u) (d := d) (n := k) (by omega) (by omega) (by omega) k2
            have r2 : cst b u d k ≤ 18000000 := by unfold cst; omega
            rw [if_neg e0] at ex ec
            rw [m_twice (by omega) (by omega) (by omega) k1 k2, bd_some, jJ_iI (by omega) (by omega), show (2 : Int64) = jJ ((2 : Nat) : Int) from rfl, jJ_mulN, m_frac (by omega) (Nat.lt_of_le_of_lt (show 2 * k ≤ 120 by omega) (by decide)) (by omega), bd_some, Nat.gcd_mul_left] at ex
            rw [c_cost (by omega) (by omega) (by omega) k1 k2, bd_some, jJ_iI (by omega) (by omega), c_least (by omega) (Nat.lt_of_le_of_lt (show k ≤ 120 by omega) (by decide)) (by omega), bd_some] at ec
            have hq : (if iI w - 1 = 0 then 2 * cst b u d k else 2 * k) / (2 * Nat.gcd (cst b u d k) k) = (if iI w - 1 = 0 then cst b u d k else k) / Nat.gcd (cst b u d k) k := by
              split
              · exact Nat.mul_div_mul_left _ _ (by omega)
              · exact Nat.mul_div_mul_left _ _ (by omega)
            rw [hq] at ex
            exact StT.inl ec ex h0 hi
        · rw [if_neg ew, if_pos rfl] at ex
          refine StT.ref (c := 3) h1 (ec.trans ?_) ex List.mem_cons_self
          split
          · rfl
          · split
            · rfl
            · omega
      · rw [if_neg exx, if_pos rfl] at ex
        refine StT.ref (c := 3) h1 (ec.trans ?_) ex List.mem_cons_self
        split
        · rfl
        · split
          · rfl
          · omega
    · rw [if_neg ey, if_pos rfl] at ex
      refine StT.ref (c := 3) h1 (ec.trans ?_) ex List.mem_cons_self
      split
      · rfl
      · split
        · rfl
        · omega
  · rw [if_neg ez, if_pos rfl] at ex
    refine StT.ref (c := 3) h1 (ec.trans ?_) ex List.mem_cons_self
    split
    · rfl
    · split
      · rfl
      · omega
/-- sets of crates as bits -/
theorem shl1 {n : Nat} (h : n ≤ 8) : (1 : Int32) <<< (iI (n : Int) &&& 31) = iI ((2 ^ n : Nat) : Int) := (show ∀ n, n < 9 → (1 : Int32) <<< (iI ((n : Nat) : Int) &&& 31) = iI ((2 ^ n : Nat) : Int) by decide) n (by omega)
theorem ones_eq {v : Nat} (h : v < 256) : x_X10_ones (iI v) = x_J6_bitCount_0f7a4 (iI v) := (show ∀ v, v < 256 → x_X10_ones (iI ((v : Nat) : Int)) = x_J6_bitCount_0f7a4 (iI ((v : Nat) : Int)) by decide +kernel) v h
theorem ones_some (p : Int32) : ∃ r, x_J6_bitCount_0f7a4 p = some r := ⟨_, rfl⟩
/-- loops that are alike where one comes by -/
theorem lpr_eq {V ρ : Type} {f g : V → Option ((Bool × V) ⊕ ρ)} (G : V → Prop) (h : ∀ v, G v → f v = g v ∧ ∀ w, g v = some (.inl (true, w)) → G w) : ∀ (N : Nat) (v : V), G v → lpr f N v = lpr g N v := by
  intro N
  induction N with
  | zero => intro v _; rfl
  | succ N ih =>
    intro v hv
    obtain ⟨h1, h2⟩ := h v hv
    show (match f v with | none => none | some (.inl (true, w)) => lpr f N w | some (.inl (false, w)) => some (.inl w) | some (.inr r) => some (.inr r)) = (match g v with | none => none | some (.inl (true, w)) => lpr g N w | some (.inl (false, w)) => some (.inl w) | some (.inr r) => some (.inr r))
    rw [h1]
    rcases hq : g v with _ | (⟨_ | _, w⟩ | r)
    · rfl
    · rfl
    · exact ih w (h2 w hq)
    · rfl
theorem hasBit_cases (p q : Int32) : x_X9_hasBit p q = some (if ((p >>> (q &&& 31)) &&& 1) = 0 then 0 else 1) := by
  unfold x_X9_hasBit
  split <;> rfl
theorem both_stay {T : Td} {s : Sk} {σ τ : St} (hT : TdOk T) (hs : SkOk (tC T) (tS T) s) (hC : TdC 0 σ T) (hM : TdM 0 τ T) (hSC : SkC σ 0 s) (hSM : SkM τ (tS T) s) (p : Int32) : ∃ r, x_X9_standByNumber p σ = some r ∧ x_X10_mayStay p τ = some r := by
  have hC8 := hT.1
  have heq : lpr (fun v : (Int32 × Int32) => x_X10_mayStay_L4 p τ v.1 v.2) FU ((-1), 0) = lpr (fun v : (Int32 × Int32) => x_X9_standByNumber_L4 p σ v.1 v.2) FU ((-1), 0) := by
    refine lpr_eq (fun v => ∃ i : Nat, i ≤ tC T ∧ v.2 = iI i) (fun v hv => ?_) FU _ ⟨0, by omega, rfl⟩
    obtain ⟨v1, v2⟩ := v
    obtain ⟨i, hi, rfl⟩ := hv
    dsimp only
    unfold x_X10_mayStay_L4 x_X9_standByNumber_L4
    rw [show gI σ 0 = iI (tC T) from hC.1, show gI τ 8 = iI (tC T) from hM.1]
    simp (disch := omega) only [iI_leD]
    by_cases c : (tC T : Int) ≤ i
    · rw [if_pos c, if_pos c]
      exact ⟨rfl, fun w hw => by simp at hw⟩
    · have hi8 : i < 8 := by omega
      rw [if_neg c, if_neg c, ldI_in (show i < lenM 18 from hi8) (by decide), bd_some, f_at, bd_some, atF_in (show i < lenN 18 from hi8) (by decide), hSM.2.2.2 i hi8, show gA σ 18 i = _ from hSC.2.2.2 i hi8]
      simp only [bd_some, hasBit_cases]
      by_cases c2 : ((p >>> (iI (skV s i) &&& 31)) &&& 1) = 0
      · rw [if_pos c2, if_pos c2, if_pos rfl, qa1]
        refine ⟨rfl, fun w hw => ?_⟩
        have := Sum.inl.inj (Option.some.inj hw)
        rw [← (Prod.mk.inj this).2]
        exact ⟨i + 1, by omega, rfl⟩
      · rw [if_neg c2, if_neg c2, if_neg (show ¬ (1 : Int32) = 0 by decide)]
        by_cases c3 : v1 ≤ iI (skV s i)
        · rw [if_pos c3, qa1]
          refine ⟨rfl, fun w hw => ?_⟩
          have := Sum.inl.inj (Option.some.inj hw)
          rw [← (Prod.mk.inj this).2]
          exact ⟨i + 1, by omega, rfl⟩
        · rw [if_neg c3]
          exact ⟨rfl, fun w hw => by simp at hw⟩
  have htot := lpr_inv (f := fun v : (Int32 × Int32) => x_X9_standByNumber_L4 p σ v.1 v.2) (fun i v => v.2 = iI ((i : Nat) : Int)) (fun _ => True) (fun _ => True) (tC T) FU (by unfold FU; omega) (fun i v hi hv => ?_) (fun v hv => ?_) ((-1), 0) rfl
  · unfold x_X9_standByNumber x_X10_mayStay
    rw [heq]
    rcases htot with ⟨w, h1, -⟩ | ⟨r, h1, -⟩
    · rw [h1]; exact ⟨1, rfl, rfl⟩
    · rw [h1]; exact ⟨r, rfl, rfl⟩
  · obtain ⟨v1, v2⟩ := v
    obtain rfl : v2 = iI ((i : Nat) : Int) := hv
    have hi8 : i < 8 := by omega
    dsimp only
    unfold x_X9_standByNumber_L4
    rw [show gI σ 0 = iI (tC T) from hC.1]
    simp (disch := omega) only [iI_leD]
    rw [if_neg (by omega), f_at, bd_some, atF_in (show i < lenN 18 from hi8) (by decide), hasBit_cases, bd_some, qa1]
    by_cases c2 : ((p >>> (gA σ 18 i &&& 31)) &&& 1) = 0
    · rw [if_pos c2, if_pos rfl]
      exact Or.inl ⟨_, rfl, rfl⟩
    · rw [if_neg c2, if_neg (by decide)]
      by_cases c3 : v1 ≤ gA σ 18 i
      · rw [if_pos c3]
        exact Or.inl ⟨_, rfl, rfl⟩
      · rw [if_neg c3]
        exact Or.inr ⟨_, rfl, trivial⟩
  · obtain ⟨v1, v2⟩ := v
    obtain rfl : v2 = iI ((tC T : Nat) : Int) := hv
    dsimp only
    unfold x_X9_standByNumber_L4
    rw [show gI σ 0 = iI (tC T) from hC.1]
    simp (disch := omega) only [iI_leD]
    rw [if_pos (by omega)]
    exact ⟨_, rfl, trivial⟩
theorem pow8 {n : Nat} (h : n ≤ 8) : 1 ≤ 2 ^ n ∧ 2 ^ n ≤ 256 := ⟨Nat.one_le_two_pow, Nat.pow_le_pow_right (n := 2) (by omega) h⟩
theorem op_moves {σ τ : St} (h : Inv σ τ) (p1 : Int32) : StT [(3, 1)] (x_X9_moves p1 σ) (x_X10_moves p1 τ) := by
  obtain ⟨T, s, n, ims, h⟩ := h
  obtain ⟨z, hz, rfl⟩ := ex_iI p1
  obtain ⟨τ1, e1, h0, h1⟩ := h.st
  have hi : Inv σ τ1 := ⟨T, s, n, ims, h1⟩
  have hh := h1
  obtain ⟨hT, hs, hC, hM, hSC, hSM, hB, hI, hb⟩ := hh
  have hC8 := hT.1
  have hS24 := hT.2.1
  have hL6 := hT.2.2.1
  have hp := pow8 hC8
  have key := lp2_inv (f := fun v : (Int32 × Int32) => x_X9_moves_L22 (iI z) σ v.1 v.2) (g := fun v : (Int32 × Int32) => x_X10_moves_L26 (iI z) τ1 v.1 v.2)
    (fun i v x => ∃ k : Nat, k < 256 ∧ v = (iI k, iI ((i + 1 : Nat) : Int)) ∧ x = v) (fun v x => ∃ k : Nat, k < 256 ∧ v.1 = iI k ∧ x.1 = iI k) (2 ^ tC T - 1) FU FU (by unfold FU; omega) (by unfold FU; omega) (fun i v x hi hg => ?_) (fun v x hg => ?_) (iI ((0 : Nat) : Int), iI ((1 : Nat) : Int)) (iI ((0 : Nat) : Int), iI ((1 : Nat) : Int)) ⟨0, by omega, rfl, rfl⟩
  · obtain ⟨⟨v1, v2⟩, ⟨x1, x2⟩, k1, k2, k, hk, rfl, rfl⟩ := key
    have ex : x_X10_moves (iI z) τ = x_X10_moves (iI z) τ := rfl
    have ec : x_X9_moves (iI z) σ = x_X9_moves (iI z) σ := rfl
    conv at ex => rhs; unfold x_X10_moves
    conv at ec => rhs; unfold x_X9_moves x_X9_moves_b10 x_X9_moves_b15
    rw [bd_some, e1, m_wn 0 1 0 1 rfl rfl hz ⟨by omega, by omega⟩ ⟨by omega, by omega⟩, bd_some] at ex
    obtain ⟨z1, z2⟩ := hz
    by_cases e : 0 ≤ z ∧ z ≤ 1
    · rw [if_pos e, m_may1 h0 (by decide), bd2_some, if_neg (by decide), show ((0 : Int32), (1 : Int32)) = (iI ((0 : Nat) : Int), iI ((1 : Nat) : Int)) from rfl, k2, bd2_some, ones_eq hk, show gI τ1 8 = iI (tC T) from hM.1] at ex
      rw [c_need1 (by decide), bt_inl, show ((0 : Int32), (1 : Int32)) = (iI ((0 : Nat) : Int), iI ((1 : Nat) : Int)) from rfl, k1, bd2_some, show gI σ 0 = iI (tC T) from hC.1] at ec
      obtain ⟨r, hr⟩ := ones_some (iI (k : Int))
      rw [hr, bd_some] at ex ec
      by_cases e0 : iI z = 0
      · rw [if_pos e0] at ex
        rw [if_pos e0, if_pos e0] at ec
        exact StT.inl ec ex h0 hi
      · have e2 : iI z = 1 := by
          have hz1 : z = 1 := by
            by_cases q : z = 0
            · exact absurd (by rw [q]; rfl) e0
            · omega
          rw [hz1]; rfl
        rw [if_neg e0] at ex
        rw [if_neg e0, if_pos e2, if_neg e0] at ec
        exact StT.inl ec ex h0 hi
    · rw [if_neg e, m_may0' h0, bd2_some, if_pos rfl] at ex
      simp (disch := omega) only [qe0, qe1] at ec
      rw [if_neg (by omega), if_neg (by omega), c_need0, bt_inr] at ec
      exact StT.ref h1 ec ex List.mem_cons_self
  · obtain ⟨k, hk, rfl, rfl⟩ := hg
    have hi2 : i + 1 < 256 := by omega
    obtain ⟨r1, hr1⟩ := ones_some (iI ((i + 1 : Nat) : Int))
    obtain ⟨r2, hr2⟩ := ones_some (iI (k : Int))
    obtain ⟨r3, q1, q2⟩ := both_stay hT hs hC hM hSC hSM (iI ((i + 1 : Nat) : Int))
    dsimp only
    unfold x_X9_moves_L22 x_X10_moves_L26
    rw [show gI σ 0 = iI (tC T) from hC.1, show gI τ1 8 = iI (tC T) from hM.1, shl1 hC8, ones_eq hi2, ones_eq hk, hr1, hr2, q1, q2]
    simp (disch := omega) only [iI_leD, bd_some, qa1]
    rw [if_neg (show ¬ ((2 ^ tC T : Nat) : Int) ≤ ((i + 1 : Nat) : Int) by omega)]
    by_cases c : r1 ≤ r2
    · rw [if_pos c]
      exact ⟨_, _, rfl, rfl, k, hk, rfl, rfl⟩
    · rw [if_neg c]
      by_cases c2 : r3 = 0
      · rw [if_pos c2]
        exact ⟨_, _, rfl, rfl, k, hk, rfl, rfl⟩
      · rw [if_neg c2]
        exact ⟨_, _, rfl, rfl, i + 1, hi2, rfl, rfl⟩
  · obtain ⟨k, hk, rfl, rfl⟩ := hg
    dsimp only
    unfold x_X9_moves_L22 x_X10_moves_L26
    rw [show gI σ 0 = iI (tC T) from hC.1, show gI τ1 8 = iI (tC T) from hM.1, shl1 hC8]
    simp (disch := omega) only [iI_leD]
    rw [if_pos (show ((2 ^ tC T : Nat) : Int) ≤ ((2 ^ tC T - 1 + 1 : Nat) : Int) by omega), if_pos (show ((2 ^ tC T : Nat) : Int) ≤ ((2 ^ tC T - 1 + 1 : Nat) : Int) by omega)]
    exact ⟨(iI k, iI ((2 ^ tC T - 1 + 1 : Nat) : Int)), (iI k, iI ((2 ^ tC T - 1 + 1 : Nat) : Int)), rfl, rfl, k, hk, rfl, rfl⟩
