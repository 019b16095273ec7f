/-! the order of crates -/
def secN (s : Sk) (f c : Nat) : Nat := ((rowL s c).length + f) / f
theorem secN_ok (s : Sk) {f : Nat} (hf : 1 ≤ f) (c : Nat) : 1 ≤ secN s f c ∧ secN s f c ≤ 25 := by
  have hl := rowL_len s c
  unfold secN
  constructor
  · exact (Nat.one_le_div_iff (by omega)).mpr (by omega)
  · rw [Nat.div_le_iff_le_mul_add_pred (by omega)]
    have h2 : 24 ≤ 24 * f := by omega
    have h3 : f * 25 = 24 * f + f := by omega
    omega
/-- one crate comes before another -/
def preN (g : Nat → Nat) (s : Sk) (f a b : Nat) : Prop := g b * secN s f a < g a * secN s f b ∨ (g b * secN s f a = g a * secN s f b ∧ a < b)
theorem cross_le {x y z p q r : Nat} (hq : 0 < q) (h1 : x * q ≤ y * p) (h2 : y * r ≤ z * q) : x * r ≤ z * p := by
  refine Nat.le_of_mul_le_mul_right (?_ : x * r * q ≤ z * p * q) hq
  have e1 : x * r * q = x * q * r := by rw [Nat.mul_assoc, Nat.mul_comm r q, ← Nat.mul_assoc]
  have e2 : z * p * q = z * q * p := by rw [Nat.mul_assoc, Nat.mul_comm p q, ← Nat.mul_assoc]
  have e3 : y * p * r = y * r * p := by rw [Nat.mul_assoc, Nat.mul_comm p r, ← Nat.mul_assoc]
  rw [e1, e2]
  refine Nat.le_trans (Nat.mul_le_mul_right r h1) ?_
  rw [e3]
  exact Nat.mul_le_mul_right p h2
theorem preN_trans {g : Nat → Nat} {s : Sk} {f a b c : Nat} (hf : 1 ≤ f) (h1 : preN g s f a b) (h2 : preN g s f b c) : preN g s f a c := by
  have ha := (secN_ok s hf a).1
  have hb := (secN_ok s hf b).1
  have hc := (secN_ok s hf c).1
  unfold preN at h1 h2 ⊢
  have k1 : g b * secN s f a ≤ g a * secN s f b := by omega
  have k2 : g c * secN s f b ≤ g b * secN s f c := by omega
  have k3 : g c * secN s f a ≤ g a * secN s f c := cross_le (by omega) k2 k1
  by_cases e : g c * secN s f a < g a * secN s f c
  · exact Or.inl e
  · have e2 : g a * secN s f c ≤ g c * secN s f a := by omega
    have j1 : g a * secN s f b ≤ g b * secN s f a := cross_le (by omega) e2 k2
    have j2 : g b * secN s f c ≤ g c * secN s f b := cross_le (by omega) k1 e2
    refine Or.inr ⟨by omega, ?_⟩
    omega
theorem preN_asymm {g : Nat → Nat} {s : Sk} {f a b : Nat} (h1 : preN g s f a b) (h2 : preN g s f b a) : False := by
  unfold preN at h1 h2
  omega
def SortedN (g : Nat → Nat) (s : Sk) (f C : Nat) (S : Nat → Nat) : Prop := Bij C S ∧ ∀ i j, i < j → j < C → preN g s f (S i) (S j)
theorem Bij.push {C : Nat} {S : Nat → Nat} (h : Bij C S) : Bij (C + 1) (updN S C C) := by
  refine ⟨fun k hk => ?_, fun i j hi hj e => ?_, fun k hk => ?_⟩
  · unfold updN; split
    · omega
    · have := h.1 k (by omega); omega
  · unfold updN at e
    by_cases q1 : i = C
    · rw [if_pos q1] at e
      by_cases q2 : j = C
      · omega
      · rw [if_neg q2] at e
        have := h.1 j (by omega); omega
    · rw [if_neg q1] at e
      have := h.1 i (by omega)
      by_cases q2 : j = C
      · rw [if_pos q2] at e; omega
      · rw [if_neg q2] at e
        exact h.2.1 i j (by omega) (by omega) e
  · by_cases q : k = C
    · exact ⟨C, by omega, by unfold updN; rw [if_pos rfl, q]⟩
    · obtain ⟨p, hp, e⟩ := h.2.2 k (by omega)
      exact ⟨p, by omega, by unfold updN; rw [if_neg (by omega)]; exact e⟩
theorem m_seconds {τ : St} {nS : Nat} {s : Sk} (hSM : SkM τ nS s) {c f : Nat} (hc : c < 8) (hf : 1 ≤ f) (hf8 : f ≤ 8) : x_X10_seconds (iI c) (iI f) τ = some (iI (secN s f c : Nat)) := by
  have hl := rowL_len s c
  unfold x_X10_seconds
  rw [ldI_in (show c < lenM 16 from hc) (by decide), hSM.1.1 c hc, bd_some, iI_add, show ((rowL s c).length : Int) + f = (((rowL s c).length + f : Nat) : Int) from by omega, dvN (by omega) (by omega) (by omega), bd_some]
  rfl
theorem c_seconds {σ : St} {nC nS : Nat} {s : Sk} (hSC : SkC σ 0 s) (hs : SkOk nC nS s) (hC : nC ≤ 8) {c f : Nat} (hc : c < 8) (hf : 1 ≤ f) (hf8 : f ≤ 8) : x_X8_secondsOf (iI c) (iI f) σ = some (iI (secN s f c : Nat)) := by
  have hl := rowL_len s c
  unfold x_X8_secondsOf x_X9_roundedUp
  rw [c_size (by omega) hSC hs hC c (by omega), bd_some, qa1]
  simp (disch := omega) only [qm0]
  rw [if_neg (by omega), iI_add, qs1, show ((rowL s c).length : Int) + 1 + f - 1 = (((rowL s c).length + f : Nat) : Int) from by omega, dvN (by omega) (by omega) (by omega), bd_some, bd_some]
  rfl
theorem ahead_iff {g : Nat → Nat} {s : Sk} {f a b : Nat} (hf : 1 ≤ f) (hg : ∀ x, g x ≤ 4608 ^ 4) : (lg_cmp (jJ (g a : Nat) * Int32.toInt64 (iI (secN s f b : Nat))) (jJ (g b : Nat) * Int32.toInt64 (iI (secN s f a : Nat))) ≤ 0) ↔ g a * secN s f b ≤ g b * secN s f a := by
  have h1 := secN_ok s hf a
  have h2 := secN_ok s hf b
  have hb2 : (4608 : Nat) ^ 4 = 450868486864896 := by decide
  have p1 : g a * secN s f b ≤ 4608 ^ 4 * 25 := Nat.mul_le_mul (hg a) h2.2
  have p2 : g b * secN s f a ≤ 4608 ^ 4 * 25 := Nat.mul_le_mul (hg b) h1.2
  rw [lg_cmp_le, jJ_iI (by omega) (by omega), jJ_iI (by omega) (by omega), jJ_mulN, jJ_mulN, jJ_le (by omega) (by omega) (by omega) (by omega)]
  omega
/-- the reference's order -/
def OF (τ τ2 : St) : Prop := (∀ k, gI τ2 k = gI τ k) ∧ (∀ j, j ≠ 31 → gA τ2 j = gA τ j) ∧ gL τ2 = gL τ ∧ gJ τ2 = gJ τ
theorem OF.rfl {τ : St} : OF τ τ := ⟨fun _ => Eq.refl _, fun _ _ => Eq.refl _, Eq.refl _, Eq.refl _⟩
theorem OF.trans {a b c : St} (h : OF a b) (k : OF b c) : OF a c := ⟨fun i => (k.1 i).trans (h.1 i), fun i hi => (k.2.1 i hi).trans (h.2.1 i hi), k.2.2.1.trans h.2.2.1, k.2.2.2.trans h.2.2.2⟩
theorem OF.sA {τ : St} {f : Nat → Int32} : OF τ (sA τ 31 f) := ⟨fun _ => Eq.refl _, fun _ hj => gA_sAn _ hj _, Eq.refl _, Eq.refl _⟩
theorem m_insert {τ : St} {T : Td} {s : Sk} {g S : Nat → Nat} {c f : Nat} (hT : TdOk T) (hM : TdM 0 τ T) (hSM : SkM τ (tS T) s) (hsh : Sh (tC T) τ 0 g) (hg : ∀ x, g x ≤ 4608 ^ 4) (hf : 1 ≤ f) (hf8 : f ≤ 8) (hc : c < tC T) (hS : SortedN g s f c S) (hA : ∀ j, j < c → gA τ 31 j = iI (S j)) :
    ∃ τ2 S2, x_X10_findOrder_L9 (iI f) (iI c) τ = some (true, iI ((c + 1 : Nat) : Int), τ2) ∧ OF τ τ2 ∧ SortedN g s f (c + 1) S2 ∧ ∀ j, j < c + 1 → gA τ2 31 j = iI (S2 j) := by
  have hC8 := hT.1
  obtain ⟨hB, hP⟩ := hS
  have key := lp_meas (f := fun v : (Int32 × St) => x_X10_findOrder_L22 (iI f) (iI c) v.1 v.2) (fun v => ∃ i τ2, i ≤ c ∧ v = (iI ((i : Nat) : Int), τ2) ∧ OF τ τ2 ∧ (∀ j, j < i → gA τ2 31 j = iI (S j)) ∧ (∀ j, i < j → j ≤ c → gA τ2 31 j = iI (S (j - 1))) ∧ ∀ j, i ≤ j → j < c → preN g s f c (S j)) (fun v => v.1.toNatClampNeg)
    (fun v => ∃ i τ2, i ≤ c ∧ v = (iI ((i : Nat) : Int), τ2) ∧ OF τ τ2 ∧ (∀ j, j < i → gA τ2 31 j = iI (S j)) ∧ (∀ j, i < j → j ≤ c → gA τ2 31 j = iI (S (j - 1))) ∧ (∀ j, i ≤ j → j < c → preN g s f c (S j)) ∧ (0 < i → preN g s f (S (i - 1)) c)) (fun v hv => ?_) FU (iI (c : Int), τ) ⟨c, τ, Nat.le_refl _, rfl, OF.rfl, hA, fun j h1 h2 => absurd h1 (by omega), fun j h1 h2 => absurd h1 (by omega)⟩ (by
      show (iI (c : Int)).toNatClampNeg < FU
      rw [iI_tnN (by omega)]; unfold FU; omega)
  · obtain ⟨w, k1, i, τ2, hi, rfl, k2, k3, k4, k5, k6⟩ := key
    refine ⟨sA τ2 31 (upd (gA τ2 31) i (iI (c : Int))), shiftN (updN S c c) c i, ?_, k2.trans OF.sA, ⟨hB.push.shift (by omega) (by omega), fun a b hab hb => ?_⟩, fun j hj => ?_⟩
    · unfold x_X10_findOrder_L9
      rw [show gI τ 8 = iI (tC T) from hM.1]
      simp (disch := omega) only [iI_leD]
      rw [if_neg (by omega), k1, bd2_some, stI_in (show i < lenM 31 from (show i < 8 by omega)) (by decide), bd_some, qa1]
      rfl
    · have val : ∀ k, k < c + 1 → shiftN (updN S c c) c i k = if k = i then c else if k < i then S k else S (k - 1) := by
        intro k hk
        unfold shiftN updN
        by_cases e : k = i
        · rw [if_pos e, if_pos e, if_pos rfl]
        · rw [if_neg e, if_neg e]
          by_cases e2 : k < i
          · rw [if_neg (by omega), if_neg (by omega), if_neg (by omega), if_pos e2]
          · rw [if_neg (by omega), if_pos (by omega), if_neg (by omega), if_neg e2]
      rw [val a (by omega), val b hb]
      by_cases ea : a = i
      · rw [if_pos ea, if_neg (by omega), if_neg (by omega)]
        exact k5 _ (by omega) (by omega)
      · rw [if_neg ea]
        by_cases ea2 : a < i
        · rw [if_pos ea2]
          have hlast : preN g s f (S a) c := by
            have h6 := k6 (by omega)
            by_cases q : a = i - 1
            · rw [q]; exact h6
            · exact preN_trans hf (hP a (i - 1) (by omega) (by omega)) h6
          by_cases eb : b = i
          · rw [if_pos eb]; exact hlast
          · rw [if_neg eb]
            by_cases eb2 : b < i
            · rw [if_pos eb2]; exact hP a b hab (by omega)
            · rw [if_neg eb2]; exact hP a (b - 1) (by omega) (by omega)
        · rw [if_neg ea2, if_neg (by omega), if_neg (by omega)]
          exact hP (a - 1) (b - 1) (by omega) (by omega)
    · rw [gA_sA]
      unfold upd shiftN updN
      by_cases e : j = i
      · rw [if_pos e, if_pos e, if_pos rfl]
      · rw [if_neg e, if_neg e]
        by_cases e2 : j < i
        · rw [if_neg (by omega), if_neg (by omega), if_neg (by omega)]; exact k3 j e2
        · rw [if_neg (by omega), if_pos (by omega), if_neg (by omega)]; exact k4 j (by omega) (by omega)
  · obtain ⟨i, τ2, hi, rfl, k2, k3, k4, k5⟩ := hv
    have hSM2 : SkM τ2 (tS T) s := hSM.eq (fun j hj => k2.2.1 j (by omega))
    have hsh2 : ∀ x, x < tC T → gJ τ2 0 x = jJ (g x : Nat) := fun x hx => by rw [k2.2.2.2]; exact hsh x hx
    dsimp only
    unfold x_X10_findOrder_L22
    simp (disch := omega) only [qm0]
    by_cases e : i = 0
    · right
      rw [if_pos (by omega)]
      exact ⟨_, rfl, i, τ2, hi, rfl, k2, k3, k4, k5, fun q => absurd q (by omega)⟩
    · have hSi := hB.1 (i - 1) (by omega)
      rw [if_neg (by omega), ldJ_in (by omega) (by omega), hsh2 c hc, bd_some, qs1, show (i : Int) - 1 = ((i - 1 : Nat) : Int) from by omega, ldI_in (show i - 1 < lenM 31 from (show _ < 8 by omega)) (by decide), k3 (i - 1) (by omega), bd_some, m_seconds hSM2 (by omega) hf hf8, bd_some, bd_some, ldJ_in (by omega) (by omega), hsh2 _ (by omega), bd_some, m_seconds hSM2 (by omega) hf hf8, bd_some, bd_some]
      by_cases e2 : g c * secN s f (S (i - 1)) ≤ g (S (i - 1)) * secN s f c
      · right
        rw [if_pos ((ahead_iff hf hg).mpr e2)]
        refine ⟨_, rfl, i, τ2, hi, rfl, k2, k3, k4, k5, fun _ => ?_⟩
        unfold preN
        omega
      · left
        have hpre : preN g s f c (S (i - 1)) := Or.inl (by omega)
        rw [if_neg (fun q => e2 ((ahead_iff hf hg).mp q)), stI_in (show i < lenM 31 from (show i < 8 by omega)) (by decide), bd_some, qaM, show (i : Int) + -1 = ((i - 1 : Nat) : Int) from by omega]
        refine ⟨_, rfl, ⟨i - 1, _, by omega, rfl, k2.trans OF.sA, fun j hj => ?_, fun j h1 h2 => ?_, fun j h1 h2 => ?_⟩, ?_⟩
        · rw [gA_sA]; unfold upd; rw [if_neg (by omega)]; exact k3 j (by omega)
        · rw [gA_sA]; unfold upd
          by_cases q : j = i
          · rw [if_pos q, q]
          · rw [if_neg q]; exact k4 j (by omega) h2
        · by_cases q : j = i - 1
          · rw [q]; exact hpre
          · exact k5 j (by omega) h2
        · show (iI ((i - 1 : Nat) : Int)).toNatClampNeg < (iI ((i : Nat) : Int)).toNatClampNeg
          rw [iI_tnN (by omega), iI_tnN (by omega)]; omega
theorem m_order {τ : St} {T : Td} {s : Sk} {g : Nat → Nat} {f : Nat} (hT : TdOk T) (hM : TdM 0 τ T) (hSM : SkM τ (tS T) s) (hsh : Sh (tC T) τ 0 g) (hg : ∀ x, g x ≤ 4608 ^ 4) (hf : 1 ≤ f) (hf8 : f ≤ 8) : ∃ z τ2 S, lp (fun v : (Int32 × St) => x_X10_findOrder_L9 (iI f) v.1 v.2) FU (0, τ) = some (z, τ2) ∧ OF τ τ2 ∧ SortedN g s f (tC T) S ∧ ∀ j, j < tC T → gA τ2 31 j = iI (S j) := by
  have hC8 := hT.1
  have key := lp_inv (f := fun v : (Int32 × St) => x_X10_findOrder_L9 (iI f) v.1 v.2) (fun c v => ∃ τ2 S, v = (iI ((c : Nat) : Int), τ2) ∧ OF τ τ2 ∧ SortedN g s f c S ∧ ∀ j, j < c → gA τ2 31 j = iI (S j))
    (fun v => ∃ S, OF τ v.2 ∧ SortedN g s f (tC T) S ∧ ∀ j, j < tC T → gA v.2 31 j = iI (S j)) (tC T) FU (by unfold FU; omega) (fun c v hc hg2 => ?_) (fun v hg2 => ?_) (iI ((0 : Nat) : Int), τ) ⟨τ, fun k => k, rfl, OF.rfl, ⟨Bij.id 0, fun i j h1 h2 => absurd h2 (by omega)⟩, fun j hj => absurd hj (by omega)⟩
  · obtain ⟨⟨z, τ2⟩, k1, S, k2, k3, k4⟩ := key
    exact ⟨z, τ2, S, k1, k2, k3, k4⟩
  · obtain ⟨τ2, S, rfl, k2, k3, k4⟩ := hg2
    obtain ⟨τ3, S2, n1, n2, n3, n4⟩ := m_insert hT (hM.eq (fun k _ _ => k2.1 k) (fun j _ _ => k2.2.1 j (by omega))) (hSM.eq (fun j hj => k2.2.1 j (by omega))) (fun x hx => by rw [k2.2.2.2]; exact hsh x hx) hg hf hf8 hc k3 k4
    exact ⟨_, n1, τ3, S2, rfl, k2.trans n2, n3, n4⟩
  · obtain ⟨τ2, S, rfl, k2, k3, k4⟩ := hg2
    dsimp only
    unfold x_X10_findOrder_L9
    rw [k2.1 8, show gI τ 8 = iI (tC T) from hM.1]
    simp (disch := omega) only [iI_leD]
    rw [if_pos (by omega)]
    exact ⟨_, rfl, S, k2, k3, k4⟩
