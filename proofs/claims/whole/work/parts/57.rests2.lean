/-! the game of getting up: rests -/
/-- whether another hour gives more: among the first of them -/
def flN (n H c v : Nat) (hr : Nat → Nat) (who : Nat) : Nat → Nat
  | 0 => 0
  | i + 1 => if gnF n H c v (updN hr who i) who ≤ gnF n H c v hr who then flN n H c v hr who i else 1
theorem flN_01 (n H c v : Nat) (hr : Nat → Nat) (who i : Nat) : flN n H c v hr who i = 0 ∨ flN n H c v hr who i = 1 := by
  induction i with
  | zero => exact Or.inl rfl
  | succ i ih => unfold flN; split
                 · exact ih
                 · exact Or.inr rfl
theorem gnF_ok {n H c v : Nat} {hr : Nat → Nat} (hb : RsB n H c v) (who : Nat) (hw : hr who < H) : -20000 ≤ gnF n H c v hr who ∧ gnF n H c v hr who ≤ 20000 := by
  obtain ⟨b1, b2, b3, b4, b5, b6, b7⟩ := hb
  have h1 : 12 * v / cntN hr (hr who) n ≤ 12 * v := Nat.div_le_self _ _
  have h2 : c * (H - 1 - hr who) ≤ 99 * 3 := Nat.mul_le_mul b5 (by omega)
  have h3 : (12 * (c : Int)) * ((H : Int) - 1 - hr who) = 12 * ((c * (H - 1 - hr who) : Nat) : Int) := by
    rw [Int.natCast_mul, show ((H - 1 - hr who : Nat) : Int) = (H : Int) - 1 - hr who from by omega, Int.mul_assoc]
  unfold gnF
  rw [h3]
  generalize 12 * v / cntN hr (hr who) n = q at h1 ⊢
  split <;> omega
/-- the class's state while it looks: hours alone change -/
def RsF (σ σ2 : St) : Prop := (∀ k, gI σ2 k = gI σ k) ∧ (∀ j, j ≠ 48 → gA σ2 j = gA σ j)
def RtF (τ τ2 : St) : Prop := (∀ k, gI τ2 k = gI τ k) ∧ (∀ j, j ≠ 34 → gA τ2 j = gA τ j)
theorem RsF.rfl {σ : St} : RsF σ σ := ⟨fun _ => Eq.refl _, fun _ _ => Eq.refl _⟩
theorem RtF.rfl {σ : St} : RtF σ σ := ⟨fun _ => Eq.refl _, fun _ _ => Eq.refl _⟩
theorem RsF.trans {a b c : St} (h : RsF a b) (k : RsF b c) : RsF a c := ⟨fun i => (k.1 i).trans (h.1 i), fun j hj => (k.2 j hj).trans (h.2 j hj)⟩
theorem RtF.trans {a b c : St} (h : RtF a b) (k : RtF b c) : RtF a c := ⟨fun i => (k.1 i).trans (h.1 i), fun j hj => (k.2 j hj).trans (h.2 j hj)⟩
theorem RsF.sA {σ : St} {f : Nat → Int32} : RsF σ (sA σ 48 f) := ⟨fun _ => Eq.refl _, fun _ hj => gA_sAn _ hj _⟩
theorem RtF.sA {σ : St} {f : Nat → Int32} : RtF σ (sA σ 34 f) := ⟨fun _ => Eq.refl _, fun _ hj => gA_sAn _ hj _⟩
theorem RsC.eq {σ σ2 : St} {n H c v : Nat} (h : RsC σ n H c v) (e : RsF σ σ2) : RsC σ2 n H c v := by
  unfold RsC at h ⊢
  rw [e.1, e.1, e.1, e.1]; exact h
theorem upd_hr {f : Nat → Int32} {hr : Nat → Nat} {n who o : Nat} (h : ∀ k, k < n → f k = iI (hr k)) : ∀ k, k < n → upd f who (iI (o : Int)) k = iI (updN hr who o k) := by
  intro k hk
  unfold upd updN
  split
  · rfl
  · exact h k hk
theorem updN_updN (hr : Nat → Nat) (k a b : Nat) : updN (updN hr k a) k b = updN hr k b := by
  funext j; unfold updN; split <;> rfl
theorem updN_self (hr : Nat → Nat) (k : Nat) : updN hr k (hr k) = hr := by
  funext j; unfold updN; split
  · next e => rw [e]
  · rfl
theorem updN_at (hr : Nat → Nat) (k a : Nat) : updN hr k a k = a := by unfold updN; rw [if_pos rfl]
theorem updN_lt {hr : Nat → Nat} {n H k a : Nat} (h : ∀ q, q < n → hr q < H) (ha : a < H) : ∀ q, q < n → updN hr k a q < H := by
  intro q hq; unfold updN; split
  · exact ha
  · exact h q hq
theorem c_would {σ : St} {n H c v : Nat} {hr : Nat → Nat} (hb : RsB n H c v) (hs : RsC σ n H c v) (h : HrC σ n hr) (hH : ∀ k, k < n → hr k < H) {who : Nat} (hw : who < n) : ∃ σ2, x_X4_wouldChange (iI who) σ = some (iI (flN n H c v hr who H : Nat), σ2) ∧ RsF σ σ2 ∧ HrC σ2 n hr := by
  have hb2 := hb
  obtain ⟨b1, b2, b3, b4, b5, b6, b7⟩ := hb2
  have key := lp_inv (f := fun q : (Int32 × Int32 × St) => x_X4_wouldChange_L21 (iI who) (iI (hr who)) (iI (gnF n H c v hr who)) q.1 q.2.1 q.2.2) (fun i q => ∃ σ2 a, q = (iI (flN n H c v hr who i : Nat), iI ((i : Nat) : Int), σ2) ∧ RsF σ σ2 ∧ HrC σ2 n (updN hr who a)) (fun q => ∃ σ2 a z, q = (iI (flN n H c v hr who H : Nat), z, σ2) ∧ RsF σ σ2 ∧ HrC σ2 n (updN hr who a)) H FU (by unfold FU; omega) (fun i q hi hg => ?_) (fun q hg => ?_) (iI ((0 : Nat) : Int), iI ((0 : Nat) : Int), σ) ⟨σ, hr who, rfl, RsF.rfl, by rw [updN_self]; exact h⟩
  · obtain ⟨q, k1, σ2, a, z, rfl, k2, k3⟩ := key
    refine ⟨sA σ2 48 (upd (gA σ2 48) who (iI (hr who))), ?_, k2.trans RsF.sA, ?_⟩
    · unfold x_X4_wouldChange
      rw [at48 h b2 hw, bd_some, c_gain hb hs h hH hw, bd_some]
      show bd3 (lp _ FU (iI ((0 : Nat) : Int), iI ((0 : Nat) : Int), σ)) _ = _
      rw [k1, bd3_some, f_put, bd_some, putF_in (show who < lenN 48 from (show who < 4 by omega)) (by decide)]
      have : bz (iI (flN n H c v hr who H : Nat)) = some (iI (flN n H c v hr who H : Nat)) := by
        rcases flN_01 n H c v hr who H with e | e <;> (rw [e]; rfl)
      rw [this, bd_some]
    · have := upd_hr (who := who) (o := hr who) k3
      rw [updN_updN, updN_self] at this
      intro k hk
      rw [gA_sA]; exact this k hk
  · obtain ⟨σ2, a, rfl, k2, k3⟩ := hg
    have hs2 : RsC σ2 n H c v := hs.eq k2
    have h3 : HrC (sA σ2 48 (upd (gA σ2 48) who (iI ((i : Nat) : Int)))) n (updN hr who i) := by
      have := upd_hr (who := who) (o := i) k3
      rw [updN_updN] at this
      intro k hk
      rw [gA_sA]; exact this k hk
    have hlt : ∀ q, q < n → updN hr who i q < H := updN_lt hH hi
    have g1 := gnF_ok hb who (hH who hw)
    have g2 := gnF_ok (hr := updN hr who i) hb who (hlt who hw)
    dsimp only
    unfold x_X4_wouldChange_L21
    rw [hs2.2.1]
    simp (disch := omega) only [iI_leD]
    rw [if_neg (by omega), f_put, bd_some, putF_in (show who < lenN 48 from (show who < 4 by omega)) (by decide), c_gain hb (hs2.eq RsF.sA) h3 hlt hw, bd_some, qa1]
    simp (disch := omega) only [iI_leD]
    show ∃ w, _ ∧ ∃ σ2 a, w = (iI ((if gnF n H c v (updN hr who i) who ≤ gnF n H c v hr who then flN n H c v hr who i else 1 : Nat) : Int), _) ∧ _
    by_cases e : gnF n H c v (updN hr who i) who ≤ gnF n H c v hr who
    · rw [if_pos e, if_pos e]
      exact ⟨_, rfl, _, i, rfl, k2.trans RsF.sA, h3⟩
    · rw [if_neg e, if_neg e]
      exact ⟨_, rfl, _, i, rfl, k2.trans RsF.sA, h3⟩
  · obtain ⟨σ2, a, rfl, k2, k3⟩ := hg
    have hs2 : RsC σ2 n H c v := hs.eq k2
    dsimp only
    unfold x_X4_wouldChange_L21
    rw [hs2.2.1]
    simp (disch := omega) only [iI_leD]
    rw [if_pos (by omega)]
    exact ⟨_, rfl, σ2, a, _, rfl, k2, k3⟩
theorem m_loop37 {τ : St} {n H c v : Nat} {hr : Nat → Nat} (hb : RsB n H c v) (h : HrM τ n hr) (hH : ∀ k, k < n → hr k < H) {who : Nat} (hw : who < n) : ∃ z τ2 a, lp (fun q : (Int32 × Int32 × St) => x_X10_doRest_L37 (iI n) (iI H) (iI c) (iI v) (iI who) (iI (hr who)) (iI (gnF n H c v hr who)) q.1 q.2.1 q.2.2) FU (0, 0, τ) = some (iI (flN n H c v hr who H : Nat), z, τ2) ∧ RtF τ τ2 ∧ HrM τ2 n (updN hr who a) := by
  have hb2 := hb
  obtain ⟨b1, b2, b3, b4, b5, b6, b7⟩ := hb2
  have key := lp_inv (f := fun q : (Int32 × Int32 × St) => x_X10_doRest_L37 (iI n) (iI H) (iI c) (iI v) (iI who) (iI (hr who)) (iI (gnF n H c v hr who)) q.1 q.2.1 q.2.2) (fun i q => ∃ σ2 a, q = (iI (flN n H c v hr who i : Nat), iI ((i : Nat) : Int), σ2) ∧ RtF τ σ2 ∧ HrM σ2 n (updN hr who a)) (fun q => ∃ σ2 a z, q = (iI (flN n H c v hr who H : Nat), z, σ2) ∧ RtF τ σ2 ∧ HrM σ2 n (updN hr who a)) H FU (by unfold FU; omega) (fun i q hi hg => ?_) (fun q hg => ?_) (iI ((0 : Nat) : Int), iI ((0 : Nat) : Int), τ) ⟨τ, hr who, rfl, RtF.rfl, by rw [updN_self]; exact h⟩
  · obtain ⟨q, k1, σ2, a, z, rfl, k2, k3⟩ := key
    exact ⟨z, σ2, a, k1, k2, k3⟩
  · obtain ⟨σ2, a, rfl, k2, k3⟩ := hg
    have h3 : HrM (sA σ2 34 (upd (gA σ2 34) who (iI ((i : Nat) : Int)))) n (updN hr who i) := by
      have := upd_hr (who := who) (o := i) k3
      rw [updN_updN] at this
      intro k hk
      rw [gA_sA]; exact this k hk
    have hlt : ∀ q, q < n → updN hr who i q < H := updN_lt hH hi
    have g1 := gnF_ok hb who (hH who hw)
    have g2 := gnF_ok (hr := updN hr who i) hb who (hlt who hw)
    have e01 := flN_01 n H c v hr who i
    dsimp only
    unfold x_X10_doRest_L37
    simp (disch := omega) only [iI_leD]
    rw [if_neg (by omega), stI_in (show who < lenM 34 from (show who < 4 by omega)) (by decide), bd_some, m_gain hb h3 hlt hw, bd_some, qa1]
    simp (disch := omega) only [iI_leD, qe0]
    show ∃ w, _ ∧ ∃ σ2 a, w = (iI ((if gnF n H c v (updN hr who i) who ≤ gnF n H c v hr who then flN n H c v hr who i else 1 : Nat) : Int), _) ∧ _
    rcases e01 with e0 | e0
    · rw [if_pos (show ((flN n H c v hr who i : Nat) : Int) = 0 by omega), e0]
      by_cases e : gnF n H c v (updN hr who i) who ≤ gnF n H c v hr who
      · rw [if_pos e, if_pos e]
        exact ⟨_, rfl, _, i, rfl, k2.trans RtF.sA, h3⟩
      · rw [if_neg e, if_neg e]
        exact ⟨_, rfl, _, i, rfl, k2.trans RtF.sA, h3⟩
    · rw [if_neg (show ¬ ((flN n H c v hr who i : Nat) : Int) = 0 by omega), e0, show (if gnF n H c v (updN hr who i) who ≤ gnF n H c v hr who then 1 else 1 : Nat) = 1 from by split <;> rfl]
      exact ⟨_, rfl, _, i, rfl, k2.trans RtF.sA, h3⟩
  · obtain ⟨σ2, a, rfl, k2, k3⟩ := hg
    dsimp only
    unfold x_X10_doRest_L37
    simp (disch := omega) only [iI_leD]
    rw [if_pos (by omega)]
    exact ⟨_, rfl, σ2, a, _, rfl, k2, k3⟩
theorem both_rest {σ τ : St} {n H c v : Nat} {hr : Nat → Nat} (hb : RsB n H c v) (hs : RsC σ n H c v) (h : HrC σ n hr) (hm : HrM τ n hr) (hH : ∀ k, k < n → hr k < H) : ∃ r σ2 τ2, x_X4_isRest σ = some (r, σ2) ∧ x_X10_doRest (iI n) (iI H) (iI c) (iI v) τ = some (r, τ2) ∧ RsF σ σ2 ∧ HrC σ2 n hr ∧ RtF τ τ2 := by
  have hb2 := hb
  obtain ⟨b1, b2, b3, b4, b5, b6, b7⟩ := hb2
  have key := lpr2_inv (f := fun q : (Int32 × St) => x_X4_isRest_L2 q.1 q.2) (g := fun q : (Int32 × St) => x_X10_doRest_L3 (iI n) (iI H) (iI c) (iI v) q.1 q.2)
    (fun i q x => ∃ σ2 τ2, q = (iI ((i : Nat) : Int), σ2) ∧ x = (iI ((i : Nat) : Int), τ2) ∧ RsF σ σ2 ∧ RtF τ τ2 ∧ HrC σ2 n hr ∧ HrM τ2 n hr)
    (fun q x => RsF σ q.2 ∧ RtF τ x.2 ∧ HrC q.2 n hr) (fun q x => q.1 = x.1 ∧ RsF σ q.2 ∧ RtF τ x.2 ∧ HrC q.2 n hr) n FU FU (by unfold FU; omega) (by unfold FU; omega) (fun i q x hi hg => ?_) (fun q x hg => ?_) (iI ((0 : Nat) : Int), σ) (iI ((0 : Nat) : Int), τ) ⟨σ, τ, rfl, rfl, RsF.rfl, RtF.rfl, h, hm⟩
  · unfold x_X4_isRest x_X10_doRest
    rcases key with ⟨⟨q1, q2⟩, ⟨x1, x2⟩, k1, k2, k3, k4, k5⟩ | ⟨⟨q1, q2⟩, ⟨x1, x2⟩, k1, k2, k3, k4, k5, k6⟩
    · refine ⟨1, q2, x2, ?_, ?_, k3, k5, k4⟩
      · show bs2 (lpr _ FU (iI ((0 : Nat) : Int), σ)) _ _ = _
        rw [k1]; rfl
      · show bs2 (lpr _ FU (iI ((0 : Nat) : Int), τ)) _ _ = _
        rw [k2]; rfl
    · have k3 : q1 = x1 := k3
      subst k3
      refine ⟨q1, q2, x2, ?_, ?_, k4, k6, k5⟩
      · show bs2 (lpr _ FU (iI ((0 : Nat) : Int), σ)) _ _ = _
        rw [k1]; rfl
      · show bs2 (lpr _ FU (iI ((0 : Nat) : Int), τ)) _ _ = _
        rw [k2]; rfl
  · obtain ⟨σ2, τ2, rfl, rfl, k1, k2, k3, k4⟩ := hg
    have hs2 : RsC σ2 n H c v := hs.eq k1
    obtain ⟨σ3, q1, q2, q3⟩ := c_would hb hs2 k3 hH hi
    obtain ⟨z, τ3, a, m1, m2, m3⟩ := m_loop37 hb k4 hH hi
    have hbi := hH i hi
    have hm4 : HrM (sA τ3 34 (upd (gA τ3 34) i (iI (hr i)))) n hr := by
      have := upd_hr (who := i) (o := hr i) m3
      rw [updN_updN, updN_self] at this
      intro k hk
      rw [gA_sA]; exact this k hk
    dsimp only
    unfold x_X4_isRest_L2 x_X10_doRest_L3
    rw [hs2.1]
    simp (disch := omega) only [iI_leD]
    rw [if_neg (by omega), if_neg (by omega), q1, bd2_some, ldI_in (show i < lenM 34 from (show i < 4 by omega)) (by decide), k4 i hi, bd_some, m_gain hb k4 hH hi, bd_some, m1, bd3_some, stI_in (show i < lenM 34 from (show i < 4 by omega)) (by decide), bd_some, qa1]
    by_cases e : iI (flN n H c v hr i H : Nat) = 0
    · rw [if_pos e, if_pos e]
      exact Or.inl ⟨_, _, rfl, rfl, σ3, _, rfl, rfl, k1.trans q2, (k2.trans m2).trans RtF.sA, q3, hm4⟩
    · rw [if_neg e, if_neg e]
      exact Or.inr ⟨_, _, rfl, rfl, rfl, k1.trans q2, (k2.trans m2).trans RtF.sA, q3⟩
  · obtain ⟨σ2, τ2, rfl, rfl, k1, k2, k3, k4⟩ := hg
    have hs2 : RsC σ2 n H c v := hs.eq k1
    dsimp only
    unfold x_X4_isRest_L2 x_X10_doRest_L3
    rw [hs2.1]
    simp (disch := omega) only [iI_leD]
    rw [if_pos (by omega), if_pos (by omega)]
    exact ⟨_, _, rfl, rfl, k1, k2, k3⟩
