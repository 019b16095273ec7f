/-! images -/
theorem sA_c (s : St) {j k : Nat} (h : j ≠ k) (f g : Nat → Int32) : sA (sA s j f) k g = sA (sA s k g) j f := by
  simp only [sA, Prod.mk.injEq, true_and, and_true]
  funext i
  by_cases e : i = k
  · rw [if_pos e]
    by_cases e2 : i = j
    · omega
    · rw [if_neg e2, if_pos e]
  · rw [if_neg e]
    by_cases e2 : i = j
    · rw [if_pos e2, if_pos e2]
    · rw [if_neg e2, if_neg e2, if_neg e]
theorem c_copyS {σ : St} {t t1 : Nat} (ht : t < 5) (ht1 : t1 < 5) (hne : t ≠ t1) : ∃ σ2, x_X5_copy t t1 σ = some σ2 ∧ SkF t σ σ2 ∧ ∀ s, SkC σ t1 s → SkC σ2 t s := by
  have a1 := len15 ht
  have a2 := len16 ht
  have a3 := len17 ht
  have a4 := len18 ht
  have b1 := len15 ht1
  have b2 := len16 ht1
  have b3 := len17 ht1
  have b4 := len18 ht1
  refine ⟨sA (sA (sA (sA σ (15 + 4 * t) (fun k => if k < 24 then gA σ (15 + 4 * t1) k else gA σ (15 + 4 * t) k)) (15 + 4 * t + 1) (fun k => if k < 24 then gA σ (15 + 4 * t1 + 1) k else gA σ (15 + 4 * t + 1) k)) (15 + 4 * t + 2) (fun k => if k < 24 then gA σ (15 + 4 * t1 + 2) k else gA σ (15 + 4 * t + 2) k)) (15 + 4 * t + 3) (fun k => if k < 8 then gA σ (15 + 4 * t1 + 3) k else gA σ (15 + 4 * t + 3) k), ?_, ?_, fun s h => ?_⟩
  · unfold x_X5_copy
    rw [f_copy _ _ (by omega) (by rw [a1, b1]), bd_some, f_copy _ _ (by omega) (by rw [a2, b2]), bd_some, f_copy _ _ (by omega) (by rw [a3, b3]), bd_some, f_copy _ _ (by omega) (by rw [a4, b4]), bd_some, a1, a2, a3, a4]
    have g1 : ∀ f : Nat → Int32, gA (sA σ (15 + 4 * t) f) (15 + 4 * t1 + 1) = gA σ (15 + 4 * t1 + 1) := fun f => gA_sAn _ (by omega) _
    have g2 : ∀ f : Nat → Int32, gA (sA σ (15 + 4 * t) f) (15 + 4 * t + 1) = gA σ (15 + 4 * t + 1) := fun f => gA_sAn _ (by omega) _
    simp only [g1, g2]
    have g3 : ∀ f g : Nat → Int32, gA (sA (sA σ (15 + 4 * t) f) (15 + 4 * t + 1) g) (15 + 4 * t1 + 2) = gA σ (15 + 4 * t1 + 2) := fun f g => (gA_sAn _ (by omega) _).trans (gA_sAn _ (by omega) _)
    have g4 : ∀ f g : Nat → Int32, gA (sA (sA σ (15 + 4 * t) f) (15 + 4 * t + 1) g) (15 + 4 * t + 2) = gA σ (15 + 4 * t + 2) := fun f g => (gA_sAn _ (by omega) _).trans (gA_sAn _ (by omega) _)
    simp only [g3, g4]
    have g5 : ∀ f g h : Nat → Int32, gA (sA (sA (sA σ (15 + 4 * t) f) (15 + 4 * t + 1) g) (15 + 4 * t + 2) h) (15 + 4 * t1 + 3) = gA σ (15 + 4 * t1 + 3) := fun f g h => (gA_sAn _ (by omega) _).trans ((gA_sAn _ (by omega) _).trans (gA_sAn _ (by omega) _))
    have g6 : ∀ f g h : Nat → Int32, gA (sA (sA (sA σ (15 + 4 * t) f) (15 + 4 * t + 1) g) (15 + 4 * t + 2) h) (15 + 4 * t + 3) = gA σ (15 + 4 * t + 3) := fun f g h => (gA_sAn _ (by omega) _).trans ((gA_sAn _ (by omega) _).trans (gA_sAn _ (by omega) _))
    simp only [g5, g6]
  · exact (SkF.sA (by omega)).trans ((SkF.sA (by omega)).trans ((SkF.sA (by omega)).trans (SkF.sA (by omega))))
  · refine ⟨fun k hk => ?_, fun k hk => ?_, fun k hk => ?_, fun k hk => ?_⟩
    · rw [gA_sAn _ (by omega), gA_sAn _ (by omega), gA_sAn _ (by omega), gA_sA]
      show (if k < 24 then _ else _) = _
      rw [if_pos hk]; exact h.1 k hk
    · rw [gA_sAn _ (by omega), gA_sAn _ (by omega), gA_sA]
      show (if k < 24 then _ else _) = _
      rw [if_pos hk]; exact h.2.1 k hk
    · rw [gA_sAn _ (by omega), gA_sA]
      show (if k < 24 then _ else _) = _
      rw [if_pos hk]; exact h.2.2.1 k hk
    · rw [gA_sA]
      show (if k < 8 then _ else _) = _
      rw [if_pos hk]; exact h.2.2.2 k hk
theorem m_copies1 {τ : St} {j q m : Nat} (hj : j ≠ 35) (hm : m ≤ lenM j) (hq : q + m ≤ 768) : x_X10_copies j (iI q) (iI m) 1 τ = some (iI ((q + m : Nat) : Int), sA τ 35 (wr (gA τ 35) q (gA τ j) m)) := by
  have hl := lenM_le j
  have key := lp_run (f := fun v : (Int32 × St) => x_X10_copies_L3 j (iI q) (iI m) 1 v.1 v.2) (fun i => (iI ((i : Nat) : Int), sA τ 35 (wr (gA τ 35) q (gA τ j) i))) (w := (iI ((m : Nat) : Int), sA τ 35 (wr (gA τ 35) q (gA τ j) m))) m FU (by unfold FU; omega) (fun i hi => ?_) ?_
  · unfold x_X10_copies
    rw [wr_zero, sA_gA] at key
    show bd2 (lp _ FU (iI ((0 : Nat) : Int), τ)) _ = _
    rw [key, bd2_some, iI_add]; rfl
  · unfold x_X10_copies_L3
    simp (disch := omega) only [iI_leD]
    rw [if_neg (by omega), if_neg (by decide), gA_sAn _ hj, ldI_in (by omega) (by omega), bd_some, iI_add, show (q : Int) + i = ((q + i : Nat) : Int) from by omega, stI_in (show q + i < lenM 35 from (show _ < 768 by omega)) (by decide), bd_some, gA_sA, sA_sA, wr_succ, qa1]
    rfl
  · unfold x_X10_copies_L3
    simp (disch := omega) only [iI_leD]
    rw [if_pos (by omega)]
theorem m_copies0 {τ : St} {j q m : Nat} (hj : j ≠ 35) (hm : m ≤ lenM j) (hq : q + m ≤ 768) : x_X10_copies j (iI q) (iI m) 0 τ = some (iI ((q + m : Nat) : Int), sA τ j (wr (gA τ j) 0 (fun k => gA τ 35 (q + k)) m)) := by
  have hl := lenM_le j
  have key := lp_run (f := fun v : (Int32 × St) => x_X10_copies_L3 j (iI q) (iI m) 0 v.1 v.2) (fun i => (iI ((i : Nat) : Int), sA τ j (wr (gA τ j) 0 (fun k => gA τ 35 (q + k)) i))) (w := (iI ((m : Nat) : Int), sA τ j (wr (gA τ j) 0 (fun k => gA τ 35 (q + k)) m))) m FU (by unfold FU; omega) (fun i hi => ?_) ?_
  · unfold x_X10_copies
    rw [wr_zero, sA_gA] at key
    show bd2 (lp _ FU (iI ((0 : Nat) : Int), τ)) _ = _
    rw [key, bd2_some, iI_add]; rfl
  · unfold x_X10_copies_L3
    simp (disch := omega) only [iI_leD]
    have hw := wr_succ (gA τ j) 0 (fun k => gA τ 35 (q + k)) i
    rw [Nat.zero_add] at hw
    rw [if_neg (by omega), if_pos trivial, gA_sAn _ (by omega), iI_add, show (q : Int) + i = ((q + i : Nat) : Int) from by omega, ldI_in (show q + i < lenM 35 from (show _ < 768 by omega)) (by decide), bd_some, stI_in (by omega) (by omega), bd_some, gA_sA, sA_sA, hw, qa1]
    rfl
  · unfold x_X10_copies_L3
    simp (disch := omega) only [iI_leD]
    rw [if_pos (by omega)]
def imF (τ : St) (q : Nat) : Nat → Int32 := wr (wr (wr (wr (wr (gA τ 35) q (gA τ 17) 192) (q + 192) (gA τ 16) 8) (q + 192 + 8) (gA τ 18) 8) (q + 192 + 8 + 8) (gA τ 7) 24) (q + 192 + 8 + 8 + 24) (gA τ 8) 24
theorem m_keep {τ : St} {i : Nat} (hi : i < 3) : x_X10_copies_ (iI i) 1 τ = some (sA τ 35 (imF τ (256 * i))) := by
  unfold x_X10_copies_
  rw [show (256 : Int32) * iI (i : Int) = iI ((256 * i : Nat) : Int) from iI_mul 256 i, show (192 : Int32) = iI ((192 : Nat) : Int) from rfl, m_copies1 (by omega) (show 192 ≤ lenM 17 by decide) (by omega), bd2_some, show (8 : Int32) = iI ((8 : Nat) : Int) from rfl, m_copies1 (by omega) (show 8 ≤ lenM 16 by decide) (by omega), bd2_some, m_copies1 (by omega) (show 8 ≤ lenM 18 by decide) (by omega), bd2_some, show (24 : Int32) = iI ((24 : Nat) : Int) from rfl, m_copies1 (by omega) (show 24 ≤ lenM 7 by decide) (by omega), bd2_some, m_copies1 (by omega) (show 24 ≤ lenM 8 by decide) (by omega), bd2_some]
  simp only [gA_sA, sA_sA, gA_sAn _ (show 16 ≠ 35 by omega), gA_sAn _ (show 18 ≠ 35 by omega), gA_sAn _ (show 7 ≠ 35 by omega), gA_sAn _ (show 8 ≠ 35 by omega)]
  rfl
theorem SkMf.congr {fr fm fs fl fd fr2 fm2 fs2 fl2 fd2 : Nat → Int32} {nS : Nat} {s : Sk} (h : SkMf fr fm fs fl fd nS s) (hS : nS ≤ 24) (e1 : ∀ k, k < 192 → fr2 k = fr k) (e2 : ∀ k, k < 8 → fm2 k = fm k) (e3 : ∀ k, k < 8 → fs2 k = fs k) (e4 : ∀ k, k < 24 → fl2 k = fl k) (e5 : ∀ k, k < 24 → fd2 k = fd k) : SkMf fr2 fm2 fs2 fl2 fd2 nS s := by
  refine ⟨⟨fun c hc => (e2 c hc).trans (h.1.1 c hc), fun c i k hc hk => ?_⟩, fun k hk => (e4 k (by omega)).trans (h.2.1 k hk), fun k hk => (e5 k (by omega)).trans (h.2.2.1 k hk), fun p hp => (e3 p hp).trans (h.2.2.2 p hp)⟩
  have h1 := rowL_len s c
  have h2 := (List.getElem?_eq_some_iff.mp hk).1
  exact (e1 _ (by omega)).trans (h.1.2 c i k hc hk)
theorem imF_own {τ : St} {i nS : Nat} {s : Sk} (hm : SkM τ nS s) (hS : nS ≤ 24) : ImM (sA τ 35 (imF τ (256 * i))) i nS s := by
  unfold ImM
  rw [gA_sA]
  refine SkMf.congr hm hS (fun k hk => ?_) (fun k hk => ?_) (fun k hk => ?_) (fun k hk => ?_) (fun k hk => ?_) <;> (unfold imF wr)
  · rw [if_neg (by omega), if_neg (by omega), if_neg (by omega), if_neg (by omega), if_pos (by omega)]; exact congrArg (gA τ 17) (by omega)
  · rw [if_neg (by omega), if_neg (by omega), if_neg (by omega), if_pos (by omega)]; exact congrArg (gA τ 16) (by omega)
  · rw [if_neg (by omega), if_neg (by omega), if_pos (by omega)]; exact congrArg (gA τ 18) (by omega)
  · rw [if_neg (by omega), if_pos (by omega)]; exact congrArg (gA τ 7) (by omega)
  · rw [if_pos (by omega)]; exact congrArg (gA τ 8) (by omega)
theorem imF_other {τ : St} {q k : Nat} (h : k < q ∨ q + 256 ≤ k) : imF τ q k = gA τ 35 k := by
  unfold imF wr
  rw [if_neg (by omega), if_neg (by omega), if_neg (by omega), if_neg (by omega), if_neg (by omega)]
theorem ImM.congr {τ τ2 : St} {i nS : Nat} {s : Sk} (h : ImM τ i nS s) (hS : nS ≤ 24) (e : ∀ k, k < 256 → gA τ2 35 (256 * i + k) = gA τ 35 (256 * i + k)) : ImM τ2 i nS s := by
  have e' : ∀ a k, a + k < 256 → gA τ2 35 (256 * i + a + k) = gA τ 35 (256 * i + a + k) := fun a k hk => by
    have := e (a + k) hk
    rw [← Nat.add_assoc] at this
    exact this
  unfold ImM at h ⊢
  exact SkMf.congr h hS (fun k hk => e k (by omega)) (fun k hk => e' 192 k (by omega)) (fun k hk => e' 200 k (by omega)) (fun k hk => e' 208 k (by omega)) (fun k hk => e' 232 k (by omega))
theorem c_imageAt {z : Int} (hz : ok32 z) : x_X9_imageAt (iI z) = some (if 0 ≤ z ∧ z < 3 then some (z.toNat + 1) else none) := by
  obtain ⟨z1, z2⟩ := hz
  unfold x_X9_imageAt
  simp (disch := omega) only [ql0, qM3]
  by_cases c1 : z < 0
  · rw [if_pos c1, if_neg (by omega)]
  · rw [if_neg c1]
    by_cases c2 : 3 ≤ z
    · rw [if_pos c2, if_neg (by omega)]
    · rw [if_neg c2, if_pos (by omega), iI_tnD (by omega) (by omega)]
theorem op_image {σ τ : St} (h : Inv σ τ) : StN (x_X9_image σ) (x_X10_image τ) := by
  obtain ⟨T, s, n, ims, h⟩ := h
  obtain ⟨τ1, e1, h0, h1⟩ := h.st
  have hi : Inv σ τ1 := ⟨T, s, n, ims, h1⟩
  have hh := h1
  obtain ⟨hT, hs, hC, hM, hSC, hSM, hB, hI, hb⟩ := hh
  have hC8 := hT.1
  have hS24 := hT.2.1
  have hL6 := hT.2.2.1
  obtain ⟨i1, i2, i3, i4⟩ := hI
  unfold x_X9_image x_X10_image
  rw [bd_some, e1, i2, i3, c_imageAt ⟨by omega, by omega⟩]
  simp (disch := omega) only [qe3]
  by_cases c : (ims.length : Int) = 3
  · rw [if_pos c, if_neg (by omega)]
    exact ⟨_, _, _, rfl, rfl, hi⟩
  · rw [if_neg c, if_pos (by omega), m_keep (by omega), bd_some, bd_some, gI_sI, gI_sA, i3, qa1]
    obtain ⟨σ2, k1, k2, k3⟩ := c_copyS (σ := σ) (t := ims.length + 1) (t1 := 0) (by omega) (by omega) (by omega)
    show StN (bd (x_X5_copy (ims.length + 1) 0 σ) _) _
    rw [k1, bd_some, bd_some, gI_sI, k2.1 10, i2, qa1]
    refine ⟨_, _, _, rfl, rfl, T, s, n, ims ++ [s], hT, hs, ?_, ?_, ?_, ?_, ?_, ⟨?_, ?_, ?_, fun i s2 hi2 => ?_⟩, ?_⟩
    · exact hC.eq (fun k _ hk => (gI_sIn _ (by omega) _).trans (k2.1 k)) (fun j hj hj2 => k2.2.1 j (by omega))
    · exact hM.eq (fun k hk hk2 => (gI_sIn _ (by omega) _)) (fun j hj hj2 => gA_sAn _ (by omega) _)
    · exact hSC.eq (fun j hj hj2 => k2.2.1 j (by omega))
    · exact hSM.eq (fun j hj => gA_sAn _ (by omega) _)
    · unfold ShB at hB ⊢
      rw [gI_sIn _ (by omega), gI_sIn _ (by omega), gI_sIn _ (by omega), gI_sIn _ (by omega), gI_sA, gI_sA, gA_sI, gA_sI, gA_sI, gA_sI, gA_sAn _ (by omega), gA_sAn _ (by omega), k2.1 8, k2.1 9, k2.2.1 0 (by omega), k2.2.1 35 (by omega)]
      exact hB
    · rw [List.length_append, List.length_cons, List.length_nil]; omega
    · rw [gI_sI, List.length_append]; rfl
    · rw [gI_sI, List.length_append]; rfl
    · by_cases e : i < ims.length
      · rw [List.getElem?_append_left e] at hi2
        obtain ⟨q1, q2, q3⟩ := i4 i s2 hi2
        refine ⟨q1, q2.eq (fun j hj hj2 => k2.2.1 j (by omega)), q3.congr hS24 (fun k hk => ?_)⟩
        rw [gA_sI, gA_sA, imF_other (by omega)]
      · rw [List.getElem?_append_right (by omega)] at hi2
        have hl := (List.getElem?_eq_some_iff.mp hi2).1
        simp only [List.length_cons, List.length_nil] at hl
        obtain rfl : i = ims.length := by omega
        rw [Nat.sub_self] at hi2
        obtain rfl := Option.some.inj hi2
        exact ⟨hs, (show SkC σ2 (1 + ims.length) s by rw [Nat.add_comm]; exact k3 s hSC), (imF_own hSM hS24).eq rfl⟩
    · rw [gI_sIn _ (by omega), gI_sA]; exact hb
def bkF (τ : St) (q : Nat) : St := sA (sA (sA (sA (sA τ 17 (wr (gA τ 17) 0 (fun k => gA τ 35 (q + k)) 192)) 16 (wr (gA τ 16) 0 (fun k => gA τ 35 (q + 192 + k)) 8)) 18 (wr (gA τ 18) 0 (fun k => gA τ 35 (q + 192 + 8 + k)) 8)) 7 (wr (gA τ 7) 0 (fun k => gA τ 35 (q + 192 + 8 + 8 + k)) 24)) 8 (wr (gA τ 8) 0 (fun k => gA τ 35 (q + 192 + 8 + 8 + 24 + k)) 24)
theorem wr0 (f g : Nat → Int32) {m k : Nat} (h : k < m) : wr f 0 g m k = g k := by
  unfold wr; rw [if_pos (by omega), Nat.sub_zero]
theorem m_back {τ : St} {i nS : Nat} {s : Sk} (hi : i < 3) (hS : nS ≤ 24) (h : ImM τ i nS s) : ∃ τ2, x_X10_copies_ (iI i) 0 τ = some τ2 ∧ SkM τ2 nS s ∧ (∀ k, gI τ2 k = gI τ k) ∧ (∀ j, ¬ (j = 7 ∨ j = 8 ∨ j = 16 ∨ j = 17 ∨ j = 18) → gA τ2 j = gA τ j) := by
  refine ⟨bkF τ (256 * i), ?_, ?_, fun k => rfl, fun j hj => ?_⟩
  · unfold x_X10_copies_
    rw [show (256 : Int32) * iI (i : Int) = iI ((256 * i : Nat) : Int) from iI_mul 256 i, show (192 : Int32) = iI ((192 : Nat) : Int) from rfl, m_copies0 (by omega) (show 192 ≤ lenM 17 by decide) (by omega), bd2_some, show (8 : Int32) = iI ((8 : Nat) : Int) from rfl, m_copies0 (by omega) (show 8 ≤ lenM 16 by decide) (by omega), bd2_some, m_copies0 (by omega) (show 8 ≤ lenM 18 by decide) (by omega), bd2_some, show (24 : Int32) = iI ((24 : Nat) : Int) from rfl, m_copies0 (by omega) (show 24 ≤ lenM 7 by decide) (by omega), bd2_some, m_copies0 (by omega) (show 24 ≤ lenM 8 by decide) (by omega), bd2_some]
    simp only [gA_sAn _ (show 35 ≠ 17 by omega), gA_sAn _ (show 35 ≠ 16 by omega), gA_sAn _ (show 35 ≠ 18 by omega), gA_sAn _ (show 35 ≠ 7 by omega), gA_sAn _ (show 16 ≠ 17 by omega), gA_sAn _ (show 18 ≠ 17 by omega), gA_sAn _ (show 18 ≠ 16 by omega), gA_sAn _ (show 7 ≠ 17 by omega), gA_sAn _ (show 7 ≠ 16 by omega), gA_sAn _ (show 7 ≠ 18 by omega), gA_sAn _ (show 8 ≠ 17 by omega), gA_sAn _ (show 8 ≠ 16 by omega), gA_sAn _ (show 8 ≠ 18 by omega), gA_sAn _ (show 8 ≠ 7 by omega)]
    rfl
  · unfold SkM
    unfold ImM at h
    have a1 : gA (bkF τ (256 * i)) 17 = wr (gA τ 17) 0 (fun k => gA τ 35 (256 * i + k)) 192 := by
      unfold bkF; rw [gA_sAn _ (by omega), gA_sAn _ (by omega), gA_sAn _ (by omega), gA_sAn _ (by omega), gA_sA]
    have a2 : gA (bkF τ (256 * i)) 16 = wr (gA τ 16) 0 (fun k => gA τ 35 (256 * i + 192 + k)) 8 := by
      unfold bkF; rw [gA_sAn _ (by omega), gA_sAn _ (by omega), gA_sAn _ (by omega), gA_sA]
    have a3 : gA (bkF τ (256 * i)) 18 = wr (gA τ 18) 0 (fun k => gA τ 35 (256 * i + 192 + 8 + k)) 8 := by
      unfold bkF; rw [gA_sAn _ (by omega), gA_sAn _ (by omega), gA_sA]
    have a4 : gA (bkF τ (256 * i)) 7 = wr (gA τ 7) 0 (fun k => gA τ 35 (256 * i + 192 + 8 + 8 + k)) 24 := by
      unfold bkF; rw [gA_sAn _ (by omega), gA_sA]
    have a5 : gA (bkF τ (256 * i)) 8 = wr (gA τ 8) 0 (fun k => gA τ 35 (256 * i + 192 + 8 + 8 + 24 + k)) 24 := by
      unfold bkF; rw [gA_sA]
    rw [a1, a2, a3, a4, a5]
    exact SkMf.congr h hS (fun k hk => wr0 _ _ hk) (fun k hk => wr0 _ _ hk) (fun k hk => wr0 _ _ hk) (fun k hk => wr0 _ _ hk) (fun k hk => wr0 _ _ hk)
  · unfold bkF
    rw [gA_sAn _ (by omega), gA_sAn _ (by omega), gA_sAn _ (by omega), gA_sAn _ (by omega), gA_sAn _ (by omega)]
theorem op_restore {σ τ : St} (h : Inv σ τ) : StN (x_X9_restore σ) (x_X10_restore τ) := by
  obtain ⟨T, s, n, ims, h⟩ := h
  obtain ⟨τ1, e1, h0, h1⟩ := h.st
  have hi : Inv σ τ1 := ⟨T, s, n, ims, h1⟩
  have hh := h1
  obtain ⟨hT, hs, hC, hM, hSC, hSM, hB, hI, hb⟩ := hh
  have hC8 := hT.1
  have hS24 := hT.2.1
  have hL6 := hT.2.2.1
  obtain ⟨i1, i2, i3, i4⟩ := hI
  unfold x_X9_restore x_X10_restore
  rw [bd_some, e1, i2, i3, qs1, c_imageAt ⟨by omega, by omega⟩]
  simp (disch := omega) only [qe0]
  by_cases c : (ims.length : Int) = 0
  · rw [if_pos c, if_neg (by omega)]
    exact ⟨_, _, _, rfl, rfl, hi⟩
  · obtain ⟨m, hm⟩ : ∃ m, ims.length = m + 1 := ⟨ims.length - 1, by omega⟩
    have hg : ims[m]? = some (ims[m]'(by omega)) := List.getElem?_eq_getElem (by omega)
    generalize ims[m]'(by omega) = s2 at hg
    obtain ⟨q1, q2, q3⟩ := i4 m s2 hg
    obtain ⟨σ2, k1, k2, k3⟩ := c_copyS (σ := σ) (t := 0) (t1 := m + 1) (by omega) (by omega) (by omega)
    have q4 : ImM (sI τ1 23 (iI ((m : Nat) : Int))) m (tS T) s2 := q3.eq rfl
    obtain ⟨τ2, m1, m2, m3, m4⟩ := m_back (i := m) (by omega) hS24 q4
    have hmm : ((m + 1 : Nat) : Int) - 1 = (m : Int) := by omega
    rw [if_neg c, if_pos (by omega), bd_some, gI_sI, hm, hmm, m1, bd_some, m3 23, gI_sI]
    show StN (bd (x_X5_copy 0 (m + 1) σ) _) _
    rw [k1, bd_some, bd_some, gI_sI, k2.1 10, i2, hm, qs1, hmm]
    have g9 : ∀ k, k ≠ 23 → gI τ2 k = gI τ1 k := fun k hk => (m3 k).trans (gI_sIn _ hk _)
    have g8 : ∀ j, ¬ (j = 7 ∨ j = 8 ∨ j = 16 ∨ j = 17 ∨ j = 18) → gA τ2 j = gA τ1 j := fun j hj => m4 j hj
    refine ⟨_, _, _, rfl, rfl, T, s2, n, ims.take m, hT, q1, ?_, ?_, ?_, m2, ?_, ⟨?_, ?_, ?_, fun i s3 hi2 => ?_⟩, ?_⟩
    · exact hC.eq (fun k _ hk => (gI_sIn _ (by omega) _).trans (k2.1 k)) (fun j hj hj2 => k2.2.1 j (by omega))
    · exact hM.eq (fun k hk hk2 => g9 k (by omega)) (fun j hj hj2 => g8 j (by omega))
    · exact (k3 s2 (show SkC σ (m + 1) s2 by rw [Nat.add_comm]; exact q2)).eq (fun j _ _ => rfl)
    · unfold ShB at hB ⊢
      rw [gI_sIn _ (by omega), gI_sIn _ (by omega), gA_sI, gA_sI, k2.1 8, k2.1 9, k2.2.1 0 (by omega), k2.2.1 35 (by omega), g9 1 (by omega), g9 7 (by omega), g8 1 (by omega), g8 0 (by omega)]
      exact hB
    · rw [List.length_take]; omega
    · rw [gI_sI, List.length_take, show min m ims.length = m from by omega]
    · rw [m3 23, gI_sI, List.length_take, show min m ims.length = m from by omega]
    · have hl := (List.getElem?_eq_some_iff.mp hi2).1
      rw [List.length_take] at hl
      rw [List.getElem?_take_of_lt (by omega)] at hi2
      obtain ⟨w1, w2, w3⟩ := i4 i s3 hi2
      exact ⟨w1, (w2.eq (fun j hj hj2 => k2.2.1 j (by omega))).eq (fun j _ _ => rfl), w3.eq (g8 35 (by omega))⟩
    · rw [g9 19 (by omega)]; exact hb
