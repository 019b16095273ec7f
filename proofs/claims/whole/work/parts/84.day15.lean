/-! a day that leaves the shop as it lies -/
theorem both_look {σ τ1 : St} {T : Td} {s : Sk} {n : Nat} {ims : List Sk} (p1 : Int32) (h1 : InvX T s n ims σ τ1) :
    ∃ (b : Int32) (σ2 τk τt τ2 τ3 : St) (s2 : Sk) (pos2 : Nat → Int), x_X7_leftBits 0 σ = some b ∧ x_X1_go p1 b 0 σ = some σ2 ∧ x_X10_keeps τ1 = some τk ∧ x_X10_asTold τk = some τt ∧ x_X10_goes p1 τt = some τ2 ∧ DayR σ2 τ2 T s2 (lfT T) pos2 ∧ x_X10_back τ2 = some τ3 ∧ (∀ j, ¬ (j = 7 ∨ j = 16 ∨ j = 17) → gA τ3 j = gA τ2 j) ∧ (∀ k, gI τ3 k = gI τ2 k) ∧ gI τ3 0 = gI τ1 0 ∧ InvX T s n ims σ2 τ3 := by
  have hh := h1
  obtain ⟨hT, hs, hC, hM, hSC, hSM, hB, hI, hb⟩ := hh
  have hC8 := hT.1
  have hS24 := hT.2.1
  obtain ⟨b, l1, l2⟩ := c_leftBits hT hC
  obtain ⟨A, B, C, k1, k2, k3, k4⟩ := m_keeps τ1
  have hMk : TdM 0 (sA (sA (sA τ1 28 A) 29 B) 30 C) T := hM.eq (fun _ _ _ => rfl) (fun j _ _ => by rw [gA_sAn _ (by omega), gA_sAn _ (by omega), gA_sAn _ (by omega)])
  obtain ⟨G, g1, g2⟩ := m_asTold hT hMk
  have hM2 : TdM 0 (sA (sA (sA (sA τ1 28 A) 29 B) 30 C) 26 G) T := hMk.eq (fun _ _ _ => rfl) (fun j _ _ => gA_sAn _ (by omega) _)
  have hSM2 : SkM (sA (sA (sA (sA τ1 28 A) 29 B) 30 C) 26 G) (tS T) s := hSM.eq (fun j hj => by rw [gA_sAn _ (by omega), gA_sAn _ (by omega), gA_sAn _ (by omega), gA_sAn _ (by omega)])
  obtain ⟨σ2, τ2, s2, pos2, q1, q2, hday, fd, fe, -, -⟩ := both_go (lf := lfT T) p1 b 0 hT hC hM2 hs hSC hSM2 (fun k hk => ⟨l2 k hk, by rw [gA_sA]; exact g2 k hk⟩) (Or.inl ⟨rfl, hb⟩)
  obtain ⟨A2, B2, C2, m1, m2, m3, m4⟩ := m_backs τ2
  have old : ∀ j, ¬ (j = 26 ∨ j = 28 ∨ j = 29 ∨ j = 30) → gA (sA (sA (sA (sA τ1 28 A) 29 B) 30 C) 26 G) j = gA τ1 j := fun j hj => by rw [gA_sAn _ (by omega), gA_sAn _ (by omega), gA_sAn _ (by omega), gA_sAn _ (by omega)]
  have e28 : gA τ2 28 = A := by rw [fe.2 28 (by omega), gA_sAn _ (by omega), gA_sAn _ (by omega), gA_sAn _ (by omega), gA_sA]
  have e29 : gA τ2 29 = B := by rw [fe.2 29 (by omega), gA_sAn _ (by omega), gA_sAn _ (by omega), gA_sA]
  have e30 : gA τ2 30 = C := by rw [fe.2 30 (by omega), gA_sAn _ (by omega), gA_sA]
  have h3 : ∀ j, ¬ (j = 7 ∨ j = 16 ∨ j = 17) → gA (sA (sA (sA τ2 17 A2) 16 B2) 7 C2) j = gA τ2 j := fun j hj => by rw [gA_sAn _ (by omega), gA_sAn _ (by omega), gA_sAn _ (by omega)]
  have gi : ∀ k, ¬ (k = 16 ∨ k = 17 ∨ k = 18) → gI (sA (sA (sA τ2 17 A2) 16 B2) 7 C2) k = gI τ1 k := fun k hk => by
    show gI τ2 k = _
    rw [fe.1 k hk]; rfl
  have a17 : gA (sA (sA (sA τ2 17 A2) 16 B2) 7 C2) 17 = A2 := by rw [gA_sAn _ (by omega), gA_sAn _ (by omega), gA_sA]
  have a16 : gA (sA (sA (sA τ2 17 A2) 16 B2) 7 C2) 16 = B2 := by rw [gA_sAn _ (by omega), gA_sA]
  have a7 : gA (sA (sA (sA τ2 17 A2) 16 B2) 7 C2) 7 = C2 := by rw [gA_sA]
  refine ⟨b, σ2, _, _, τ2, _, s2, pos2, l1, q1, k1, g1, q2, hday, m1, h3, fun _ => rfl, gi 0 (by omega), h1.stock hs ?_ ?_ (fun k hk => ?_) (fun j hj => ?_) (fun k hk => gi k (by omega)) (fun j hj => ?_)⟩
  · exact hSC.eq (fun j _ _ => by rw [fd.2 j (by omega)]; rfl)
  · obtain ⟨⟨w1, w2⟩, w3, w4, w5⟩ := hSM
    refine ⟨⟨fun c hc => ?_, fun c i k hc hk => ?_⟩, fun k hk => ?_, fun k hk => ?_, fun p hp => ?_⟩
    · rw [a16, m3 c hc, e29, k3 c hc]; exact w1 c hc
    · have hl := (List.getElem?_eq_some_iff.mp hk).1
      have hl2 := rowL_len s c
      rw [a17, m2 _ (by omega), e28, k2 _ (by omega)]; exact w2 c i k hc hk
    · rw [a7, m4 k (by omega), e30, k4 k (by omega)]; exact w3 k hk
    · rw [h3 8 (by omega), fe.2 8 (by omega), old 8 (by omega)]; exact w4 k hk
    · rw [h3 18 (by omega), fe.2 18 (by omega), old 18 (by omega)]; exact w5 p hp
  · rw [fd.1 k (by omega), gI_sIn _ (by omega), gI_sIn _ (by omega), gI_sIn _ (by omega)]
  · rw [fd.2 j (by omega)]; rfl
  · rw [h3 j (by omega), fe.2 j (by omega), old j (by omega)]
