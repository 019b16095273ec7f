/-! day -/
theorem op_day {σ τ : St} (p1 : Int32) (h : Inv σ τ) : StN (x_X9_day p1 σ) (x_X10_day p1 τ) := by
  obtain ⟨T, s, n, ims, h⟩ := h
  obtain ⟨τ1, e1, h0, h1⟩ := h.st
  have hi : Inv σ τ1 := ⟨T, s, n, ims, h1⟩
  have hh := h1
  obtain ⟨hT, hs, hC, hM, hSC, hSM, hB, hI, hb⟩ := hh
  have hC8 := hT.1
  have hS24 := hT.2.1
  have hL6 := hT.2.2.1
  obtain ⟨b, l1, l2⟩ := c_leftBits hT hC
  obtain ⟨G, g1, g2⟩ := m_asTold hT hM
  have hM2 : TdM 0 (sA τ1 26 G) T := hM.eq (fun _ _ _ => rfl) (fun j _ _ => gA_sAn _ (by omega) _)
  have hSM2 : SkM (sA τ1 26 G) (tS T) s := hSM.eq (fun j hj => gA_sAn _ (by omega) _)
  obtain ⟨σ2, τ2, s2, pos2, k1, k2, hday, fd, fe, -, -⟩ := both_go (lf := lfT T) p1 b 0 hT hC hM2 hs hSC hSM2 (fun k hk => ⟨l2 k hk, by rw [gA_sA]; exact g2 k hk⟩) (Or.inl ⟨rfl, hb⟩)
  obtain ⟨σ3, k3, f3, cp⟩ := c_copyS (σ := σ2) (t := 0) (t1 := 4) (by omega) (by omega) (by omega)
  obtain ⟨⟨dC, dM, ds, dSC, dSM, -, ⟨spn, dmn⟩, -⟩, -⟩ := hday
  unfold x_X9_day x_X10_day
  rw [l1, bd_some, k1, bd_some, k3, bd_some, f_sum, bd_some, bd_some, e1, g1, bd_some, k2, bd_some]
  refine ⟨_, _, _, rfl, ?_, T, s2, n, ims, h1.stock ds (cp s2 dSC) dSM (fun k hk => ?_) (fun j hj => ?_) (fun k hk => ?_) (fun j hj => ?_)⟩
  · rw [f3.2.1 36 (by omega), dmn.2.2]; rfl
  · rw [f3.1 k, fd.1 k (by omega), gI_sIn _ (by omega), gI_sIn _ (by omega), gI_sIn _ (by omega)]
  · rw [f3.2.1 j (by omega), fd.2 j (by omega)]; rfl
  · rw [fe.1 k (by omega)]; rfl
  · rw [fe.2 j (by omega), gA_sAn _ (by omega)]
