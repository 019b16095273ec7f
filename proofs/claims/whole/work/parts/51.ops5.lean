/-! feed -/
def wr (f : Nat → Int32) (n : Nat) (g : Nat → Int32) (m : Nat) : Nat → Int32 := fun k => if n ≤ k ∧ k < n + m then g (k - n) else f k
theorem wr_zero (f : Nat → Int32) (n : Nat) (g : Nat → Int32) : wr f n g 0 = f := by
  funext k; unfold wr; rw [if_neg (by omega)]
theorem wr_succ (f : Nat → Int32) (n : Nat) (g : Nat → Int32) (m : Nat) : upd (wr f n g m) (n + m) (g m) = wr f n g (m + 1) := by
  funext k
  unfold upd wr
  by_cases e : k = n + m
  · rw [if_pos e, if_pos (by omega)]; congr 1; omega
  · rw [if_neg e]; exact ifc (by omega)
theorem sIA (s : St) (j k : Nat) (f g : Nat → Int32) (v w : Int32) : sI (sA (sI (sA s j f) k v) j g) k w = sI (sA s j g) k w := by
  have hc : ∀ (s : St) (f : Nat → Int32) (v : Int32), sI (sA s j f) k v = sA (sI s k v) j f := fun _ _ _ => rfl
  simp only [hc, sA_sA, sI_sI]
theorem c_putOnTape {σ : St} {p : Int32} {n : Nat} (hn : n + 4 ≤ 600) (h8 : gI σ 8 = iI n) : x_X9_putOnTape p σ = some (sI (sA σ 0 (wr (gA σ 0) n (gcB p) 4)) 8 (iI ((n + 4 : Nat) : Int))) := by
  have key := lp_run (f := fun v : (Int32 × St) => x_X9_putOnTape_L3 p v.1 v.2) (fun i => (iI (24 - 8 * (i : Int)), sI (sA σ 0 (wr (gA σ 0) n (gcB p) i)) 8 (iI ((n + i : Nat) : Int)))) (w := (iI (24 - 8 * ((4 : Nat) : Int)), sI (sA σ 0 (wr (gA σ 0) n (gcB p) 4)) 8 (iI ((n + 4 : Nat) : Int)))) 4 FU (by unfold FU; omega) (fun i hi => ?_) ?_
  · unfold x_X9_putOnTape
    rw [wr_zero, sA_gA, Nat.add_zero, ← h8, sI_gI] at key
    show bd2 (lp _ FU (iI (24 - 8 * ((0 : Nat) : Int)), σ)) _ = _
    rw [key]; rfl
  · unfold x_X9_putOnTape_L3
    simp (disch := omega) only [ql0]
    rw [if_neg (by omega), gI_sI, f_put, bd_some, putF_in (show n + i < lenN 0 from (show n + i < 600 by omega)) (by decide), bd_some, gA_sI, gA_sA, gI_sA, gI_sI, qa1, show iI (24 - 8 * (i : Int)) + (-8) = iI (24 - 8 * ((i + 1 : Nat) : Int)) from by
      rw [show (-8 : Int32) = iI (-8) from rfl, iI_add]; congr 1; omega]
    show some (true, _, sI (sA (sI (sA σ 0 (wr (gA σ 0) n (gcB p) i)) 8 (iI ((n + i : Nat) : Int))) 0 (upd (wr (gA σ 0) n (gcB p) i) (n + i) (gcB p i))) 8 (iI (((n + i : Nat) : Int) + 1))) = _
    rw [wr_succ, sIA]
    congr 3
  · unfold x_X9_putOnTape_L3
    simp (disch := omega) only [ql0]
    rw [if_pos (by omega)]
theorem iI_div {a b : Nat} (ha : a < 2147483648) (hb : b < 2147483648) : iI (a : Int) / iI (b : Int) = iI ((a / b : Nat) : Int) := by
  rw [← iI_nat, ← iI_nat, ← iI_nat]
  exact (Int32.ofNat_div ha hb).symm
theorem rm4 {i : Nat} (hi : i < 1000) : rmI (iI (i : Int)) 4 = some (iI ((i % 4 : Nat) : Int)) := by
  unfold rmI
  rw [if_neg (by decide), show (4 : Int32) = iI ((4 : Nat) : Int) from rfl, iI_div (by omega) (by omega), iI_mul, iI_sub]
  congr 2; omega
def selP (p1 p2 p3 p4 p5 : Int32) (i : Nat) : Int32 := if i < 4 then p1 else if i < 8 then p2 else if i < 12 then p3 else if i < 16 then p4 else p5
theorem m_feed {τ : St} {p1 p2 p3 p4 p5 : Int32} {n : Nat} (hn : n + 20 ≤ 600) (h1 : gI τ 1 = iI n) : ∃ z, lp (fun v : (Int32 × St) => x_X10_feed_L23 p1 p2 p3 p4 p5 v.1 v.2) FU (0, τ) = some (z, sI (sA τ 1 (wr (gA τ 1) n (fun j => gmB (selP p1 p2 p3 p4 p5 j) (j % 4)) 20)) 1 (iI ((n + 20 : Nat) : Int))) := by
  have key := lp_run (f := fun v : (Int32 × St) => x_X10_feed_L23 p1 p2 p3 p4 p5 v.1 v.2) (fun i => (iI ((i : Nat) : Int), sI (sA τ 1 (wr (gA τ 1) n (fun j => gmB (selP p1 p2 p3 p4 p5 j) (j % 4)) i)) 1 (iI ((n + i : Nat) : Int)))) (w := (iI ((20 : Nat) : Int), sI (sA τ 1 (wr (gA τ 1) n (fun j => gmB (selP p1 p2 p3 p4 p5 j) (j % 4)) 20)) 1 (iI ((n + 20 : Nat) : Int)))) 20 FU (by unfold FU; omega) (fun i hi => ?_) ?_
  · rw [wr_zero, sA_gA, Nat.add_zero, ← h1, sI_gI] at key
    exact ⟨_, key⟩
  · have hb : ∀ w, w = selP p1 p2 p3 p4 p5 i → x_X10_feed_b23_76 p1 p2 p3 p4 p5 (iI ((i : Nat) : Int)) w (sI (sA τ 1 (wr (gA τ 1) n (fun j => gmB (selP p1 p2 p3 p4 p5 j) (j % 4)) i)) 1 (iI ((n + i : Nat) : Int))) = some (true, iI ((i + 1 : Nat) : Int), sI (sA τ 1 (wr (gA τ 1) n (fun j => gmB (selP p1 p2 p3 p4 p5 j) (j % 4)) (i + 1))) 1 (iI ((n + (i + 1) : Nat) : Int))) := by
      rintro w rfl
      unfold x_X10_feed_b23_76
      rw [rm4 (by omega), bd_some, gI_sI, stI_in (show n + i < lenM 1 from (show n + i < 600 by omega)) (by decide), bd_some, bd_some, gA_sI, gA_sA, gI_sA, gI_sI, qa1, qa1, qy8, show (24 : Int32) = iI 24 from rfl, iI_sub]
      show some (true, _, sI (sA (sI (sA τ 1 _) 1 (iI ((n + i : Nat) : Int))) 1 (upd (wr (gA τ 1) n (fun j => gmB (selP p1 p2 p3 p4 p5 j) (j % 4)) i) (n + i) ((fun j => gmB (selP p1 p2 p3 p4 p5 j) (j % 4)) i))) 1 (iI (((n + i : Nat) : Int) + 1))) = _
      rw [wr_succ, sIA]
      congr 3
    unfold x_X10_feed_L23
    simp (disch := omega) only [qM20, qM4, qM8, qM12, qM16]
    rw [if_neg (by omega)]
    by_cases c1 : (4 : Int) ≤ i
    · rw [if_pos c1]
      by_cases c2 : (8 : Int) ≤ i
      · rw [if_pos c2]
        by_cases c3 : (12 : Int) ≤ i
        · rw [if_pos c3]
          by_cases c4 : (16 : Int) ≤ i
          · rw [if_pos c4]
            exact hb _ (by unfold selP; rw [if_neg (by omega), if_neg (by omega), if_neg (by omega), if_neg (by omega)])
          · rw [if_neg c4]
            exact hb _ (by unfold selP; rw [if_neg (by omega), if_neg (by omega), if_neg (by omega), if_pos (by omega)])
        · rw [if_neg c3]
          exact hb _ (by unfold selP; rw [if_neg (by omega), if_neg (by omega), if_pos (by omega)])
      · rw [if_neg c2]
        exact hb _ (by unfold selP; rw [if_neg (by omega), if_pos (by omega)])
    · rw [if_neg c1]
      exact hb _ (by unfold selP; rw [if_pos (by omega)])
  · unfold x_X10_feed_L23
    simp (disch := omega) only [qM20]
    rw [if_pos (by omega)]
theorem op_feed {σ τ : St} (h : Inv σ τ) (p1 p2 p3 p4 p5 : Int32) : StN (x_X9_feed p1 p2 p3 p4 p5 σ) (x_X10_feed p1 p2 p3 p4 p5 τ) := by
  obtain ⟨T, s, n, ims, h⟩ := h
  obtain ⟨τ1, e1, h0, h1⟩ := h.st
  have hi : Inv σ τ1 := ⟨T, s, n, ims, h1⟩
  have hh := h1
  obtain ⟨hT, hs, hC, hM, hSC, hSM, hB, hI, hb⟩ := hh
  have hC8 := hT.1
  have hS24 := hT.2.1
  have hL6 := hT.2.2.1
  obtain ⟨hn, hB1, hB2, hB3, hB4, hB5⟩ := hB
  unfold x_X9_feed x_X10_feed
  rw [bd_some, e1, hB1, hB2, show (20 : Int32) = iI 20 from rfl, iI_add]
  simp (disch := omega) only [qm600]
  by_cases c : (n : Int) + 20 ≤ 600
  · rw [if_pos c]
    have hn20 : n + 20 ≤ 600 := by omega
    obtain ⟨z, hz⟩ := m_feed (τ := τ1) (p1 := p1) (p2 := p2) (p3 := p3) (p4 := p4) (p5 := p5) hn20 hB2
    rw [if_pos c, hz, bd2_some, c_putOnTape (by omega) hB1, bd_some, c_putOnTape (n := n + 4) (by omega) (gI_sI _ _ _), bd_some, c_putOnTape (n := n + 4 + 4) (by omega) (gI_sI _ _ _), bd_some, c_putOnTape (n := n + 4 + 4 + 4) (by omega) (gI_sI _ _ _), bd_some, c_putOnTape (n := n + 4 + 4 + 4 + 4) (by omega) (gI_sI _ _ _), bd_some]
    simp only [gI_sI, gA_sI, gA_sA]
    simp only [sIA]
    refine ⟨_, _, _, rfl, rfl, T, s, n + 20, ims, hT, hs, hC.eq (fun k _ hk => gI_sIn _ (by omega) _) (fun j hj _ => gA_sAn _ (by omega) _), hM.eq (fun k hk _ => gI_sIn _ (by omega) _) (fun j hj _ => gA_sAn _ (by omega) _), hSC.eq (fun j hj _ => gA_sAn _ (by omega) _), hSM.eq (fun j hj => gA_sAn _ (by omega) _), ⟨by omega, ?_, ?_, fun k hk => ?_, ?_, fun k hk => ?_⟩, ?_, (gI_sIn _ (by omega) _).trans hb⟩
    · rw [gI_sI]
    · rw [gI_sI]
    · rw [gA_sI, gA_sA, gA_sI, gA_sA]
      unfold wr
      by_cases c0 : n ≤ k
      · obtain ⟨j, rfl⟩ : ∃ j, k = n + j := ⟨k - n, by omega⟩
        have hj : n + j - n = j := by omega
        rw [if_pos (show n ≤ n + j ∧ n + j < n + 20 from ⟨by omega, by omega⟩)]
        show _ = gmB (selP p1 p2 p3 p4 p5 (n + j - n)) ((n + j - n) % 4)
        rw [hj]
        have hm : j % 4 < 4 := Nat.mod_lt _ (by omega)
        by_cases q4 : j < 16
        · by_cases q3 : j < 12
          · by_cases q2 : j < 8
            · by_cases q1 : j < 4
              · rw [if_neg (by omega), if_neg (by omega), if_neg (by omega), if_neg (by omega), if_pos (by omega), gB_eq _ (by omega)]
                unfold selP; rw [if_pos q1]; congr 1; omega
              · rw [if_neg (by omega), if_neg (by omega), if_neg (by omega), if_pos (by omega), gB_eq _ (by omega)]
                unfold selP; rw [if_neg q1, if_pos q2]; congr 1; omega
            · rw [if_neg (by omega), if_neg (by omega), if_pos (by omega), gB_eq _ (by omega)]
              unfold selP; rw [if_neg (by omega), if_neg (by omega), if_pos q3]; congr 1; omega
          · rw [if_neg (by omega), if_pos (by omega), gB_eq _ (by omega)]
            unfold selP; rw [if_neg (by omega), if_neg (by omega), if_neg (by omega), if_pos q4]; congr 1; omega
        · rw [if_pos (by omega), gB_eq _ (by omega)]
          unfold selP; rw [if_neg (by omega), if_neg (by omega), if_neg (by omega), if_neg (by omega)]; congr 1; omega
      · rw [if_neg (by omega), if_neg (by omega), if_neg (by omega), if_neg (by omega), if_neg (by omega), if_neg (by omega)]
        exact hB3 k (by omega)
    · rw [gI_sIn _ (by omega), gI_sIn _ (by omega)]; exact hB4
    · rw [gA_sI, gA_sI, gA_sAn _ (by omega), gA_sAn _ (by omega)]; exact hB5 k hk
    · obtain ⟨i1, i2, i3, i4⟩ := hI
      refine ⟨i1, ?_, ?_, fun i s hi => ?_⟩
      · rw [gI_sIn _ (by omega)]; exact i2
      · rw [gI_sIn _ (by omega)]; exact i3
      · obtain ⟨k1, k2, k3⟩ := i4 i s hi
        exact ⟨k1, k2.eq (fun j hj _ => gA_sAn _ (by omega) _), k3.eq (gA_sAn _ (by omega) _)⟩
  · rw [if_neg c]
    exact ⟨_, _, _, rfl, by rw [if_neg c], hi⟩
