/-! the calls, one by one: wander, feed, pace -/
theorem m_standsAt {τ : St} {v : Nat → Nat} (hv : Bij 8 v) (hs : ∀ p, p < 8 → gA τ 18 p = iI (v p)) {p : Nat} (hp : p < 8) : x_X10_standsAt (iI (v p)) τ = some (iI p) := by
  have hvp := hv.1 p hp
  have key := lp_run (f := fun w : Int32 => x_X10_standsAt_L2 (iI (v p)) τ w) (fun i => iI ((i : Nat) : Int)) (w := iI (p : Int)) p FU (by unfold FU; omega) (fun i hi => ?_) ?_
  · unfold x_X10_standsAt
    rw [show (0 : Int32) = iI ((0 : Nat) : Int) from rfl, key]; rfl
  · have hvi := hv.1 i (by omega)
    unfold x_X10_standsAt_L2
    rw [ldI_in (show i < lenM 18 from (show i < 8 by omega)) (by decide), bd_some, hs i (by omega)]
    simp (disch := omega) only [iI_eqD, qa1]
    rw [if_neg (fun e => by have := hv.2.1 i p (by omega) hp (by omega); omega)]
    rfl
  · unfold x_X10_standsAt_L2
    rw [ldI_in (show p < lenM 18 from hp) (by decide), bd_some, hs p hp, if_pos rfl]
theorem m_wloops {τ : St} {a b : Nat} {c : Int32} (ha : a < 8) (hb : b < 8) (hc : gA τ 18 a = c) : ∃ z1 z2 σ1 σ2, lp (fun v : (Int32 × St) => x_X10_wander_L45 c (iI b) (iI a) v.1 v.2) FU (iI a, τ) = some (z1, σ1) ∧ lp (fun v : (Int32 × St) => x_X10_wander_L76 c (iI b) (iI a) v.1 v.2) FU (iI a, σ1) = some (z2, σ2) ∧ stI σ2 18 (lenM 18) (iI b) c = some (sA τ 18 (shiftF (gA τ 18) a b)) := by
  have h1 : lp (fun w : Int32 × St => x_X10_wander_L45 c (iI b) (iI a) w.1 w.2) FU (iI a, τ) = some (iI ((a + (b - a) : Nat) : Int), sA τ 18 (fun k => if a ≤ k ∧ k < b then gA τ 18 (k + 1) else gA τ 18 k)) := by
    have e0 : sA τ 18 (fun k => if a ≤ k ∧ k < a + 0 then gA τ 18 (k + 1) else gA τ 18 k) = τ := by
      rw [show (fun k => if a ≤ k ∧ k < a + 0 then gA τ 18 (k + 1) else gA τ 18 k) = gA τ 18 from by funext k; rw [if_neg (by omega)], sA_gA]
    have := lp_run (f := fun w : Int32 × St => x_X10_wander_L45 c (iI b) (iI a) w.1 w.2) (fun i => (iI ((a + i : Nat) : Int), sA τ 18 (fun k => if a ≤ k ∧ k < a + i then gA τ 18 (k + 1) else gA τ 18 k))) (w := (iI ((a + (b - a) : Nat) : Int), sA τ 18 (fun k => if a ≤ k ∧ k < b then gA τ 18 (k + 1) else gA τ 18 k))) (b - a) FU (by unfold FU; omega) (fun i hi => ?_) ?_
    · simp only [e0] at this
      exact this
    · simp (disch := omega) only [x_X10_wander_L45, iI_leD]
      rw [if_neg (by omega), qa1, gA_sA, show ((a + i : Nat) : Int) + 1 = ((a + i + 1 : Nat) : Int) from by omega, ldI_in (show a + i + 1 < lenM 18 from (show _ < 8 by omega)) (by decide), bd_some, stI_in (show a + i < lenM 18 from (show _ < 8 by omega)) (by decide), bd_some, gA_sA, sA_sA, if_neg (by omega)]
      congr 4
      funext k
      simp only [upd]
      by_cases e : k = a + i
      · rw [if_pos e, if_pos (by omega), e]
      · rw [if_neg e]; exact ifc (by omega)
    · simp (disch := omega) only [x_X10_wander_L45, iI_leD]
      rw [if_pos (by omega)]
      congr 4
      funext k
      exact ifc (by omega)
  have h2 : ∀ σ1 : St, lp (fun w : Int32 × St => x_X10_wander_L76 c (iI b) (iI a) w.1 w.2) FU (iI a, σ1) = some (iI ((a - (a - b) : Nat) : Int), sA σ1 18 (fun k => if b < k ∧ k ≤ a then gA σ1 18 (k - 1) else gA σ1 18 k)) := by
    intro σ1
    have e0 : sA σ1 18 (fun k => if a - 0 < k ∧ k ≤ a then gA σ1 18 (k - 1) else gA σ1 18 k) = σ1 := by
      rw [show (fun k => if a - 0 < k ∧ k ≤ a then gA σ1 18 (k - 1) else gA σ1 18 k) = gA σ1 18 from by funext k; rw [if_neg (by omega)], sA_gA]
    have := lp_run (f := fun w : Int32 × St => x_X10_wander_L76 c (iI b) (iI a) w.1 w.2) (fun i => (iI ((a - i : Nat) : Int), sA σ1 18 (fun k => if a - i < k ∧ k ≤ a then gA σ1 18 (k - 1) else gA σ1 18 k))) (w := (iI ((a - (a - b) : Nat) : Int), sA σ1 18 (fun k => if b < k ∧ k ≤ a then gA σ1 18 (k - 1) else gA σ1 18 k))) (a - b) FU (by unfold FU; omega) (fun i hi => ?_) ?_
    · simp only [e0] at this
      exact this
    · simp (disch := omega) only [x_X10_wander_L76, iI_leD]
      rw [if_neg (by omega), qs1, qaM, gA_sA, show ((a - i : Nat) : Int) - 1 = ((a - i - 1 : Nat) : Int) from by omega, ldI_in (show a - i - 1 < lenM 18 from (show _ < 8 by omega)) (by decide), bd_some, stI_in (show a - i < lenM 18 from (show _ < 8 by omega)) (by decide), bd_some, gA_sA, sA_sA, if_neg (by omega), show ((a - i : Nat) : Int) + -1 = ((a - (i + 1) : Nat) : Int) from by omega]
      congr 4
      funext k
      simp only [upd]
      by_cases e : k = a - i
      · rw [if_pos e, if_pos (by omega), e]
      · rw [if_neg e]; exact ifc (by omega)
    · simp (disch := omega) only [x_X10_wander_L76, iI_leD]
      rw [if_pos (by omega)]
      congr 4
      funext k
      exact ifc (by omega)
  refine ⟨_, _, _, _, h1, h2 _, ?_⟩
  rw [stI_in (show b < lenM 18 from hb) (by decide), gA_sA, gA_sA, sA_sA, sA_sA]
  congr 2
  funext k
  simp only [upd, shiftF]
  by_cases e : k = b
  · rw [if_pos e, if_pos e, hc]
  · rw [if_neg e, if_neg e]
    by_cases c1 : b < k ∧ k ≤ a
    · rw [if_pos c1, if_neg (by omega), if_neg (by omega), if_pos c1]
    · rw [if_neg c1, if_neg c1]
theorem op_wander {σ τ : St} (h : Inv σ τ) (p1 p2 : Int32) : StT [(1, 1), (3, 2)] (x_X9_wander p1 p2 σ) (x_X10_wander p1 p2 τ) := by
  obtain ⟨T, s, n, ims, h⟩ := h
  obtain ⟨z, hz, rfl⟩ := ex_iI p1
  obtain ⟨y, hy, rfl⟩ := ex_iI p2
  obtain ⟨τ1, e1, h0, h1⟩ := h.st
  have hi : Inv σ τ1 := ⟨T, s, n, ims, h1⟩
  have hh := h1
  obtain ⟨hT, hs, hC, hM, hSC, hSM, hB, hI, hb⟩ := hh
  have hC8 := hT.1
  have hS24 := hT.2.1
  have hL6 := hT.2.2.1
  have ex : x_X10_wander (iI z) (iI y) τ = x_X10_wander (iI z) (iI y) τ := rfl
  have ec : x_X9_wander (iI z) (iI y) σ = x_X9_wander (iI z) (iI y) σ := rfl
  conv at ex => rhs; unfold x_X10_wander
  conv at ec => rhs; unfold x_X9_wander x_X9_wander_b25 x_X9_wander_b26
  rw [bd_some, e1, m_isCrate hM hT h0 hz (by decide)] at ex
  rw [c_needCrate hC hT hz] at ec
  by_cases e : 0 ≤ z ∧ z < tC T
  · rw [if_pos e, bd2_some, if_neg (by decide), show gI τ1 8 = iI (tC T) from hM.1, qs1, m_wn 0 _ 0 _ rfl rfl hy ⟨by omega, by omega⟩ ⟨by omega, by omega⟩, bd_some] at ex
    rw [if_pos e, bt_inl, show gI σ 0 = iI (tC T) from hC.1] at ec
    obtain ⟨y1, y2⟩ := hy
    simp (disch := omega) only [ql0, iI_leD] at ec
    obtain ⟨c, rfl⟩ := Int.eq_ofNat_of_zero_le e.1
    have hc : c < tC T := by omega
    by_cases e2 : 0 ≤ y ∧ y < tC T
    · obtain ⟨to, rfl⟩ := Int.eq_ofNat_of_zero_le e2.1
      have hto : to < tC T := by omega
      rw [if_pos (show 0 ≤ (to : Int) ∧ (to : Int) ≤ (tC T : Int) - 1 by omega), m_may1 h0 (by decide), bd2_some, if_neg (by decide)] at ex
      rw [if_neg (by omega), if_neg (by omega), c_need1 (by decide), bt_inl] at ec
      obtain ⟨hv, hv2⟩ := hs.2.2.2.2.2
      obtain ⟨p, hp, hpc⟩ := hv.2.2 c (by omega)
      have hpC : p < tC T := by
        by_cases q : p < tC T
        · exact q
        · have := hv2 p (by omega) hp; omega
      have ef := m_standsAt hv hSM.2.2.2 hp
      rw [hpc] at ef
      obtain ⟨z1, z2, σ1, σ2, k1, k2, k3⟩ := m_wloops (τ := τ1) (c := iI c) hp (show to < 8 by omega) (by rw [hSM.2.2.2 p hp, hpc])
      rw [ef, bd_some, k1, bd2_some, k2, bd2_some, k3, bd_some] at ex
      have ep : x_X2_placeOf 18 (iI c) σ = some (iI p) := by
        rcases f_placeOf 18 (iI c) σ with ⟨q, q1, q2, _, q4⟩ | ⟨q1, _⟩
        · have q1 : q < 8 := q1
          have hb := hv.1 q q1
          rw [show gA σ 18 q = _ from hSC.2.2.2 q q1] at q2
          have := (iI_inj ⟨by omega, by omega⟩ ⟨by omega, by omega⟩).mp q2
          have := hv.2.1 q p q1 hp (by omega)
          rw [q4, this]
        · exact absurd (show gA σ 18 p = iI c by rw [show gA σ 18 p = _ from hSC.2.2.2 p hp, hpc]) (q1 p hp)
      rw [ep, bd_some, f_shift 18 p to σ hp (show to < 8 by omega), bd_some] at ec
      refine StT.inl ec ex ?_ ⟨T, (skW s, skL s, skD s, shiftN (skV s) p to), n, ims, h1.stock ?_ ?_ ?_ (fun _ _ => rfl) (fun j hj => gA_sAn _ (by omega) _) (fun _ _ => rfl) (fun j hj => gA_sAn _ (by omega) _)⟩
      · rw [gI_sA]; exact h0
      · refine ⟨hs.1, hs.2.1, hs.2.2.1, hs.2.2.2.1, hs.2.2.2.2.1, hv.shift hp (by omega), fun q h1 h2 => ?_⟩
        show shiftN (skV s) p to q = q
        unfold shiftN
        rw [if_neg (by omega), if_neg (by omega), if_neg (by omega)]
        exact hv2 q h1 h2
      · refine ⟨fun q hq => ?_, fun q hq => ?_, fun q hq => ?_, fun q hq => ?_⟩
        · rw [gA_sAn _ (by omega)]; exact hSC.1 q hq
        · rw [gA_sAn _ (by omega)]; exact hSC.2.1 q hq
        · rw [gA_sAn _ (by omega)]; exact hSC.2.2.1 q hq
        · rw [gA_sA]; exact shiftF_N hp (by omega) hSC.2.2.2 q hq
      · unfold SkM
        rw [gA_sAn _ (show 17 ≠ 18 by omega), gA_sAn _ (show 16 ≠ 18 by omega), gA_sA, gA_sAn _ (show 7 ≠ 18 by omega), gA_sAn _ (show 8 ≠ 18 by omega)]
        exact ⟨hSM.1, hSM.2.1, hSM.2.2.1, fun q hq => shiftF_N hp (by omega) hSM.2.2.2 q hq⟩
    · rw [if_neg (show ¬ (0 ≤ y ∧ y ≤ (tC T : Int) - 1) by omega), show x_X10_may 0 2 2 τ1 = some (0, refM τ1 2 2) from m_may0 (k := 2) h0 (by decide) (by omega), bd2_some, if_pos rfl] at ex
      by_cases c0 : y < 0
      · rw [if_pos c0, c_need0, bt_inr] at ec
        exact StT.ref h1 ec ex (by decide)
      · rw [if_neg c0, if_pos (by omega), c_need0, bt_inr] at ec
        exact StT.ref h1 ec ex (by decide)
  · rw [if_neg e, bd2_some, if_pos rfl] at ex
    rw [if_neg e, bt_inr] at ec
    exact StT.ref h1 ec ex (by decide)
theorem op_pace {σ τ : St} (h : Inv σ τ) : StR σ (x_X9_pace σ) (x_X10_pace τ) := by
  obtain ⟨T, s, n, ims, h⟩ := h
  obtain ⟨τ1, e1, h0, h1⟩ := h.st
  have hi : Inv σ τ1 := ⟨T, s, n, ims, h1⟩
  have hh := h1
  obtain ⟨hT, hs, hC, hM, hSC, hSM, hB, hI, hb⟩ := hh
  have hC8 := hT.1
  have hS24 := hT.2.1
  have hL6 := hT.2.2.1
  have key := lp2_inv (f := fun v : (Int32 × Int32) => x_X9_pace_L4 σ v.1 v.2) (g := fun v : (Int32 × Int32) => x_X10_pace_L9 τ1 v.1 v.2)
    (fun i v x => ∃ b : Nat, 1 ≤ b ∧ b ≤ 8 ∧ v = (iI b, iI ((i + 2 : Nat) : Int)) ∧ x = v) (fun v x => x.1 = v.1) 7 FU FU (by unfold FU; omega) (by unfold FU; omega) (fun i v x hi hg => ?_) (fun v x hg => ?_) (iI ((1 : Nat) : Int), iI ((2 : Nat) : Int)) (iI ((1 : Nat) : Int), iI ((2 : Nat) : Int)) ⟨1, by omega, by omega, rfl, rfl⟩
  · obtain ⟨v2, x2, k1, k2, k3⟩ := key
    unfold x_X9_pace x_X10_pace
    rw [bd_some, e1]
    show StR σ (bd2 (lp _ FU (iI ((1 : Nat) : Int), iI ((2 : Nat) : Int))) _) (bd2 (lp _ FU (iI ((1 : Nat) : Int), iI ((2 : Nat) : Int))) _)
    rw [k1, k2]
    obtain ⟨v21, v22⟩ := v2
    obtain ⟨x21, x22⟩ := x2
    obtain rfl : x21 = v21 := k3
    exact ⟨_, _, rfl, rfl, hi⟩
  · obtain ⟨b, b1, b2, rfl, rfl⟩ := hg
    have w1 := hC.2.2.2.2.2.2.2.2.1 b b1 b2
    have w2 := hC.2.2.2.2.2.2.2.2.1 (i + 2) (by omega) (by omega)
    have w3 := hM.2.2.2.2.2.2.2.1 b b1 b2
    have w4 := hM.2.2.2.2.2.2.2.1 (i + 2) (by omega) (by omega)
    unfold x_X9_pace_L4 x_X10_pace_L9
    simp (disch := omega) only [qg8]
    rw [if_neg (by omega), if_neg (by omega), f_at, bd_some, f_at, bd_some, atF_in (show i + 2 < lenN 6 from (show i + 2 < 9 by omega)) (by decide), atF_in (show b < lenN 6 from (show b < 9 by omega)) (by decide), ldI_in (show i + 2 < lenM 5 from (show i + 2 < 9 by omega)) (by decide), bd_some, ldI_in (show b < lenM 5 from (show b < 9 by omega)) (by decide), bd_some, show gA σ 6 b = _ from w1, show gA σ 6 (i + 2) = _ from w2, show gA τ1 5 b = _ from w3, show gA τ1 5 (i + 2) = _ from w4, qa1]
    by_cases c : iI ((i + 2 : Nat) : Int) * (8 - iI (tMi T (i + 2))) ≤ iI ((b : Nat) : Int) * (8 - iI (tMi T b))
    · rw [if_pos c]
      exact ⟨_, _, rfl, rfl, b, b1, b2, rfl, rfl⟩
    · rw [if_neg c]
      exact ⟨_, _, rfl, rfl, i + 2, by omega, by omega, rfl, rfl⟩
  · obtain ⟨b, b1, b2, rfl, rfl⟩ := hg
    unfold x_X9_pace_L4 x_X10_pace_L9
    simp (disch := omega) only [qg8]
    rw [if_pos (by omega), if_pos (by omega)]
    exact ⟨_, _, rfl, rfl, rfl⟩
/-- bytes of an int -/
theorem bv_byte1 (v : BitVec 32) {s : Nat} (hs : s ≤ 24) : (v >>> s) &&& 255#32 = (v.sshiftRight s) &&& 255#32 := by
  have h255 : ∀ i, i < 32 → (255#32).getLsbD i = decide (i < 8) := by decide
  refine BitVec.eq_of_getLsbD_eq (fun i hi => ?_)
  rw [BitVec.getLsbD_and, BitVec.getLsbD_and, h255 i hi, BitVec.getLsbD_ushiftRight, BitVec.getLsbD_sshiftRight]
  by_cases h8 : i < 8
  · rw [if_pos (show s + i < 32 by omega), decide_eq_false (show ¬ 32 ≤ i by omega), Bool.not_false, Bool.true_and]
  · rw [decide_eq_false h8, Bool.and_false, Bool.and_false]
theorem bv_byte (v : BitVec 32) : ((v >>> 24) &&& 255#32 = (v.sshiftRight 24) &&& 255#32) ∧ ((v >>> 16) &&& 255#32 = (v.sshiftRight 16) &&& 255#32) ∧ ((v >>> 8) &&& 255#32 = (v.sshiftRight 8) &&& 255#32) ∧ ((v >>> 0) &&& 255#32 = (v.sshiftRight 0) &&& 255#32) :=
  ⟨bv_byte1 v (by omega), bv_byte1 v (by omega), bv_byte1 v (by omega), bv_byte1 v (by omega)⟩
def gcB (p : Int32) (j : Nat) : Int32 := usI p (iI (24 - 8 * (j : Int))) &&& 255
def gmB (p : Int32) (j : Nat) : Int32 := (p >>> (iI (24 - 8 * (j : Int)) &&& 31)) &&& 255
theorem gB_eq (p : Int32) {j : Nat} (hj : j < 4) : gcB p j = gmB p j := by
  obtain ⟨h1, h2, h3, h4⟩ := bv_byte p.toBitVec
  have hc : j = 0 ∨ j = 1 ∨ j = 2 ∨ j = 3 := by omega
  rcases hc with rfl | rfl | rfl | rfl
  · exact Int32.toBitVec.inj h1
  · exact Int32.toBitVec.inj h2
  · exact Int32.toBitVec.inj h3
  · exact Int32.toBitVec.inj h4
