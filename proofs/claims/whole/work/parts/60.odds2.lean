/-! odds: the class's and the reference's, and the call -/
theorem shN_small {T : Td} (hT : TdOk T) (own lie : Nat) {k : Nat} (hk : k ≤ 4) (x : Nat) : shN T own lie k x ≤ 4608 ^ 4 :=
  Nat.le_trans (shN_le hT own lie k x) (Nat.pow_le_pow_right (by omega) hk)
theorem c_putBack {σ : St} {T : Td} {s : Sk} (hC : TdC 0 σ T) (hT : TdOk T) (hSC : SkC σ 0 s) {k lie times : Nat} (hk : k < tS T) (hlie : skW s k = lie) (hl : lie < tC T) (ht : times ≤ 4) : ∃ σ2, x_X8_putBack (iI k) (iI times) σ = some σ2 ∧ JF σ σ2 ∧ Sh 8 σ2 0 (shN T (tOwn T k) lie times) ∧ gL σ2 0 = jJ (((2 * tC T * wSum T) ^ times : Nat) : Int) := by
  have hC8 := hT.1
  have hS24 := hT.2.1
  have ho := tOwn_lt hT hk
  have k1 := lp_inv (f := fun v : (Int32 × St) => x_X8_clearShares_L2 v.1 v.2) (fun i v => ∃ σ2, v = (iI ((i : Nat) : Int), σ2) ∧ JF σ σ2 ∧ Sh i σ2 0 (fun _ => 0))
    (fun v => JF σ v.2 ∧ Sh 8 v.2 0 (fun _ => 0)) 8 FU (by unfold FU; omega) (fun i v hi hg => ?_) (fun v hg => ?_) (iI ((0 : Nat) : Int), σ) ⟨σ, rfl, JF.rfl, fun x hx => absurd hx (by omega)⟩
  · obtain ⟨⟨q1, σ1⟩, a1, a2, a3⟩ := k1
    have hcl : x_X8_clearShares σ = some σ1 := by
      unfold x_X8_clearShares
      show bd2 (lp _ FU (iI ((0 : Nat) : Int), σ)) _ = _
      rw [a1]; rfl
    obtain ⟨σ2, b1, b2, b3, b4, b5⟩ := c_give (σ := sL σ1 0 (1 : Int64)) (g := fun _ => 0) (x0 := lie) (a := 1) (fun x hx => a3 x hx) (by omega)
    have hj : JF σ σ2 := (a2.trans JF.sL).trans b2
    have key := lp_inv (f := fun v : (Int32 × St) => x_X8_putBack_L27 (iI k) (iI times) v.1 v.2) (fun i v => ∃ σ3, v = (iI ((i : Nat) : Int), σ3) ∧ JF σ2 σ3 ∧ Sh 8 σ3 0 (shN T (tOwn T k) lie i) ∧ gL σ3 0 = jJ (((2 * tC T * wSum T) ^ i : Nat) : Int))
      (fun v => JF σ2 v.2 ∧ Sh 8 v.2 0 (shN T (tOwn T k) lie times) ∧ gL v.2 0 = jJ (((2 * tC T * wSum T) ^ times : Nat) : Int)) times FU (by unfold FU; omega) (fun i v hi hg => ?_) (fun v hg => ?_) (iI ((0 : Nat) : Int), σ2) ⟨σ2, rfl, JF.rfl, fun x hx => by
        rw [b3 x hx]
        show jJ (((0 : Nat) + (if x = lie then 1 else 0) : Nat) : Int) = jJ ((if x = lie then 1 else 0 : Nat) : Int)
        rw [Nat.zero_add], by rw [b5]; exact gL_sL _ _ _⟩
    · obtain ⟨⟨q2, σ3⟩, d1, d2, d3, d4⟩ := key
      refine ⟨σ3, ?_, hj.trans d2, d3, d4⟩
      have hw : x_X2_at 15 (iI k) (sL σ1 0 (1 : Int64)) = some (iI lie) := by
        rw [f_at, atF_in (show k < lenN 15 from (show k < 24 by omega)) (by decide), show gA (sL σ1 0 (1 : Int64)) 15 k = gA σ1 15 k from rfl, a2.2 15, show gA σ 15 k = _ from hSC.1 k (by omega), hlie]
      unfold x_X8_putBack
      rw [hcl, bd_some, bd_some, hw, bd_some, show (1 : Int64) = jJ ((1 : Nat) : Int) from rfl]
      show bd (x_X8_give (iI lie) (jJ ((1 : Nat) : Int)) (sL σ1 0 (1 : Int64))) _ = _
      rw [b1, bd_some]
      show bd2 (lp _ FU (iI ((0 : Nat) : Int), σ2)) _ = _
      rw [d1]; rfl
    · obtain ⟨σ3, rfl, d2, d3, d4⟩ := hg
      have hC3 : TdC 0 σ3 T := (hC.jf hj).jf d2
      obtain ⟨σ4, n1, n2, n3, n4⟩ := c_once hC3 hT ho d3 (fun c _ => shN_small hT _ _ (by omega) c) (fun c hc => shN_out ho hl hc i) d4
      dsimp only
      unfold x_X8_putBack_L27
      simp (disch := omega) only [iI_leD]
      rw [if_neg (by omega), c_own (by omega) hC3 hT hk, bd_some, n1, bd_some, qa1]
      exact ⟨_, rfl, σ4, rfl, d2.trans n2, n3, by rw [n4, Nat.pow_succ]⟩
    · obtain ⟨σ3, rfl, d2, d3, d4⟩ := hg
      dsimp only
      unfold x_X8_putBack_L27
      simp (disch := omega) only [iI_leD]
      rw [if_pos (by omega)]
      exact ⟨_, rfl, d2, d3, d4⟩
  · obtain ⟨σ2, rfl, b2, b3⟩ := hg
    dsimp only
    unfold x_X8_clearShares_L2
    rw [show nI 8 = (8 : Int32) from rfl]
    simp (disch := omega) only [qM8]
    rw [if_neg (by omega), stJ_in (by omega) (by omega), bd_some, qa1]
    refine ⟨_, rfl, _, rfl, b2.trans JF.sJ, fun x hx => ?_⟩
    rw [gJ_sJ]
    unfold vp_updL
    by_cases e : x = i
    · rw [if_pos e]; rfl
    · rw [if_neg e]; exact b3 x (by omega)
  · obtain ⟨σ2, rfl, b2, b3⟩ := hg
    dsimp only
    unfold x_X8_clearShares_L2
    rw [show nI 8 = (8 : Int32) from rfl]
    simp (disch := omega) only [qM8]
    rw [if_pos (by omega)]
    exact ⟨_, rfl, b2, b3⟩
/-- one more share in the reference's new parts -/
theorem m_add {τ : St} {n : Nat} {g : Nat → Nat} (h : Sh n τ 1 g) {x0 a : Nat} (hx : x0 < n) (h8 : n ≤ 8) : ldJ (gJ τ 1) 8 (iI x0) = some (jJ (g x0 : Nat)) ∧ stJ τ 1 8 (iI x0) (jJ (g x0 : Nat) + jJ (a : Nat)) = some (sJ τ 1 (vp_updL (gJ τ 1) x0 (gJ τ 1 x0 + jJ (a : Nat)))) ∧ Sh n (sJ τ 1 (vp_updL (gJ τ 1) x0 (gJ τ 1 x0 + jJ (a : Nat)))) 1 (add1 g x0 a) ∧ JF τ (sJ τ 1 (vp_updL (gJ τ 1) x0 (gJ τ 1 x0 + jJ (a : Nat)))) ∧ gJ (sJ τ 1 (vp_updL (gJ τ 1) x0 (gJ τ 1 x0 + jJ (a : Nat)))) 0 = gJ τ 0 ∧ gL (sJ τ 1 (vp_updL (gJ τ 1) x0 (gJ τ 1 x0 + jJ (a : Nat)))) 0 = gL τ 0 := by
  refine ⟨?_, ?_, sh_add h hx, JF.sJ, gJ_sJn _ (by omega) _, gL_sJ _ _ _ _⟩
  · rw [ldJ_in (by omega) (by omega), h x0 hx]
  · rw [stJ_in (by omega) (by omega), h x0 hx]
theorem m_hand {τ : St} {T : Td} (hM : TdM 0 τ T) (hT : TdOk T) {k c : Nat} {p2 u : Int32} (hk : k < tS T) (hc : c < tC T) {f g : Nat → Nat} (hf : Sh (tC T) τ 0 f) (h : Sh (tC T) τ 1 g) : ∃ τ2, x_X10_findOdds_L78 (iI k) p2 u (iI c) τ = some (true, iI ((c + 1 : Nat) : Int), τ2) ∧ JF τ τ2 ∧ Sh (tC T) τ2 1 (handN T (tOwn T k) (f c) c g) ∧ gJ τ2 0 = gJ τ 0 ∧ gL τ2 0 = gL τ 0 := by
  have hC8 := hT.1
  have w0 := (wN_eq hT (i := 0) (by omega)).2
  have w1 := (wN_eq hT (i := 1) (by omega)).2
  have w2 := (wN_eq hT (i := 2) (by omega)).2
  have w3 := (wN_eq hT (i := 3) (by omega)).2
  have ho := tOwn_lt hT hk
  have hu := upC_lt hc
  have hd := dnC_lt hc
  have r0 : ∀ e C w : Nat, e * w * 2 * C = 2 * (e * C) * w := fun e C w => by
    rw [Nat.mul_comm (e * w) 2, Nat.mul_assoc 2, Nat.mul_assoc 2, Nat.mul_assoc e w C, Nat.mul_comm w C, ← Nat.mul_assoc e C w]
  have r1 : ∀ e C w : Nat, e * w * C = e * C * w := fun e C w => by rw [Nat.mul_assoc, Nat.mul_comm w C, ← Nat.mul_assoc]
  have r3 : ∀ e w : Nat, e * w * 2 = 2 * e * w := fun e w => by rw [Nat.mul_comm (e * w) 2, ← Nat.mul_assoc]
  obtain ⟨a1, a2, a3, a4, a5, a6⟩ := m_add h (x0 := tOwn T k) (a := 2 * (f c * tC T) * wN T 0) ho hC8
  generalize sJ τ 1 _ = τ1 at a2 a3 a4 a5 a6
  have hM1 := hM.jf a4
  obtain ⟨b1, b2, b3, b4, b5, b6⟩ := m_add a3 (x0 := upC c) (a := f c * tC T * wN T 1) hu hC8
  generalize sJ τ1 1 _ = τ2 at b2 b3 b4 b5 b6
  have hM2 := hM1.jf b4
  obtain ⟨c1, c2, c3, c4, c5, c6⟩ := m_add b3 (x0 := dnC (tC T) c) (a := f c * tC T * wN T 1) hd hC8
  generalize sJ τ2 1 _ = τ3 at c2 c3 c4 c5 c6
  have hM3 := hM2.jf c4
  obtain ⟨d1, d2, d3, d4, d5, d6⟩ := m_add c3 (x0 := c) (a := 2 * (f c * tC T) * wN T 2) hc hC8
  generalize sJ τ3 1 _ = τ4 at d2 d3 d4 d5 d6
  have hM4 := hM3.jf d4
  have key := lp_inv (f := fun v : (Int32 × St) => x_X10_findOdds_L244 (iI k) p2 u (iI c) (jJ (f c : Nat)) v.1 v.2) (fun i v => ∃ σ2, v = (iI ((i : Nat) : Int), σ2) ∧ JF τ4 σ2 ∧ Sh (tC T) σ2 1 (fun x => add1 (add1 (add1 (add1 g (tOwn T k) (2 * (f c * tC T) * wN T 0)) (upC c) (f c * tC T * wN T 1)) (dnC (tC T) c) (f c * tC T * wN T 1)) c (2 * (f c * tC T) * wN T 2) x + (if x < i then 2 * f c * wN T 3 else 0)) ∧ gJ σ2 0 = gJ τ4 0 ∧ gL σ2 0 = gL τ4 0)
    (fun v => JF τ4 v.2 ∧ Sh (tC T) v.2 1 (handN T (tOwn T k) (f c) c g) ∧ gJ v.2 0 = gJ τ4 0 ∧ gL v.2 0 = gL τ4 0) (tC T) FU (by unfold FU; omega) (fun i v hi hg => ?_) (fun v hg => ?_) (iI ((0 : Nat) : Int), τ4) ⟨τ4, rfl, JF.rfl, fun x hx => by
      rw [d3 x hx]
      show _ = jJ ((_ + (if x < 0 then _ else 0) : Nat) : Int)
      rw [if_neg (by omega)]; rfl, rfl, rfl⟩
  · obtain ⟨⟨q1, τ5⟩, k1, k2, k3, k4, k5⟩ := key
    refine ⟨τ5, ?_, (((a4.trans b4).trans c4).trans d4).trans k2, k3, by rw [k4, d5, c5, b5, a5], by rw [k5, d6, c6, b6, a6]⟩
    have e191 : x_X10_findOdds_b78_191 (iI k) p2 u (iI c) (jJ (f c : Nat)) (iI (dnC (tC T) c : Nat)) τ2 = some (true, iI ((c + 1 : Nat) : Int), τ5) := by
      unfold x_X10_findOdds_b78_191
      rw [c1, bd_some, show (1 : Int32) = iI ((1 : Nat) : Int) from rfl, m_weight hM2 hT (by omega), bd_some, show gI τ2 8 = iI (tC T) from hM2.1, jJ_iI (by omega) (by omega), jJ_iI (by omega) (by omega), jJ_mulN, jJ_mulN, r1 (f c) (tC T) (wN T 1), c2, bd_some, d1, bd_some, show (2 : Int32) = iI ((2 : Nat) : Int) from rfl, m_weight hM3 hT (by omega), bd_some, show gI τ3 8 = iI (tC T) from hM3.1, jJ_iI (by omega) (by omega), jJ_iI (by omega) (by omega), show (2 : Int64) = jJ ((2 : Nat) : Int) from rfl, jJ_mulN, jJ_mulN, jJ_mulN, r0, d2, bd_some]
      show bd2 (lp _ FU (iI ((0 : Nat) : Int), τ4)) _ = _
      rw [k1, bd2_some, iI_add]; rfl
    have e147 : x_X10_findOdds_b78_147 (iI k) p2 u (iI c) (jJ (f c : Nat)) (iI (upC c : Nat)) τ1 = some (true, iI ((c + 1 : Nat) : Int), τ5) := by
      unfold x_X10_findOdds_b78_147
      rw [b1, bd_some, show (1 : Int32) = iI ((1 : Nat) : Int) from rfl, m_weight hM1 hT (by omega), bd_some, show gI τ1 8 = iI (tC T) from hM1.1, jJ_iI (by omega) (by omega), jJ_iI (by omega) (by omega), jJ_mulN, jJ_mulN, r1 (f c) (tC T) (wN T 1), b2, bd_some, show gI τ2 8 = iI (tC T) from hM2.1, iI_add]
      simp (disch := omega) only [iI_leD]
      unfold dnC at e191
      by_cases e : c + 1 < tC T
      · rw [if_pos e] at e191
        rw [if_neg (by omega)]
        exact e191
      · rw [if_neg e] at e191
        rw [if_pos (by omega)]
        exact e191
    unfold x_X10_findOdds_L78
    rw [show gI τ 8 = iI (tC T) from hM.1]
    simp (disch := omega) only [iI_leD, qm0]
    rw [if_neg (by omega), ldJ_in (by omega) (by omega), hf c hc, bd_some, m_own hM hT hk, bd_some, a1, bd_some, show (0 : Int32) = iI ((0 : Nat) : Int) from rfl, m_weight hM hT (by omega), bd_some, jJ_iI (by omega) (by omega), jJ_iI (by omega) (by omega), show (2 : Int64) = jJ ((2 : Nat) : Int) from rfl, jJ_mulN, jJ_mulN, jJ_mulN, r0, a2, bd_some]
    unfold upC at e147
    by_cases e : c = 0
    · rw [if_pos e] at e147
      rw [if_pos (by omega)]
      exact e147
    · rw [if_neg e] at e147
      rw [if_neg (by omega), qs1, show (c : Int) - 1 = ((c - 1 : Nat) : Int) from by omega]
      exact e147
  · obtain ⟨σ5, rfl, k2, k3, k4, k5⟩ := hg
    have hM5 := hM4.jf k2
    obtain ⟨n1, n2, n3, n4, n5, n6⟩ := m_add k3 (x0 := i) (a := 2 * f c * wN T 3) hi hC8
    generalize sJ σ5 1 _ = σ6 at n2 n3 n4 n5 n6
    dsimp only
    unfold x_X10_findOdds_L244
    rw [show gI σ5 8 = iI (tC T) from hM5.1]
    simp (disch := omega) only [iI_leD]
    rw [if_neg (by omega), n1, bd_some, show (3 : Int32) = iI ((3 : Nat) : Int) from rfl, m_weight hM5 hT (by omega), bd_some, jJ_iI (by omega) (by omega), show (2 : Int64) = jJ ((2 : Nat) : Int) from rfl, jJ_mulN, jJ_mulN, r3, n2, bd_some, qa1]
    refine ⟨_, rfl, σ6, rfl, k2.trans n4, fun x hx => ?_, n5.trans k4, n6.trans k5⟩
    rw [n3 x hx]
    have hG : ∀ G A : Nat, (G + (if x < i then A else 0)) + (if x = i then A else 0) = G + (if x < i + 1 then A else 0) := by
      intro G A
      by_cases q : x = i
      · rw [if_pos q, if_neg (show ¬ x < i by omega), if_pos (show x < i + 1 by omega), Nat.add_zero]
      · rw [if_neg q, Nat.add_zero]
        congr 1
        exact ifc (by omega)
    exact congrArg (fun z : Nat => jJ (z : Int)) (hG _ _)
  · obtain ⟨σ5, rfl, k2, k3, k4, k5⟩ := hg
    have hM5 := hM4.jf k2
    dsimp only
    unfold x_X10_findOdds_L244
    rw [show gI σ5 8 = iI (tC T) from hM5.1]
    simp (disch := omega) only [iI_leD]
    rw [if_pos (by omega)]
    exact ⟨_, rfl, k2, k3, k4, k5⟩
theorem m_findOdds {τ : St} {T : Td} {s : Sk} (hM : TdM 0 τ T) (hT : TdOk T) (hSM : SkM τ (tS T) s) {k lie times : Nat} (hk : k < tS T) (hlie : skW s k = lie) (hl : lie < tC T) (ht : times ≤ 4) : ∃ τ2, x_X10_findOdds (iI k) (iI times) τ = some τ2 ∧ JF τ τ2 ∧ Sh (tC T) τ2 0 (shN T (tOwn T k) lie times) ∧ gL τ2 0 = jJ (((2 * tC T * wSum T) ^ times : Nat) : Int) := by
  have hC8 := hT.1
  have hS24 := hT.2.1
  have ho := tOwn_lt hT hk
  have hW := wSum_ok hT
  have k1 := lp_inv (f := fun v : (Int32 × St) => x_X10_findOdds_L2 (iI k) (iI times) v.1 v.2) (fun i v => ∃ σ2, v = (iI ((i : Nat) : Int), σ2) ∧ JF τ σ2 ∧ Sh i σ2 0 (shN T (tOwn T k) lie 0))
    (fun v => JF τ v.2 ∧ Sh (tC T) v.2 0 (shN T (tOwn T k) lie 0)) (tC T) FU (by unfold FU; omega) (fun i v hi hg => ?_) (fun v hg => ?_) (iI ((0 : Nat) : Int), τ) ⟨τ, rfl, JF.rfl, fun x hx => absurd hx (by omega)⟩
  · obtain ⟨⟨q1, τ1⟩, a1, a2, a3⟩ := k1
    have key := lp_inv (f := fun v : (Int32 × St) => x_X10_findOdds_L44 (iI k) (iI times) v.1 v.2) (fun i v => ∃ σ3, v = (iI ((i : Nat) : Int), σ3) ∧ JF τ σ3 ∧ Sh (tC T) σ3 0 (shN T (tOwn T k) lie i) ∧ gL σ3 0 = jJ (((2 * tC T * wSum T) ^ i : Nat) : Int))
      (fun v => JF τ v.2 ∧ Sh (tC T) v.2 0 (shN T (tOwn T k) lie times) ∧ gL v.2 0 = jJ (((2 * tC T * wSum T) ^ times : Nat) : Int)) times FU (by unfold FU; omega) (fun i v hi hg => ?_) (fun v hg => ?_) (iI ((0 : Nat) : Int), sL τ1 0 (1 : Int64)) ⟨_, rfl, a2.trans JF.sL, fun x hx => a3 x hx, gL_sL _ _ _⟩
    · obtain ⟨⟨q2, τ3⟩, d1, d2, d3, d4⟩ := key
      refine ⟨τ3, ?_, d2, d3, d4⟩
      unfold x_X10_findOdds
      show bd2 (lp _ FU (iI ((0 : Nat) : Int), τ)) _ = _
      rw [a1, bd2_some, bd_some]
      show bd2 (lp _ FU (iI ((0 : Nat) : Int), sL τ1 0 (1 : Int64))) _ = _
      rw [d1]; rfl
    · obtain ⟨τ3, rfl, d2, d3, d4⟩ := hg
      have hM3 : TdM 0 τ3 T := hM.jf d2
      have c1 := lp_inv (f := fun v : (Int32 × St) => x_X10_findOdds_L52 (iI k) (iI times) (iI ((i : Nat) : Int)) v.1 v.2) (fun q v => ∃ σ4, v = (iI ((q : Nat) : Int), σ4) ∧ JF τ3 σ4 ∧ Sh q σ4 1 (fun _ => 0) ∧ gJ σ4 0 = gJ τ3 0 ∧ gL σ4 0 = gL τ3 0)
        (fun v => JF τ3 v.2 ∧ Sh (tC T) v.2 1 (fun _ => 0) ∧ gJ v.2 0 = gJ τ3 0 ∧ gL v.2 0 = gL τ3 0) (tC T) FU (by unfold FU; omega) (fun q v hq hg => ?_) (fun v hg => ?_) (iI ((0 : Nat) : Int), τ3) ⟨τ3, rfl, JF.rfl, fun x hx => absurd hx (by omega), rfl, rfl⟩
      · obtain ⟨⟨q3, τ4⟩, e1, e2, e3, e4, e5⟩ := c1
        have hM4 : TdM 0 τ4 T := hM3.jf e2
        have c2 := lp_inv (f := fun v : (Int32 × St) => x_X10_findOdds_L78 (iI k) (iI times) (iI ((i : Nat) : Int)) v.1 v.2) (fun q v => ∃ σ4, v = (iI ((q : Nat) : Int), σ4) ∧ JF τ4 σ4 ∧ Sh (tC T) σ4 1 (accN T (tOwn T k) (shN T (tOwn T k) lie i) q) ∧ gJ σ4 0 = gJ τ4 0 ∧ gL σ4 0 = gL τ4 0)
          (fun v => JF τ4 v.2 ∧ Sh (tC T) v.2 1 (accN T (tOwn T k) (shN T (tOwn T k) lie i) (tC T)) ∧ gJ v.2 0 = gJ τ4 0 ∧ gL v.2 0 = gL τ4 0) (tC T) FU (by unfold FU; omega) (fun q v hq hg => ?_) (fun v hg => ?_) (iI ((0 : Nat) : Int), τ4) ⟨τ4, rfl, JF.rfl, e3, rfl, rfl⟩
        · obtain ⟨⟨q4, τ5⟩, f1, f2, f3, f4, f5⟩ := c2
          have hM5 : TdM 0 τ5 T := hM4.jf f2
          have c3 := lp_inv (f := fun v : (Int32 × St) => x_X10_findOdds_L292 (iI k) (iI times) (iI ((i : Nat) : Int)) v.1 v.2) (fun q v => ∃ σ4, v = (iI ((q : Nat) : Int), σ4) ∧ JF τ5 σ4 ∧ Sh q σ4 0 (accN T (tOwn T k) (shN T (tOwn T k) lie i) (tC T)) ∧ gJ σ4 1 = gJ τ5 1 ∧ gL σ4 0 = gL τ5 0)
            (fun v => JF τ5 v.2 ∧ Sh (tC T) v.2 0 (accN T (tOwn T k) (shN T (tOwn T k) lie i) (tC T)) ∧ gL v.2 0 = gL τ5 0) (tC T) FU (by unfold FU; omega) (fun q v hq hg => ?_) (fun v hg => ?_) (iI ((0 : Nat) : Int), τ5) ⟨τ5, rfl, JF.rfl, fun x hx => absurd hx (by omega), rfl, rfl⟩
          · obtain ⟨⟨q5, τ6⟩, g1, g2, g3, g4⟩ := c3
            have hM6 : TdM 0 τ6 T := hM5.jf g2
            have hw : x_X10_weights τ6 = some (iI (wSum T : Nat)) := by
              unfold x_X10_weights
              rw [show (0 : Int32) = iI ((0 : Nat) : Int) from rfl, m_weight hM6 hT (by omega), bd_some, show (1 : Int32) = iI ((1 : Nat) : Int) from rfl, m_weight hM6 hT (by omega), bd_some, show (2 : Int32) = iI ((2 : Nat) : Int) from rfl, m_weight hM6 hT (by omega), bd_some, show (3 : Int32) = iI ((3 : Nat) : Int) from rfl, m_weight hM6 hT (by omega), bd_some, iI_add, iI_add, iI_add]
              rfl
            dsimp only
            unfold x_X10_findOdds_L44
            simp (disch := omega) only [iI_leD]
            rw [if_neg (by omega)]
            show ∃ w, bd2 (lp _ FU (iI ((0 : Nat) : Int), τ3)) _ = _ ∧ _
            rw [e1, bd2_some]
            show ∃ w, bd2 (lp _ FU (iI ((0 : Nat) : Int), τ4)) _ = _ ∧ _
            rw [f1, bd2_some]
            show ∃ w, bd2 (lp _ FU (iI ((0 : Nat) : Int), τ5)) _ = _ ∧ _
            rw [g1, bd2_some, hw, bd_some, bd_some, show gI τ6 8 = iI (tC T) from hM6.1, jJ_iI (by omega) (by omega), jJ_iI (by omega) (by omega), show (2 : Int64) = jJ ((2 : Nat) : Int) from rfl, jJ_mulN, jJ_mulN, g4, f5, e5, d4, jJ_mulN, qa1]
            refine ⟨_, rfl, _, rfl, ((((d2.trans e2).trans f2).trans g2).trans JF.sL), fun x hx => g3 x hx, ?_⟩
            rw [gL_sL, Nat.pow_succ, show 2 * wSum T * tC T = 2 * tC T * wSum T from by rw [Nat.mul_assoc, Nat.mul_comm (wSum T), ← Nat.mul_assoc]]
          · obtain ⟨τ6, rfl, g2, g3, g4, g5⟩ := hg
            have hM6 : TdM 0 τ6 T := hM5.jf g2
            dsimp only
            unfold x_X10_findOdds_L292
            rw [show gI τ6 8 = iI (tC T) from hM6.1]
            simp (disch := omega) only [iI_leD]
            rw [if_neg (by omega), ldJ_in (by omega) (by omega), bd_some, stJ_in (by omega) (by omega), bd_some, qa1]
            refine ⟨_, rfl, _, rfl, g2.trans JF.sJ, fun x hx => ?_, ?_, g5⟩
            · rw [gJ_sJ]
              unfold vp_updL
              by_cases z : x = q
              · rw [if_pos z, g4, f3 q hq, z]
              · rw [if_neg z]; exact g3 x (by omega)
            · rw [gJ_sJn _ (by omega)]; exact g4
          · obtain ⟨τ6, rfl, g2, g3, g4, g5⟩ := hg
            have hM6 : TdM 0 τ6 T := hM5.jf g2
            dsimp only
            unfold x_X10_findOdds_L292
            rw [show gI τ6 8 = iI (tC T) from hM6.1]
            simp (disch := omega) only [iI_leD]
            rw [if_pos (by omega)]
            exact ⟨_, rfl, g2, g3, g5⟩
        · obtain ⟨τ5, rfl, f2, f3, f4, f5⟩ := hg
          have hM5 : TdM 0 τ5 T := hM4.jf f2
          obtain ⟨τ6, n1, n2, n3, n4, n5⟩ := m_hand (p2 := iI times) (u := iI ((i : Nat) : Int)) hM5 hT hk hq (f := shN T (tOwn T k) lie i) (fun x hx => by rw [f4, e4]; exact d3 x hx) f3
          exact ⟨_, n1, τ6, rfl, f2.trans n2, n3, n4.trans f4, n5.trans f5⟩
        · obtain ⟨τ5, rfl, f2, f3, f4, f5⟩ := hg
          have hM5 : TdM 0 τ5 T := hM4.jf f2
          dsimp only
          unfold x_X10_findOdds_L78
          rw [show gI τ5 8 = iI (tC T) from hM5.1]
          simp (disch := omega) only [iI_leD]
          rw [if_pos (by omega)]
          exact ⟨_, rfl, f2, f3, f4, f5⟩
      · obtain ⟨τ4, rfl, e2, e3, e4, e5⟩ := hg
        have hM4 : TdM 0 τ4 T := hM3.jf e2
        dsimp only
        unfold x_X10_findOdds_L52
        rw [show gI τ4 8 = iI (tC T) from hM4.1]
        simp (disch := omega) only [iI_leD]
        rw [if_neg (by omega), stJ_in (by omega) (by omega), bd_some, qa1]
        refine ⟨_, rfl, _, rfl, e2.trans JF.sJ, fun x hx => ?_, ?_, e5⟩
        · rw [gJ_sJ]
          unfold vp_updL
          by_cases z : x = q
          · rw [if_pos z]; rfl
          · rw [if_neg z]; exact e3 x (by omega)
        · rw [gJ_sJn _ (by omega)]; exact e4
      · obtain ⟨τ4, rfl, e2, e3, e4, e5⟩ := hg
        have hM4 : TdM 0 τ4 T := hM3.jf e2
        dsimp only
        unfold x_X10_findOdds_L52
        rw [show gI τ4 8 = iI (tC T) from hM4.1]
        simp (disch := omega) only [iI_leD]
        rw [if_pos (by omega)]
        exact ⟨_, rfl, e2, e3, e4, e5⟩
    · obtain ⟨τ3, rfl, d2, d3, d4⟩ := hg
      dsimp only
      unfold x_X10_findOdds_L44
      simp (disch := omega) only [iI_leD]
      rw [if_pos (by omega)]
      exact ⟨_, rfl, d2, d3, d4⟩
  · obtain ⟨τ1, rfl, a2, a3⟩ := hg
    have hM1 : TdM 0 τ1 T := hM.jf a2
    have hSM1 : SkM τ1 (tS T) s := hSM.eq (fun j _ => a2.2 j)
    dsimp only
    unfold x_X10_findOdds_L2 x_X10_findOdds_b2_30
    rw [show gI τ1 8 = iI (tC T) from hM1.1]
    simp (disch := omega) only [iI_leD]
    rw [if_neg (by omega), m_lies hSM1 hS24 hk, bd_some, hlie]
    simp (disch := omega) only [iI_eqD]
    rw [stJ_in (by omega) (by omega), stJ_in (by omega) (by omega), bd_some, bd_some, qa1]
    by_cases e : (lie : Int) = i
    · rw [if_pos e]
      refine ⟨_, rfl, _, rfl, a2.trans JF.sJ, fun x hx => ?_⟩
      rw [gJ_sJ]
      unfold vp_updL
      by_cases z : x = i
      · rw [if_pos z]
        show _ = jJ ((if x = lie then 1 else 0 : Nat) : Int)
        rw [if_pos (by omega)]; rfl
      · rw [if_neg z]; exact a3 x (by omega)
    · rw [if_neg e]
      refine ⟨_, rfl, _, rfl, a2.trans JF.sJ, fun x hx => ?_⟩
      rw [gJ_sJ]
      unfold vp_updL
      by_cases z : x = i
      · rw [if_pos z]
        show _ = jJ ((if x = lie then 1 else 0 : Nat) : Int)
        rw [if_neg (by omega)]; rfl
      · rw [if_neg z]; exact a3 x (by omega)
  · obtain ⟨τ1, rfl, a2, a3⟩ := hg
    have hM1 : TdM 0 τ1 T := hM.jf a2
    dsimp only
    unfold x_X10_findOdds_L2
    rw [show gI τ1 8 = iI (tC T) from hM1.1]
    simp (disch := omega) only [iI_leD]
    rw [if_pos (by omega)]
    exact ⟨_, rfl, a2, a3⟩
theorem whole_ok {T : Td} (hT : TdOk T) (hC : 0 < tC T) {k : Nat} (hk : k ≤ 4) : 0 < (2 * tC T * wSum T) ^ k ∧ (2 * tC T * wSum T) ^ k < 2 ^ 40 := by
  have hC8 := hT.1
  have hW := wSum_ok hT
  have h1 : 1 * 1 ≤ 2 * tC T * wSum T := Nat.mul_le_mul (by omega) hW.1
  have h2 : 2 * tC T * wSum T ≤ 16 * 36 := Nat.mul_le_mul (by omega) hW.2
  refine ⟨Nat.pow_pos (by omega), ?_⟩
  have h3 : (2 * tC T * wSum T) ^ k ≤ 576 ^ k := Nat.pow_le_pow_left h2 k
  have h4 : 576 ^ k ≤ 576 ^ 4 := Nat.pow_le_pow_right (by omega) hk
  have h5 : (576 : Nat) ^ 4 < 2 ^ 40 := by decide
  omega
theorem op_odds {σ τ : St} (h : Inv σ τ) (p1 p2 p3 p4 : Int32) : StT [(1, 1), (2, 2), (3, 3), (4, 4)] (x_X9_odds p1 p2 p3 p4 σ) (x_X10_odds p1 p2 p3 p4 τ) := by
  obtain ⟨T, s, n, ims, h⟩ := h
  obtain ⟨z, hz, rfl⟩ := ex_iI p1
  obtain ⟨y, hy, rfl⟩ := ex_iI p2
  obtain ⟨x, hx, rfl⟩ := ex_iI p3
  obtain ⟨w, hw, rfl⟩ := ex_iI p4
  obtain ⟨τ1, e1, h0, h1⟩ := h.st
  have hi : Inv σ τ1 := ⟨T, s, n, ims, h1⟩
  have hh := h1
  obtain ⟨hT, hs, hC, hM, hSC, hSM, hB, hI, hb⟩ := hh
  have hC8 := hT.1
  have hS24 := hT.2.1
  have hL6 := hT.2.2.1
  have d0 : ∀ a b c e, x_X9_odds_b45 a b c e 0 σ = some (.inr (3, refC σ 2)) := fun a b c e => by unfold x_X9_odds_b45; rw [c_need0, bt_inr]
  have d1 : ∀ a b c e, x_X9_odds_b25 a b c e 0 σ = some (.inr (3, refC σ 2)) := fun a b c e => by unfold x_X9_odds_b25; rw [c_need0, bt_inr]
  have f0 : ∀ a b c e, x_X10_odds_b47 a b c e τ1 = some (0, refM τ1 3 2) := fun a b c e => by
    unfold x_X10_odds_b47 x_X10_odds_b48
    rw [show x_X10_may 0 3 2 τ1 = some (0, refM τ1 3 2) from m_may0 (k := 2) h0 (by decide) (by omega), bd2_some, if_pos rfl]
  have ex : x_X10_odds (iI z) (iI y) (iI x) (iI w) τ = x_X10_odds (iI z) (iI y) (iI x) (iI w) τ := rfl
  have ec : x_X9_odds (iI z) (iI y) (iI x) (iI w) σ = x_X9_odds (iI z) (iI y) (iI x) (iI w) σ := rfl
  conv at ex => rhs; unfold x_X10_odds
  conv at ec => rhs; unfold x_X9_odds x_X9_odds_b24
  rw [bd_some, e1, m_isCrate hM hT h0 hz (by decide)] at ex
  rw [c_needCrate hC hT hz] at ec
  by_cases ez : 0 ≤ z ∧ z < tC T
  · rw [if_pos ez, bd2_some, if_neg (by decide), m_isSleeve hM hT h0 hy (by decide)] at ex
    rw [if_pos ez, bt_inl, c_needSleeve hC hT hy] at ec
    obtain ⟨c, rfl⟩ := Int.eq_ofNat_of_zero_le ez.1
    by_cases ey : 0 ≤ y ∧ y < tS T
    · obtain ⟨k, rfl⟩ := Int.eq_ofNat_of_zero_le ey.1
      have hk : k < tS T := by omega
      have hwb := hs.1 k hk
      rw [if_pos ey, bd2_some, if_neg (by decide), m_wn 0 4 0 4 rfl rfl hx ⟨by omega, by omega⟩ ⟨by omega, by omega⟩, bd_some, m_wn 0 1 0 1 rfl rfl hw ⟨by omega, by omega⟩ ⟨by omega, by omega⟩, bd_some, f0] at ex
      rw [if_pos ey, bt_inl] at ec
      obtain ⟨x1, x2⟩ := hx
      obtain ⟨w1, w2⟩ := hw
      simp (disch := omega) only [ql0, qg4, d1] at ec
      by_cases exx : 0 ≤ x ∧ x ≤ 4
      · rw [if_pos exx, if_neg (by decide)] at ex
        rw [if_neg (by omega), if_neg (by omega)] at ec
        unfold x_X9_odds_b25 x_X9_odds_b40 at ec
        rw [c_need1 (by decide), bt_inl] at ec
        simp (disch := omega) only [qe0, qe1, d0] at ec
        by_cases ew : 0 ≤ w ∧ w ≤ 1
        · have ec2 : x_X9_odds (iI c) (iI k) (iI x) (iI w) σ = x_X9_odds_b45 (iI c) (iI k) (iI x) (iI w) 1 σ := by
            rw [ec]
            by_cases q : w = 0
            · rw [if_pos q]
            · rw [if_neg q, if_pos (by omega)]
          rw [if_pos ew, if_neg (by decide)] at ex
          unfold x_X9_odds_b45 at ec2
          unfold x_X10_odds_b48 x_X10_odds_b72 at ex
          rw [c_need1 (by decide), bt_inl, c_needLying hSC hs hT hk] at ec2
          rw [m_may1 h0 (by decide), bd2_some, if_neg (by decide), m_lies hSM hS24 hk, bd_some] at ex
          simp (disch := omega) only [qeM] at ex
          by_cases el : skW s k = -1
          · rw [if_pos el, show x_X10_may 0 4 3 τ1 = some (0, refM τ1 4 3) from m_may0 (k := 3) h0 (by decide) (by omega), bd2_some, if_pos rfl] at ex
            rw [if_pos el, bt_inr] at ec2
            exact StT.ref h1 ec2 ex (by decide)
          · obtain ⟨lie, hlie⟩ := Int.eq_ofNat_of_zero_le (a := skW s k) (by omega)
            obtain ⟨t, rfl⟩ := Int.eq_ofNat_of_zero_le exx.1
            have ht4 : t ≤ 4 := by omega
            obtain ⟨σ2, k1, k2, k3, k4⟩ := c_putBack hC hT hSC hk hlie (by omega) ht4
            obtain ⟨τ2, q1, q2, q3, q4⟩ := m_findOdds hM hT hSM hk hlie (by omega) ht4
            have hwh := whole_ok hT (by omega) ht4
            have hsm := shN_small hT (tOwn T k) lie ht4 c
            have hb2 : (4608 : Nat) ^ 4 = 450868486864896 := by decide
            have hb3 : (2 : Nat) ^ 40 = 1099511627776 := by decide
            rw [if_neg el, m_may1 h0 (by decide), bd2_some, if_neg (by decide), q1, bd_some, ldJ_in (by omega) (by omega), q3 c (by omega), bd_some, q4, m_frac (by omega) (by omega) hwh.1, bd_some] at ex
            rw [if_neg el, bt_inl, k1, bd_some, c_share k3 (by omega), bd_some, k4, c_least (by omega) hwh.2 hwh.1, bd_some] at ec2
            exact StT.inl ec2 ex ((q2.1 0).trans h0) ⟨T, s, n, ims, h1.eq k2.c q2.m⟩
        · rw [if_neg ew, if_pos rfl] at ex
          rw [if_neg (by omega), if_neg (by omega)] at ec
          exact StT.ref h1 ec ex (by decide)
      · rw [if_neg exx, if_pos rfl] at ex
        refine StT.ref (c := 3) (c2 := 3) h1 (ec.trans ?_) ex (by decide)
        split
        · rfl
        · split
          · rfl
          · omega
    · rw [if_neg ey, bd2_some, if_pos rfl] at ex
      rw [if_neg ey, bt_inr] at ec
      exact StT.ref h1 ec ex (by decide)
  · rw [if_neg ez, bd2_some, if_pos rfl] at ex
    rw [if_neg ez, bt_inr] at ec
    exact StT.ref h1 ec ex (by decide)
