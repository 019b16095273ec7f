/-! basket: the call -/
theorem mnI_N (a b : Nat) (ha : a < 2147483648) (hb : b < 2147483648) : mnI (iI (a : Int)) (iI (b : Int)) = iI ((min a b : Nat) : Int) := by
  unfold mnI
  simp (disch := omega) only [iI_ltD]
  by_cases e : (b : Int) < a
  · rw [if_pos e, show min a b = b from by omega]
  · rw [if_neg e, show min a b = a from by omega]
theorem its_eq {g c k : Nat} (hg : g ≤ 9) (hc : c ≤ 99) (hk : k < 24) : (((Int32.toInt64 (iI (g : Int))) <<< ((Int32.toInt64 40) &&& 63)) - ((Int32.toInt64 (iI (c : Int))) <<< ((Int32.toInt64 26) &&& 63))) - ((1 : Int64) <<< ((Int32.toInt64 (iI (k : Int))) &&& 63)) = jJ ((g : Int) * 1099511627776 - (c : Int) * 67108864 - (2 ^ k : Nat)) := by
  rw [jJ_iI (by omega) (by omega), jJ_iI (n := (c : Int)) (by omega) (by omega), jJ_shl40 (by omega), jJ_shl26 (by omega), jJ_one hk, jJ_sub, jJ_sub]
  congr 1
theorem both_dp {T : Td} {s : Sk} {n : Nat} {ims : List Sk} {σ τ : St} (h : InvX T s n ims σ τ) {M : Nat} (hM : M ≤ 999) {w2 : Int32} {G0 : Nat → Int} {B0 : Nat → Nat} {V0 : Nat → Int} (h0 : bkOk 0 0 G0 B0) (hV0 : bkV M G0 B0 V0) (hb0 : BC σ M G0 B0) (hv0 : VC τ M V0) :
    ∃ z1 σ2 z2 τ2 tot G B V, lp (fun v : (Int32 × Int32 × St) => x_X0_bestPrice_L29 (iI M) v.1 v.2.1 v.2.2) FU (0, 0, σ) = some (iI ((min M tot : Nat) : Int), z1, σ2) ∧ lp (fun v : (Int32 × St) => x_X10_basket_L63 (iI M) w2 v.1 v.2) FU (0, τ) = some (z2, τ2) ∧ BF σ σ2 ∧ JF τ τ2 ∧ bkOk (tS T) tot G B ∧ bkV M G B V ∧ BC σ2 M G B ∧ VC τ2 M V := by
  have hh := h
  obtain ⟨hT, hs, hC, hMM, hSC, hSM, hB, hI, hb⟩ := hh
  have hC8 := hT.1
  have hS24 := hT.2.1
  have key := lp2_inv (f := fun v : (Int32 × Int32 × St) => x_X0_bestPrice_L29 (iI M) v.1 v.2.1 v.2.2) (g := fun v : (Int32 × St) => x_X10_basket_L63 (iI M) w2 v.1 v.2)
    (fun i v x => ∃ σ2 τ2 tot G B V, v = (iI ((min M tot : Nat) : Int), iI ((i : Nat) : Int), σ2) ∧ x = (iI ((i : Nat) : Int), τ2) ∧ BF σ σ2 ∧ JF τ τ2 ∧ tot ≤ 99 * i ∧ bkOk i tot G B ∧ bkV M G B V ∧ BC σ2 M G B ∧ VC τ2 M V)
    (fun v x => ∃ tot G B V, v.1 = iI ((min M tot : Nat) : Int) ∧ BF σ v.2.2 ∧ JF τ x.2 ∧ bkOk (tS T) tot G B ∧ bkV M G B V ∧ BC v.2.2 M G B ∧ VC x.2 M V) (tS T) FU FU (by unfold FU; omega) (by unfold FU; omega) (fun i v x hi hg => ?_) (fun v x hg => ?_) (0, 0, σ) (0, τ) ⟨σ, τ, 0, G0, B0, V0, by rw [Nat.min_zero]; rfl, rfl, BF.rfl, JF.rfl, by omega, h0, hV0, hb0, hv0⟩
  · obtain ⟨⟨v1, v2, v3⟩, ⟨x1, x2⟩, k1, k2, tot, G, B, V, k3, k4, k5, k6, k7, k8, k9⟩ := key
    have k3 : v1 = iI ((min M tot : Nat) : Int) := k3
    subst k3
    exact ⟨v2, v3, x1, x2, tot, G, B, V, k1, k2, k4, k5, k6, k7, k8, k9⟩
  · obtain ⟨σ2, τ2, tot, G, B, V, rfl, rfl, k1, k2, k3, k4, k5, k6, k7⟩ := hg
    have hC2 : TdC 0 σ2 T := hC.eq (fun k _ _ => k1.1 k) (fun j _ _ => k1.2 j (by omega) (by omega))
    have hSC2 : SkC σ2 0 s := hSC.eq (fun j _ _ => k1.2 j (by omega) (by omega))
    have hM2 : TdM 0 τ2 T := hMM.jf k2
    have hSM2 : SkM τ2 (tS T) s := hSM.eq (fun j _ => k2.2 j)
    have hsp := hT.2.2.2.2.2.2.1 i hi
    obtain ⟨c, hc⟩ := Int.eq_ofNat_of_zero_le (a := tSp T i 1) (by omega)
    obtain ⟨g, hg⟩ := Int.eq_ofNat_of_zero_le (a := tSp T i 2) (by omega)
    have hwb := hs.wb hC8 (k := i) (by omega)
    dsimp only
    unfold x_X0_bestPrice_L29 x_X10_basket_L63
    rw [show gI σ2 1 = iI (tS T) from hC2.2.1, show gI τ2 9 = iI (tS T) from hM2.2.1]
    simp (disch := omega) only [iI_leD]
    rw [if_neg (by omega), if_neg (by omega), c_lies (by omega) hSC2 hs hC8 (by omega), bd_some, m_lies hSM2 hS24 hi, bd_some]
    simp (disch := omega) only [qeM, qa1, qa2, qy3]
    by_cases el : skW s i = -1
    · rw [if_pos el, if_pos el, if_pos rfl]
      refine ⟨_, _, rfl, rfl, σ2, τ2, tot, G, B, V, rfl, rfl, k1, k2, by omega, ?_, k5, k6, k7⟩
      obtain ⟨a1, a2, a3, a4⟩ := k4
      refine ⟨a1, a2, fun p => ?_, fun p => ?_⟩
      · have := a3 p; omega
      · have := a4 p
        rw [Nat.pow_succ]; omega
    · have hmin : min M (min M tot + c) = min M (tot + c) := by omega
      obtain ⟨σ3, n1, n2, n3⟩ := c_offer (most := min M (tot + c)) hT hC2 hi hc hg k4 k6 hM (by omega) (by omega)
      have hbnd := bkV_b k4 (by omega) hM k5
      have hp24 : (2 : Nat) ^ i ≤ 8388608 := Nat.pow_le_pow_right (n := 2) (by omega) (show i ≤ 23 by omega)
      have hib : -100000000000000000 ≤ (g : Int) * 1099511627776 - (c : Int) * 67108864 - (2 ^ i : Nat) ∧ (g : Int) * 1099511627776 - (c : Int) * 67108864 - (2 ^ i : Nat) ≤ 1000000000000000000 := by
        generalize (2 : Nat) ^ i = q at hp24 ⊢
        omega
      obtain ⟨z, τ3, m1, m2, m3⟩ := m_offer (w2 := w2) (u12 := iI ((i : Nat) : Int)) (its := (g : Int) * 1099511627776 - (c : Int) * 67108864 - (2 ^ i : Nat)) k7 hM (show 1 ≤ c by omega) (by omega) hbnd hib
      obtain ⟨o1, o2⟩ := bk_step (G2 := g2F M c g G) (B2 := b2F M c g i G B) (V2 := v2F c ((g : Int) * 1099511627776 - (c : Int) * 67108864 - (2 ^ i : Nat)) V) k4 (by omega) hM (show 1 ≤ c by omega) (by omega) k5
        (fun p hp => by unfold bkC at hp; unfold g2F b2F; rw [if_pos hp, if_pos hp]; exact ⟨rfl, rfl⟩) (fun p hp => by unfold bkC at hp; unfold g2F b2F; rw [if_neg hp, if_neg hp]; exact ⟨rfl, rfl⟩) (fun m _ => rfl)
      rw [if_neg el, if_neg el, if_neg (show ¬ (1 : Int32) = 0 by decide), show (1 : Int32) = iI ((1 : Nat) : Int) from rfl, c_ofSleeve (by omega) hC2 hT hi (by omega), bd_some, hc, iI_add, show ((min M tot : Nat) : Int) + c = ((min M tot + c : Nat) : Int) from by omega, mnI_N _ _ (by omega) (by omega), hmin, n1, bd_some]
      have l1 : ldI (gA τ2 3) (lenM 3) (iI (3 * (i : Int) + 1)) = some (iI (c : Int)) := by
        rw [show 3 * (i : Int) + 1 = ((3 * i + 1 : Nat) : Int) from by omega, ldI_in (show 3 * i + 1 < lenM 3 from (show _ < 72 by omega)) (by decide), show gA τ2 3 (3 * i + 1) = _ from hM2.2.2.2.2.2.1 i 1 hi (by omega), hc]
      have l2 : ldI (gA τ2 3) (lenM 3) (iI (3 * (i : Int) + 2)) = some (iI (g : Int)) := by
        rw [show 3 * (i : Int) + 2 = ((3 * i + 2 : Nat) : Int) from by omega, ldI_in (show 3 * i + 2 < lenM 3 from (show _ < 72 by omega)) (by decide), show gA τ2 3 (3 * i + 2) = _ from hM2.2.2.2.2.2.1 i 2 hi (by omega), hg]
      rw [l1, bd_some, l2, bd_some]
      have hits := its_eq (g := g) (c := c) (k := i) (by omega) (by omega) (by omega)
      show ∃ v2 x2, _ ∧ bd (some ((((Int32.toInt64 (iI (g : Int))) <<< ((Int32.toInt64 40) &&& 63)) - ((Int32.toInt64 (iI (c : Int))) <<< ((Int32.toInt64 26) &&& 63))) - ((1 : Int64) <<< ((Int32.toInt64 (iI (i : Int))) &&& 63)))) _ = _ ∧ _
      rw [hits, bd_some, m1, bd2_some]
      exact ⟨_, _, rfl, rfl, σ3, τ3, tot + c, _, _, _, rfl, rfl, k1.trans n2, k2.trans m2, by omega, o1, o2, n3, m3⟩
  · obtain ⟨σ2, τ2, tot, G, B, V, rfl, rfl, k1, k2, k3, k4, k5, k6, k7⟩ := hg
    have hC2 : TdC 0 σ2 T := hC.eq (fun k _ _ => k1.1 k) (fun j _ _ => k1.2 j (by omega) (by omega))
    have hM2 : TdM 0 τ2 T := hMM.jf k2
    dsimp only
    unfold x_X0_bestPrice_L29 x_X10_basket_L63
    rw [show gI σ2 1 = iI (tS T) from hC2.2.1, show gI τ2 9 = iI (tS T) from hM2.2.1]
    rw [if_pos (Int32.le_refl _), if_pos (Int32.le_refl _)]
    exact ⟨_, _, rfl, rfl, tot, G, B, V, rfl, k1, k2, k4, k5, k6, k7⟩
theorem c_scan {σ : St} {M tot k : Nat} {G : Nat → Int} {B : Nat → Nat} (h : bkOk k tot G B) (hk : k ≤ 24) (hM : M ≤ 999) (hb : BC σ M G B) : ∃ best z, lp (fun v : (Int32 × Int32) => x_X0_bestPrice_L84 (iI ((min M tot : Nat) : Int)) σ v.1 v.2) FU (0, 1) = some (iI (best : Nat), z) ∧ best ≤ min M tot ∧ (∀ p, p ≤ M → G p ≤ G best) ∧ (∀ p, p < best → G p < G best) ∧ 0 ≤ G best := by
  obtain ⟨a1, a2, a3, a4⟩ := h
  have key := lp_inv (f := fun v : (Int32 × Int32) => x_X0_bestPrice_L84 (iI ((min M tot : Nat) : Int)) σ v.1 v.2) (fun i v => ∃ best, v = (iI (best : Nat), iI ((i + 1 : Nat) : Int)) ∧ best ≤ i ∧ (∀ p, p ≤ i → G p ≤ G best) ∧ (∀ p, p < best → G p < G best) ∧ 0 ≤ G best)
    (fun v => ∃ best, v.1 = iI (best : Nat) ∧ best ≤ min M tot ∧ (∀ p, p ≤ min M tot → G p ≤ G best) ∧ (∀ p, p < best → G p < G best) ∧ 0 ≤ G best) (min M tot) FU (by unfold FU; omega) (fun i v hi hv => ?_) (fun v hv => ?_) (0, 1) ⟨0, rfl, Nat.le_refl _, fun p hp => by rw [show p = 0 from by omega]; exact Int.le_refl _, fun p hp => absurd hp (by omega), by rw [a1]; omega⟩
  · obtain ⟨⟨v1, v2⟩, k1, best, k2, k3, k4, k5, k6⟩ := key
    have k2 : v1 = iI (best : Nat) := k2
    subst k2
    refine ⟨best, v2, k1, k3, fun p hp => ?_, k5, k6⟩
    by_cases z : p ≤ min M tot
    · exact k4 p z
    · have := a3 p; omega
  · obtain ⟨best, rfl, k3, k4, k5, k6⟩ := hv
    have q1 := a3 (i + 1)
    have q2 := a3 best
    dsimp only
    unfold x_X0_bestPrice_L84
    simp (disch := omega) only [iI_ltD]
    rw [if_neg (by omega), f_at, bd_some, atF_in (show i + 1 < lenN 44 from (show _ < 1000 by omega)) (by decide), f_at, bd_some, atF_in (show best < lenN 44 from (show _ < 1000 by omega)) (by decide), (hb (i + 1) (by omega)).1, (hb best (by omega)).1, qa1]
    simp (disch := omega) only [iI_leD]
    by_cases e : G (i + 1) ≤ G best
    · rw [if_pos e]
      refine ⟨_, rfl, best, rfl, by omega, fun p hp => ?_, k5, k6⟩
      by_cases z : p = i + 1
      · rw [z]; exact e
      · exact k4 p (by omega)
    · rw [if_neg e]
      refine ⟨_, rfl, i + 1, rfl, Nat.le_refl _, fun p hp => ?_, fun p hp => ?_, by omega⟩
      · by_cases z : p = i + 1
        · rw [z]; exact Int.le_refl _
        · have := k4 p (by omega); omega
      · have := k4 p (by omega); omega
  · obtain ⟨best, rfl, k3, k4, k5, k6⟩ := hv
    dsimp only
    unfold x_X0_bestPrice_L84
    simp (disch := omega) only [iI_ltD]
    rw [if_pos (by omega)]
    exact ⟨_, rfl, best, rfl, k3, k4, k5, k6⟩
/-- what the reference reads out of its value -/
theorem dec_bk {g p b : Nat} (hg : g < 300) (hp : p ≤ 999) (hb : b < 16777216) : (jJ ((g : Int) * 1099511627776 - (p : Int) * 67108864 - b) + (549755813888 : Int64)) >>> ((Int32.toInt64 40) &&& 63) = jJ (g : Int) ∧ ((jJ (g : Int) <<< ((Int32.toInt64 40) &&& 63)) - jJ ((g : Int) * 1099511627776 - (p : Int) * 67108864 - b)) = jJ ((p * 67108864 + b : Nat) : Int) := by
  constructor
  · rw [show (549755813888 : Int64) = jJ 549755813888 from rfl, jJ_add]
    have := jJ_shr (x := (g : Int) * 1099511627776 - (p : Int) * 67108864 - b + 549755813888) (k := 40) (by omega) (by omega) (by omega) sh40
    rw [show (Int32.toInt64 40 &&& 63) = (Int32.toInt64 (iI ((40 : Nat) : Int)) &&& 63) from rfl, this]
    congr 1
    omega
  · rw [jJ_shl40 hg, jJ_sub]
    congr 1
    omega
def gz0 (p : Nat) : Int := if p = 0 then 0 else -1
def bz0 (_ : Nat) : Nat := 0
def vz0 (_ : Nat) : Int := 0
theorem gz0_0 : gz0 0 = 0 := rfl
theorem gz0_n {p : Nat} (h : p ≠ 0) : gz0 p = -1 := if_neg h
theorem z_ok : bkOk 0 0 gz0 bz0 := ⟨rfl, rfl, fun p => by
  by_cases q : p = 0
  · rw [q, gz0_0]; omega
  · exact Or.inl (gz0_n q), fun p => (show 0 < 2 ^ 0 by decide)⟩
theorem z_V (M : Nat) : bkV M gz0 bz0 vz0 := fun m _ => ⟨fun p _ hg => by
  by_cases q : p = 0
  · rw [q]; exact (show encN gz0 bz0 0 ≤ 0 by decide)
  · exact absurd (gz0_n q) hg, 0, by omega, by decide, (show encN gz0 bz0 0 = 0 by decide)⟩
theorem op_basket {σ τ : St} (h : Inv σ τ) (p1 p2 : Int32) : StT [(3, 1)] (x_X9_basket p1 p2 σ) (x_X10_basket p1 p2 τ) := by
  obtain ⟨T, s, n, ims, h⟩ := h
  obtain ⟨z, hz, rfl⟩ := ex_iI p1
  obtain ⟨y, hy, rfl⟩ := ex_iI p2
  obtain ⟨τ1, e1, h0, h1⟩ := h.st
  have hi : Inv σ τ1 := ⟨T, s, n, ims, h1⟩
  have hh := h1
  obtain ⟨hT, hs, hC, hM, hSC, hSM, hB, hI, hb⟩ := hh
  have hC8 := hT.1
  have hS24 := hT.2.1
  have hL6 := hT.2.2.1
  have d0 : ∀ a b, x_X9_basket_b35 a b 0 σ = some (.inr (3, refC σ 2)) := fun a b => by unfold x_X9_basket_b35; rw [c_need0, bt_inr]
  have d1 : ∀ a b, x_X9_basket_b17 a b 0 σ = some (.inr (3, refC σ 2)) := fun a b => by unfold x_X9_basket_b17; rw [c_need0, bt_inr]
  have f0 : ∀ a b, x_X10_basket_b30 a b τ1 = some (0, refM τ1 1 2) := fun a b => by
    unfold x_X10_basket_b30 x_X10_basket_b31
    rw [m_may0' h0, bd2_some, if_pos rfl]
  have ex : x_X10_basket (iI z) (iI y) τ = x_X10_basket (iI z) (iI y) τ := rfl
  have ec : x_X9_basket (iI z) (iI y) σ = x_X9_basket (iI z) (iI y) σ := rfl
  conv at ex => rhs; unfold x_X10_basket
  conv at ec => rhs; unfold x_X9_basket x_X9_basket_b16
  rw [bd_some, e1, m_wn 0 999 0 999 rfl rfl hz ⟨by omega, by omega⟩ ⟨by omega, by omega⟩, bd_some, m_wn 0 2 0 2 rfl rfl hy ⟨by omega, by omega⟩ ⟨by omega, by omega⟩, bd_some, f0] at ex
  obtain ⟨z1, z2⟩ := hz
  obtain ⟨y1, y2⟩ := hy
  simp (disch := omega) only [ql0, qg999, d1] at ec
  by_cases ez : 0 ≤ z ∧ z ≤ 999
  · rw [if_pos ez, if_neg (by decide)] at ex
    rw [if_neg (by omega), if_neg (by omega)] at ec
    unfold x_X9_basket_b17 x_X9_basket_b34 at ec
    rw [c_need1 (by decide), bt_inl] at ec
    simp (disch := omega) only [ql0, qg2, d0] at ec
    by_cases ey : 0 ≤ y ∧ y ≤ 2
    · rw [if_pos ey, if_neg (by decide)] at ex
      rw [if_neg (by omega), if_neg (by omega)] at ec
      unfold x_X9_basket_b35 at ec
      unfold x_X10_basket_b31 at ex
      rw [c_need1 (by decide), bt_inl] at ec
      rw [m_may1 h0 (by decide), bd2_some, if_neg (by decide)] at ex
      obtain ⟨M, rfl⟩ := Int.eq_ofNat_of_zero_le ez.1
      have hM999 : M ≤ 999 := by omega
      -- the class's rows, empty
      obtain ⟨σ3, a1, a2, a3⟩ : ∃ σ3, (∀ f : St → Option (Int32 × St), (bd (x_X2_fill 44 (-1) σ) fun σ1 => bd (x_X2_fill 45 0 σ1) fun σ2 => bd (x_X2_put 44 0 0 σ2) fun σ3 => f σ3) = f σ3) ∧ BF σ σ3 ∧ BC σ3 M gz0 bz0 := by
        refine ⟨sA (sA (sA σ 44 (fun k => if k < 1000 then -1 else gA σ 44 k)) 45 (fun k => if k < 1000 then 0 else gA σ 45 k)) 44 (upd (fun k => if k < 1000 then -1 else gA σ 44 k) 0 0), fun f => ?_, ((BF.sA (by omega)).trans (BF.sA (by omega))).trans (BF.sA (by omega)), fun p hp => ?_⟩
        · rw [f_fill, bd_some, f_fill, bd_some, f_put, bd_some, gA_sAn _ (show 44 ≠ 45 by omega), gA_sAn _ (show 45 ≠ 44 by omega), gA_sA, show (0 : Int32) = iI ((0 : Nat) : Int) from rfl, putF_in (show 0 < lenN 44 by decide) (by decide)]
          rfl
        · rw [gA_sA, gA_sAn _ (show 45 ≠ 44 by omega), gA_sA]
          constructor
          · unfold upd
            by_cases q : p = 0
            · rw [if_pos q, q, gz0_0]; rfl
            · rw [if_neg q, gz0_n q]
              show (if p < 1000 then _ else _) = _
              rw [if_pos (by omega)]; rfl
          · show (if p < 1000 then _ else _) = _
            rw [if_pos (by omega)]; rfl
      -- the reference's row, empty
      have key := lp_inv (f := fun v : (Int32 × St) => x_X10_basket_L43 (iI M) (iI y) v.1 v.2) (fun i v => ∃ τ2, v = (iI ((i : Nat) : Int), τ2) ∧ JF τ1 τ2 ∧ ∀ m, m < i → gJ τ2 2 m = jJ 0) (fun v => JF τ1 v.2 ∧ VC v.2 M vz0) (M + 1) FU (by unfold FU; omega) (fun i v hi hv => ?_) (fun v hv => ?_) (iI ((0 : Nat) : Int), τ1) ⟨τ1, rfl, JF.rfl, fun m hm => absurd hm (by omega)⟩
      · obtain ⟨⟨q1, τ2⟩, b1, b2, b3⟩ := key
        have hj0 := h1.eq a2.c b2.m
        obtain ⟨y3, σ4, y4, τ4, tot, G, B, V, n1, n2, n3, n4, n5, n6, n7, n8⟩ := both_dp hj0 hM999 (w2 := iI y) (G0 := gz0) (B0 := bz0) (V0 := vz0) z_ok (z_V M) a3 b3
        obtain ⟨best, y5, s1, s2, s3, s4, s5⟩ := c_scan n5 hS24 hM999 n7
        have hG := n5.2.2.1 best
        have hBb := n5.2.2.2 best
        have hp24 : (2 : Nat) ^ tS T ≤ 16777216 := Nat.pow_le_pow_right (n := 2) (by omega) hS24
        have hVM := bk_best n5 hS24 hM999 n6 (show best ≤ M by omega) (by omega) s3 s4
        obtain ⟨gg, hgg⟩ := Int.eq_ofNat_of_zero_le s5
        have hBP : x_X0_bestPrice (iI M) σ = some (iI (best : Nat), σ4) := by
          unfold x_X0_bestPrice
          rw [a1 (fun σ3 => bd3 (lp (fun v : (Int32 × Int32 × St) => x_X0_bestPrice_L29 (iI M) v.1 v.2.1 v.2.2) FU (0, 0, σ3)) fun z10 z11 σ12 => bd2 (lp (fun v : (Int32 × Int32) => x_X0_bestPrice_L84 z10 σ12 v.1 v.2) FU (0, 1)) fun z17 z18 => some (z17, σ12)), n1, bd3_some, s1, bd2_some]
        have hj : Inv σ4 τ4 := ⟨T, s, n, ims, hj0.eq n3.c n4.m⟩
        have hj0' : gI τ4 0 = 0 := (n4.1 0).trans ((b2.1 0).trans h0)
        obtain ⟨dd1, dd2⟩ := dec_bk (g := gg) (p := best) (b := B best) (by omega) (by omega) (by omega)
        have hVJ : gJ τ4 2 M = jJ ((gg : Int) * 1099511627776 - (best : Int) * 67108864 - B best) := by
          rw [n8 M (Nat.le_refl _), hVM]
          unfold encN
          rw [hgg]
        rw [hBP, bd2_some] at ec
        have ex2 : x_X10_basket (iI M) (iI y) τ = (if iI y = 0 then some (iI (gg : Int), τ4) else if iI y = 1 then some (iI (best : Int), τ4) else some (iI (B best : Nat), τ4)) := by
          rw [ex]
          show bd2 (lp _ FU (iI ((0 : Nat) : Int), τ1)) _ = _
          rw [b1, bd2_some, n2, bd2_some, ldJ_in (show M < 1000 by omega) (by omega), bd_some, hVJ, dd1, dd2]
          have r1 : Int64.toInt32 (jJ (gg : Int)) = iI (gg : Int) := Int64.toInt32_ofInt
          have r2 : Int64.toInt32 (jJ ((best * 67108864 + B best : Nat) : Int) >>> ((Int32.toInt64 26) &&& 63)) = iI (best : Int) := by
            have := jJ_shr (x := ((best * 67108864 + B best : Nat) : Int)) (k := 26) (by omega) (by omega) (by omega) sh26
            rw [show (Int32.toInt64 26 &&& 63) = (Int32.toInt64 (iI ((26 : Nat) : Int)) &&& 63) from rfl, this, show ((best * 67108864 + B best : Nat) : Int) / 2 ^ 26 = best from by omega]
            exact Int64.toInt32_ofInt
          have r3 : Int64.toInt32 (jJ ((best * 67108864 + B best : Nat) : Int) &&& (67108863 : Int64)) = iI (B best : Nat) := by
            rw [jJ_mask (by omega), show (best * 67108864 + B best) % 67108864 = B best from by omega]
            exact Int64.toInt32_ofInt
          rw [r1, r2, r3]
        have hbb := n7 best (by omega)
        by_cases e0 : iI y = 0
        · rw [if_pos e0] at ex2
          rw [if_pos e0, f_at, atF_in (show best < lenN 44 from (show _ < 1000 by omega)) (by decide), bd_some, hbb.1, hgg] at ec
          exact StT.inl ec ex2 hj0' hj
        · rw [if_neg e0] at ex2 ec
          by_cases e2 : iI y = 1
          · rw [if_pos e2] at ex2 ec
            exact StT.inl ec ex2 hj0' hj
          · rw [if_neg e2] at ex2
            rw [if_neg e2, f_at, atF_in (show best < lenN 45 from (show _ < 1000 by omega)) (by decide), bd_some, hbb.2] at ec
            exact StT.inl ec ex2 hj0' hj
      · obtain ⟨τ2, rfl, k2, k3⟩ := hv
        dsimp only
        unfold x_X10_basket_L43
        simp (disch := omega) only [iI_ltD]
        rw [if_neg (by omega), stJ_in (by omega) (by omega), bd_some, qa1]
        refine ⟨_, rfl, _, rfl, k2.trans JF.sJ, fun m hm => ?_⟩
        rw [gJ_sJ]
        unfold vp_updL
        by_cases q : m = i
        · rw [if_pos q]; rfl
        · rw [if_neg q]; exact k3 m (by omega)
      · obtain ⟨τ2, rfl, k2, k3⟩ := hv
        dsimp only
        unfold x_X10_basket_L43
        simp (disch := omega) only [iI_ltD]
        rw [if_pos (by omega)]
        exact ⟨_, rfl, k2, fun m hm => k3 m (by omega)⟩
    · rw [if_neg ey, if_pos rfl] at ex
      refine StT.ref (c := 3) h1 (ec.trans ?_) ex List.mem_cons_self
      by_cases c0 : y < 0
      · rw [if_pos c0]
      · rw [if_neg c0, if_pos (by omega)]
  · rw [if_neg ez, if_pos rfl] at ex
    refine StT.ref (c := 3) h1 (ec.trans ?_) ex List.mem_cons_self
    by_cases c0 : z < 0
    · rw [if_pos c0]
    · rw [if_neg c0, if_pos (by omega)]
