/-! basket: the class's and the reference's loops, and the call -/
def BF (σ σ2 : St) : Prop := (∀ k, gI σ2 k = gI σ k) ∧ (∀ j, j ≠ 44 → j ≠ 45 → gA σ2 j = gA σ j)
theorem BF.rfl {σ : St} : BF σ σ := ⟨fun _ => Eq.refl _, fun _ _ _ => Eq.refl _⟩
theorem BF.trans {a b c : St} (h : BF a b) (k : BF b c) : BF a c := ⟨fun i => (k.1 i).trans (h.1 i), fun j h1 h2 => (k.2 j h1 h2).trans (h.2 j h1 h2)⟩
theorem BF.sA {σ : St} {j : Nat} {f : Nat → Int32} (h : j = 44 ∨ j = 45) : BF σ (sA σ j f) := ⟨fun _ => Eq.refl _, fun i h1 h2 => gA_sAn _ (by omega) _⟩
theorem BF.c {a b : St} (h : BF a b) : CEq a b := ⟨fun k _ => h.1 k, fun j _ => h.2 j (by omega) (by omega), h.2 35 (by omega) (by omega)⟩
def BC (σ : St) (M : Nat) (G : Nat → Int) (B : Nat → Nat) : Prop := ∀ p, p ≤ M → gA σ 44 p = iI (G p) ∧ gA σ 45 p = iI (B p)
def g2F (M c g : Nat) (G : Nat → Int) (p : Nat) : Int := if c ≤ p ∧ p ≤ M ∧ G (p - c) ≠ -1 ∧ G p < G (p - c) + g then G (p - c) + g else G p
def b2F (M c g k : Nat) (G : Nat → Int) (B : Nat → Nat) (p : Nat) : Nat := if c ≤ p ∧ p ≤ M ∧ G (p - c) ≠ -1 ∧ G p < G (p - c) + g then B (p - c) + 2 ^ k else B p
theorem c_offer {σ : St} {T : Td} {M k tot most : Nat} {G : Nat → Int} {B : Nat → Nat} {c g : Nat} (hT : TdOk T) (hC : TdC 0 σ T) (hk : k < tS T) (hc : tSp T k 1 = c) (hg : tSp T k 2 = g) (h : bkOk k tot G B) (hb : BC σ M G B) (hM : M ≤ 999) (hmo : most ≤ M) (hmt : most = M ∨ most = tot + c) : ∃ σ2, x_X0_offer (iI k) (iI most) σ = some σ2 ∧ BF σ σ2 ∧ BC σ2 M (g2F M c g G) (b2F M c g k G B) := by
  have hS24 := hT.2.1
  have hsp := hT.2.2.2.2.2.2.1 k hk
  obtain ⟨a1, a2, a3, a4⟩ := h
  have hp24 : (2 : Nat) ^ k ≤ 8388608 := Nat.pow_le_pow_right (n := 2) (by omega) (show k ≤ 23 by omega)
  have key := lp_inv (f := fun v : (Int32 × St) => x_X0_offer_L24 (iI k) (iI c) (iI g) v.1 v.2) (fun i v => ∃ σ2, v = (iI ((most : Int) - i), σ2) ∧ BF σ σ2 ∧ ∀ p, p ≤ M → gA σ2 44 p = iI (if most < p + i then g2F M c g G p else G p) ∧ gA σ2 45 p = iI (if most < p + i then b2F M c g k G B p else B p : Nat))
    (fun v => BF σ v.2 ∧ BC v.2 M (g2F M c g G) (b2F M c g k G B)) (most + 1 - c) FU (by unfold FU; omega) (fun i v hi hv => ?_) (fun v hv => ?_) (iI ((most : Int) - (0 : Nat)), σ) ⟨σ, rfl, BF.rfl, fun p hp => by
      obtain ⟨q1, q2⟩ := hb p hp
      by_cases z : most < p + 0
      · rw [if_pos z, if_pos z, q1, q2]
        have hn : ¬ (c ≤ p ∧ p ≤ M ∧ G (p - c) ≠ -1 ∧ G p < G (p - c) + g) := by
          rintro ⟨n1, n2, n3, n4⟩
          have := a3 (p - c)
          omega
        unfold g2F b2F
        rw [if_neg hn, if_neg hn]
        exact ⟨rfl, rfl⟩
      · rw [if_neg z, if_neg z]; exact ⟨q1, q2⟩⟩
  · obtain ⟨⟨q1, σ2⟩, k1, k2, k3⟩ := key
    refine ⟨σ2, ?_, k2, k3⟩
    unfold x_X0_offer
    rw [show (1 : Int32) = iI ((1 : Nat) : Int) from rfl, c_ofSleeve (by omega) hC hT hk (by omega), bd_some, show (2 : Int32) = iI ((2 : Nat) : Int) from rfl, c_ofSleeve (by omega) hC hT hk (by omega), bd_some, hc, hg]
    rw [show (most : Int) - ((0 : Nat) : Int) = most from by omega] at k1
    rw [k1]; rfl
  · obtain ⟨σ2, rfl, k2, k3⟩ := hv
    obtain ⟨u, hu⟩ : ∃ u : Nat, u + i = most ∧ c ≤ u := ⟨most - i, by omega, by omega⟩
    obtain ⟨hu1, hu2⟩ := hu
    obtain ⟨r1, r2⟩ := k3 u (by omega)
    obtain ⟨r3, r4⟩ := k3 (u - c) (by omega)
    rw [if_neg (by omega)] at r1 r2 r3 r4
    have b1 := a3 u
    have b2 := a3 (u - c)
    have b3 := a4 (u - c)
    have hold : ∀ p, p ≤ M → p ≠ u → (gA σ2 44 p = iI (if most < p + (i + 1) then g2F M c g G p else G p) ∧ gA σ2 45 p = iI (if most < p + (i + 1) then b2F M c g k G B p else B p : Nat)) := by
      intro p hp hne
      have := k3 p hp
      by_cases z : most < p + i
      · rw [if_pos z, if_pos z] at this
        rw [if_pos (by omega), if_pos (by omega)]; exact this
      · rw [if_neg z, if_neg z] at this
        rw [if_neg (by omega), if_neg (by omega)]; exact this
    dsimp only
    unfold x_X0_offer_L24
    rw [show (most : Int) - (i : Int) = (u : Int) from by omega]
    simp (disch := omega) only [iI_ltD]
    rw [if_neg (by omega), iI_sub, show (u : Int) - c = ((u - c : Nat) : Int) from by omega, f_at, bd_some, atF_in (show u - c < lenN 44 from (show _ < 1000 by omega)) (by decide), r3, qaM, show (u : Int) + -1 = (most : Int) - ((i + 1 : Nat) : Int) from by omega]
    simp (disch := omega) only [qeM]
    by_cases e1 : G (u - c) = -1
    · rw [if_pos e1]
      refine ⟨_, rfl, σ2, rfl, k2, fun p hp => ?_⟩
      by_cases z : p = u
      · have hn : ¬ (c ≤ u ∧ u ≤ M ∧ G (u - c) ≠ -1 ∧ G u < G (u - c) + g) := fun q => q.2.2.1 e1
        rw [z, if_pos (by omega), if_pos (by omega), r1, r2]
        unfold g2F b2F
        rw [if_neg hn, if_neg hn]
        exact ⟨rfl, rfl⟩
      · exact hold p hp z
    · rw [if_neg e1, bd_some, f_at, bd_some, atF_in (show u < lenN 44 from (show _ < 1000 by omega)) (by decide), r1, iI_add]
      simp (disch := omega) only [iI_leD]
      by_cases e2 : G (u - c) + g ≤ G u
      · rw [if_pos e2]
        refine ⟨_, rfl, σ2, rfl, k2, fun p hp => ?_⟩
        by_cases z : p = u
        · have hn : ¬ (c ≤ u ∧ u ≤ M ∧ G (u - c) ≠ -1 ∧ G u < G (u - c) + g) := fun q => by have := q.2.2.2; omega
          rw [z, if_pos (by omega), if_pos (by omega), r1, r2]
          unfold g2F b2F
          rw [if_neg hn, if_neg hn]
          exact ⟨rfl, rfl⟩
        · exact hold p hp z
      · have hy : c ≤ u ∧ u ≤ M ∧ G (u - c) ≠ -1 ∧ G u < G (u - c) + g := ⟨hu2, by omega, e1, by omega⟩
        rw [if_neg e2, bd_some, f_put, bd_some, putF_in (show u < lenN 44 from (show _ < 1000 by omega)) (by decide), f_at, bd_some, gA_sAn _ (by omega), atF_in (show u - c < lenN 45 from (show _ < 1000 by omega)) (by decide), r4, or_bit b3 (by omega), f_put, bd_some, gA_sAn _ (by omega), putF_in (show u < lenN 45 from (show _ < 1000 by omega)) (by decide)]
        refine ⟨_, rfl, _, rfl, (k2.trans (BF.sA (by omega))).trans (BF.sA (by omega)), fun p hp => ?_⟩
        rw [gA_sA, gA_sAn _ (by omega), gA_sA]
        unfold upd
        by_cases z : p = u
        · rw [if_pos z, if_pos z, z, if_pos (by omega), if_pos (by omega)]
          unfold g2F b2F
          rw [if_pos hy, if_pos hy, iI_add]
          exact ⟨rfl, rfl⟩
        · rw [if_neg z, if_neg z]; exact hold p hp z
  · obtain ⟨σ2, rfl, k2, k3⟩ := hv
    dsimp only
    unfold x_X0_offer_L24
    simp (disch := omega) only [iI_ltD]
    rw [if_pos (by omega)]
    refine ⟨_, rfl, k2, fun p hp => ?_⟩
    have := k3 p hp
    by_cases z : most < p + (most + 1 - c)
    · rw [if_pos z, if_pos z] at this; exact this
    · rw [if_neg z, if_neg z] at this
      have hn : ¬ (c ≤ p ∧ p ≤ M ∧ G (p - c) ≠ -1 ∧ G p < G (p - c) + g) := fun q => by have := q.1; omega
      unfold g2F b2F
      rw [if_neg hn, if_neg hn]; exact this
def VC (τ : St) (M : Nat) (V : Nat → Int) : Prop := ∀ m, m ≤ M → gJ τ 2 m = jJ (V m)
def v2F (c : Nat) (its : Int) (V : Nat → Int) (m : Nat) : Int := if c ≤ m ∧ V m < V (m - c) + its then V (m - c) + its else V m
theorem m_offer {τ : St} {M c : Nat} {V : Nat → Int} {its : Int} {w2 u12 : Int32} (hv : VC τ M V) (hM : M ≤ 999) (hc : 1 ≤ c) (hc99 : c ≤ 99) (hb : ∀ m, m ≤ M → -100000000000000000 ≤ V m ∧ V m ≤ 1000000000000000000) (hi : -100000000000000000 ≤ its ∧ its ≤ 1000000000000000000) : ∃ z τ2, lp (fun v : (Int32 × St) => x_X10_basket_L126 (iI M) w2 u12 (iI c) (jJ its) v.1 v.2) FU (iI M, τ) = some (z, τ2) ∧ JF τ τ2 ∧ VC τ2 M (v2F c its V) := by
  have key := lp_inv (f := fun v : (Int32 × St) => x_X10_basket_L126 (iI M) w2 u12 (iI c) (jJ its) v.1 v.2) (fun i v => ∃ τ2, v = (iI ((M : Int) - i), τ2) ∧ JF τ τ2 ∧ ∀ m, m ≤ M → gJ τ2 2 m = jJ (if M < m + i then v2F c its V m else V m))
    (fun v => JF τ v.2 ∧ VC v.2 M (v2F c its V)) (M + 1 - c) FU (by unfold FU; omega) (fun i v hi2 hg => ?_) (fun v hg => ?_) (iI ((M : Int) - (0 : Nat)), τ) ⟨τ, rfl, JF.rfl, fun m hm => by rw [if_neg (by omega)]; exact hv m hm⟩
  · obtain ⟨⟨z, τ2⟩, k1, k2, k3⟩ := key
    rw [show (M : Int) - ((0 : Nat) : Int) = M from by omega] at k1
    exact ⟨z, τ2, k1, k2, k3⟩
  · obtain ⟨τ2, rfl, k2, k3⟩ := hg
    obtain ⟨u, hu1, hu2⟩ : ∃ u : Nat, u + i = M ∧ c ≤ u := ⟨M - i, by omega, by omega⟩
    have r1 := k3 u (by omega)
    have r2 := k3 (u - c) (by omega)
    rw [if_neg (by omega)] at r1 r2
    have b1 := hb u (by omega)
    have b2 := hb (u - c) (by omega)
    dsimp only
    unfold x_X10_basket_L126
    rw [show (M : Int) - (i : Int) = (u : Int) from by omega]
    simp (disch := omega) only [iI_ltD]
    rw [if_neg (by omega), iI_sub, show (u : Int) - c = ((u - c : Nat) : Int) from by omega, ldJ_in (by omega) (by omega), bd_some, ldJ_in (by omega) (by omega), bd_some, r1, r2, jJ_add, qaM, show (u : Int) + -1 = (M : Int) - ((i + 1 : Nat) : Int) from by omega]
    by_cases e : V (u - c) + its ≤ V u
    · rw [if_pos (by rw [lg_cmp_le, jJ_le (by omega) (by omega) (by omega) (by omega)]; exact e)]
      refine ⟨_, rfl, τ2, rfl, k2, fun m hm => ?_⟩
      by_cases z : m = u
      · rw [z, if_pos (by omega), r1]
        unfold v2F
        rw [if_neg (fun q => by have := q.2; omega)]
      · have := k3 m hm
        by_cases z2 : M < m + i
        · rw [if_pos z2] at this; rw [if_pos (by omega)]; exact this
        · rw [if_neg z2] at this; rw [if_neg (by omega)]; exact this
    · rw [if_neg (by rw [lg_cmp_le, jJ_le (by omega) (by omega) (by omega) (by omega)]; exact e), bd_some, stJ_in (by omega) (by omega), bd_some]
      refine ⟨_, rfl, _, rfl, k2.trans JF.sJ, fun m hm => ?_⟩
      rw [gJ_sJ]
      unfold vp_updL
      by_cases z : m = u
      · rw [if_pos z, z, if_pos (by omega)]
        unfold v2F
        rw [if_pos ⟨hu2, by omega⟩, jJ_add]
      · rw [if_neg z]
        have := k3 m hm
        by_cases z2 : M < m + i
        · rw [if_pos z2] at this; rw [if_pos (by omega)]; exact this
        · rw [if_neg z2] at this; rw [if_neg (by omega)]; exact this
  · obtain ⟨τ2, rfl, k2, k3⟩ := hg
    dsimp only
    unfold x_X10_basket_L126
    simp (disch := omega) only [iI_ltD]
    rw [if_pos (by omega)]
    refine ⟨_, rfl, k2, fun m hm => ?_⟩
    have := k3 m hm
    by_cases z : M < m + (M + 1 - c)
    · rw [if_pos z] at this; exact this
    · rw [if_neg z] at this
      unfold v2F
      rw [if_neg (fun q => by have := q.1; omega)]; exact this
theorem bkV_b {M k tot : Nat} {G : Nat → Int} {B : Nat → Nat} {V : Nat → Int} (h : bkOk k tot G B) (hk : k ≤ 24) (hM : M ≤ 999) (hV : bkV M G B V) : ∀ m, m ≤ M → -100000000000000000 ≤ V m ∧ V m ≤ 1000000000000000000 := by
  intro m hm
  obtain ⟨p, p1, p2, p3⟩ := (hV m hm).2
  obtain ⟨a1, a2, a3, a4⟩ := h
  have hp24 : (2 : Nat) ^ k ≤ 16777216 := Nat.pow_le_pow_right (n := 2) (by omega) hk
  have q1 := a3 p
  have q2 := a4 p
  rw [← p3]
  unfold encN
  omega
