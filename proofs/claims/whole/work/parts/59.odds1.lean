/-! odds: shares of crates -/
def wN (T : Td) (i : Nat) : Nat := (tWt T i).toNat
theorem wN_eq {T : Td} (hT : TdOk T) {i : Nat} (hi : i < 4) : tWt T i = (wN T i : Nat) ∧ wN T i ≤ 9 := by
  have := hT.2.2.2.2.2.2.2.2.2.1 i hi
  unfold wN
  omega
def wSum (T : Td) : Nat := wN T 0 + wN T 1 + wN T 2 + wN T 3
theorem wSum_ok {T : Td} (hT : TdOk T) : 1 ≤ wSum T ∧ wSum T ≤ 36 := by
  have h0 := wN_eq hT (i := 0) (by omega)
  have h1 := wN_eq hT (i := 1) (by omega)
  have h2 := wN_eq hT (i := 2) (by omega)
  have h3 := wN_eq hT (i := 3) (by omega)
  have h4 := hT.2.2.2.2.2.2.2.2.2.2
  unfold wSum
  omega
def add1 (g : Nat → Nat) (x0 a : Nat) : Nat → Nat := fun x => g x + (if x = x0 then a else 0)
def upC (c : Nat) : Nat := if c = 0 then c else c - 1
def dnC (C c : Nat) : Nat := if c + 1 < C then c + 1 else c
def handN (T : Td) (own e c : Nat) (g : Nat → Nat) : Nat → Nat := fun x =>
  add1 (add1 (add1 (add1 g own (2 * (e * tC T) * wN T 0)) (upC c) (e * tC T * wN T 1)) (dnC (tC T) c) (e * tC T * wN T 1)) c (2 * (e * tC T) * wN T 2) x + (if x < tC T then 2 * e * wN T 3 else 0)
theorem handN_zero (T : Td) (own c : Nat) (g : Nat → Nat) : handN T own 0 c g = g := by
  funext x; simp [handN, add1]
def accN (T : Td) (own : Nat) (f : Nat → Nat) : Nat → Nat → Nat
  | 0 => fun _ => 0
  | c + 1 => handN T own (f c) c (accN T own f c)
def shN (T : Td) (own lie : Nat) : Nat → Nat → Nat
  | 0 => fun x => if x = lie then 1 else 0
  | k + 1 => accN T own (shN T own lie k) (tC T)
theorem add1_le {g : Nat → Nat} {x0 a x B : Nat} (h : g x ≤ B) : add1 g x0 a x ≤ B + a := by
  unfold add1; split <;> omega
theorem handN_le {T : Td} (hT : TdOk T) {own e c x B : Nat} {g : Nat → Nat} (h : g x ≤ B) : handN T own e c g x ≤ B + 576 * e := by
  have hC := hT.1
  have h0 := (wN_eq hT (i := 0) (by omega)).2
  have h1 := (wN_eq hT (i := 1) (by omega)).2
  have h2 := (wN_eq hT (i := 2) (by omega)).2
  have h3 := (wN_eq hT (i := 3) (by omega)).2
  have hc : e * tC T ≤ e * 8 := Nat.mul_le_mul_left _ hC
  have p0 : 2 * (e * tC T) * wN T 0 ≤ 2 * (e * 8) * 9 := Nat.mul_le_mul (Nat.mul_le_mul_left _ hc) h0
  have p1 : e * tC T * wN T 1 ≤ e * 8 * 9 := Nat.mul_le_mul hc h1
  have p2 : 2 * (e * tC T) * wN T 2 ≤ 2 * (e * 8) * 9 := Nat.mul_le_mul (Nat.mul_le_mul_left _ hc) h2
  have p3 : 2 * e * wN T 3 ≤ 2 * e * 9 := Nat.mul_le_mul_left _ h3
  have q0 := add1_le (x0 := own) (a := 2 * (e * tC T) * wN T 0) h
  have q1 := add1_le (x0 := upC c) (a := e * tC T * wN T 1) q0
  have q2 := add1_le (x0 := dnC (tC T) c) (a := e * tC T * wN T 1) q1
  have q3 := add1_le (x0 := c) (a := 2 * (e * tC T) * wN T 2) q2
  unfold handN
  split <;> omega
theorem accN_le {T : Td} (hT : TdOk T) {own B x : Nat} {f : Nat → Nat} (h : ∀ c, c < tC T → f c ≤ B) : ∀ c, c ≤ tC T → accN T own f c x ≤ c * (576 * B) := by
  intro c
  induction c with
  | zero => intro _; simp [accN]
  | succ c ih =>
    intro hc
    have h1 := handN_le hT (own := own) (e := f c) (c := c) (ih (by omega))
    have h2 := h c (by omega)
    have h3 : 576 * f c ≤ 576 * B := Nat.mul_le_mul_left _ h2
    rw [Nat.succ_mul]
    show handN T own (f c) c (accN T own f c) x ≤ _
    omega
theorem shN_le {T : Td} (hT : TdOk T) (own lie : Nat) : ∀ k x, shN T own lie k x ≤ 4608 ^ k := by
  intro k
  induction k with
  | zero => intro x; unfold shN; split <;> decide
  | succ k ih =>
    intro x
    have h1 := accN_le hT (own := own) (x := x) (f := shN T own lie k) (B := 4608 ^ k) (fun c _ => ih c) (tC T) (Nat.le_refl _)
    have h2 : tC T * (576 * 4608 ^ k) ≤ 8 * (576 * 4608 ^ k) := Nat.mul_le_mul_right _ hT.1
    show accN T own (shN T own lie k) (tC T) x ≤ _
    rw [Nat.pow_succ]
    omega
theorem handN_out {T : Td} {own e c x : Nat} {g : Nat → Nat} (ho : own < tC T) (hc : c < tC T) (hx : tC T ≤ x) (h : g x = 0) : handN T own e c g x = 0 := by
  unfold handN add1 upC dnC
  rw [h, if_neg (by omega), if_neg (by split <;> omega), if_neg (by split <;> omega), if_neg (by omega), if_neg (by omega)]
theorem accN_out {T : Td} {own x : Nat} {f : Nat → Nat} (ho : own < tC T) (hx : tC T ≤ x) : ∀ c, c ≤ tC T → accN T own f c x = 0 := by
  intro c
  induction c with
  | zero => intro _; rfl
  | succ c ih => intro hc; exact handN_out ho (by omega) hx (ih (by omega))
theorem shN_out {T : Td} {own lie x : Nat} (ho : own < tC T) (hl : lie < tC T) (hx : tC T ≤ x) (k : Nat) : shN T own lie k x = 0 := by
  cases k with
  | zero => unfold shN; rw [if_neg (by omega)]
  | succ k => exact accN_out ho hx (tC T) (Nat.le_refl _)
theorem accN_past {T : Td} {own : Nat} {f : Nat → Nat} (h : ∀ c, tC T ≤ c → f c = 0) : ∀ c, tC T ≤ c → accN T own f c = accN T own f (tC T) := by
  intro c
  induction c with
  | zero => intro hc; rw [show tC T = 0 from by omega]
  | succ c ih =>
    intro hc
    by_cases e : tC T = c + 1
    · rw [e]
    · show handN T own (f c) c (accN T own f c) = _
      rw [h c (by omega), handN_zero]
      exact ih (by omega)
/-- the class's and the reference's cells -/
def JF (a b : St) : Prop := (∀ k, gI b k = gI a k) ∧ (∀ j, gA b j = gA a j)
theorem JF.rfl {a : St} : JF a a := ⟨fun _ => Eq.refl _, fun _ => Eq.refl _⟩
theorem JF.trans {a b c : St} (h : JF a b) (k : JF b c) : JF a c := ⟨fun i => (k.1 i).trans (h.1 i), fun j => (k.2 j).trans (h.2 j)⟩
theorem JF.sJ {a : St} {j : Nat} {f : Nat → Int64} : JF a (sJ a j f) := ⟨fun _ => Eq.refl _, fun _ => Eq.refl _⟩
theorem JF.sL {a : St} {j : Nat} {f : Int64} : JF a (sL a j f) := ⟨fun _ => Eq.refl _, fun _ => Eq.refl _⟩
theorem JF.c {a b : St} (h : JF a b) : CEq a b := ⟨fun k _ => h.1 k, fun j _ => h.2 j, h.2 35⟩
theorem JF.m {a b : St} (h : JF a b) : MEq a b := ⟨fun k _ => h.1 k, fun j _ => h.2 j⟩
def Sh (n : Nat) (σ : St) (j : Nat) (g : Nat → Nat) : Prop := ∀ x, x < n → gJ σ j x = jJ (g x : Nat)
theorem sh_add {n : Nat} {σ : St} {j : Nat} {g : Nat → Nat} (h : Sh n σ j g) {x0 a : Nat} (hx : x0 < n) : Sh n (sJ σ j (vp_updL (gJ σ j) x0 (gJ σ j x0 + jJ (a : Nat)))) j (add1 g x0 a) := by
  intro x hx2
  rw [gJ_sJ]
  unfold vp_updL add1
  by_cases e : x = x0
  · rw [if_pos e, if_pos e, h x0 hx, jJ_addN, e]
  · rw [if_neg e, if_neg e, Nat.add_zero]; exact h x hx2
theorem sh_new {n : Nat} {σ : St} {j : Nat} {g : Nat → Nat} (h : Sh n σ j g) {x0 v : Nat} : Sh n (sJ σ j (vp_updL (gJ σ j) x0 (jJ (v : Nat)))) j (updN g x0 v) := by
  intro x hx2
  rw [gJ_sJ]
  unfold vp_updL updN
  by_cases e : x = x0
  · rw [if_pos e, if_pos e]
  · rw [if_neg e, if_neg e]; exact h x hx2
theorem c_give {σ : St} {g : Nat → Nat} (h : Sh 8 σ 0 g) {x0 a : Nat} (hx : x0 < 8) : ∃ σ2, x_X8_give (iI x0) (jJ (a : Nat)) σ = some σ2 ∧ JF σ σ2 ∧ Sh 8 σ2 0 (add1 g x0 a) ∧ gJ σ2 1 = gJ σ 1 ∧ gL σ2 = gL σ := by
  refine ⟨_, ?_, JF.sJ, sh_add h hx, gJ_sJn _ (by omega) _, by funext k; exact gL_sJ _ _ _ _⟩
  unfold x_X8_give
  rw [show nI 8 = (8 : Int32) from rfl]
  simp (disch := omega) only [ql0, qM8]
  rw [if_neg (by omega), if_neg (by omega), ldJ_in (by omega) (by omega), bd_some, stJ_in (by omega) (by omega), bd_some]
theorem c_share {σ : St} {g : Nat → Nat} (h : Sh 8 σ 0 g) {x0 : Nat} (hx : x0 < 8) : x_X8_share (iI x0) σ = some (jJ (g x0 : Nat)) := by
  unfold x_X8_share
  rw [show nI 8 = (8 : Int32) from rfl]
  simp (disch := omega) only [ql0, qM8]
  rw [if_neg (by omega), if_neg (by omega), ldJ_in (by omega) (by omega), bd_some, h x0 hx]
theorem c_weight {σ : St} {T : Td} (hC : TdC 0 σ T) (hT : TdOk T) {i : Nat} (hi : i < 4) : x_X2_at 7 (iI i) σ = some (iI (wN T i : Nat)) := by
  rw [f_at, atF_in (show i < lenN 7 from hi) (by decide), show gA σ 7 i = _ from hC.2.2.2.2.2.2.2.2.2 i hi, (wN_eq hT hi).1]
theorem m_weight {τ : St} {T : Td} (hM : TdM 0 τ T) (hT : TdOk T) {i : Nat} (hi : i < 4) : ldI (gA τ 6) (lenM 6) (iI i) = some (iI (wN T i : Nat)) := by
  rw [ldI_in (show i < lenM 6 from hi) (by decide), show gA τ 6 i = _ from hM.2.2.2.2.2.2.2.2 i hi, (wN_eq hT hi).1]
theorem TdC.jf {u : Nat} {σ σ2 : St} {T : Td} (h : TdC u σ T) (e : JF σ σ2) : TdC u σ2 T := h.eq (fun k _ _ => e.1 k) (fun j _ _ => e.2 j)
theorem TdM.jf {u : Nat} {σ σ2 : St} {T : Td} (h : TdM u σ T) (e : JF σ σ2) : TdM u σ2 T := h.eq (fun k _ _ => e.1 k) (fun j _ _ => e.2 j)
theorem c_beside {σ : St} {T : Td} (hC : TdC 0 σ T) (hT : TdOk T) {c : Nat} (hc : c < tC T) : x_X8_besideOrHere (iI c) (-1) σ = some (iI (upC c : Nat)) ∧ x_X8_besideOrHere (iI c) 1 σ = some (iI (dnC (tC T) c : Nat)) := by
  have hC8 := hT.1
  unfold x_X8_besideOrHere upC dnC
  rw [qaM, qa1, c_hasCrate ⟨by omega, by omega⟩ hC.1 (by omega), c_hasCrate ⟨by omega, by omega⟩ hC.1 (by omega), bd_some, bd_some]
  constructor
  · by_cases e : c = 0
    · rw [if_neg (show ¬ (0 ≤ (c : Int) + -1 ∧ (c : Int) + -1 < tC T) by omega), if_pos rfl, if_pos e]
    · rw [if_pos (show 0 ≤ (c : Int) + -1 ∧ (c : Int) + -1 < tC T by omega), if_neg (by decide), if_neg e, show (c : Int) + -1 = ((c - 1 : Nat) : Int) from by omega]
  · by_cases e : c + 1 < tC T
    · rw [if_pos (show 0 ≤ (c : Int) + 1 ∧ (c : Int) + 1 < tC T by omega), if_neg (by decide), if_pos e]; rfl
    · rw [if_neg (show ¬ (0 ≤ (c : Int) + 1 ∧ (c : Int) + 1 < tC T) by omega), if_pos rfl, if_neg e]
theorem upC_lt {C c : Nat} (h : c < C) : upC c < C := by unfold upC; split <;> omega
theorem dnC_lt {C c : Nat} (h : c < C) : dnC C c < C := by unfold dnC; split <;> omega
theorem c_handOn {σ : St} {T : Td} (hC : TdC 0 σ T) (hT : TdOk T) {own c e : Nat} (ho : own < tC T) (hc : c < tC T) {g : Nat → Nat} (h : Sh 8 σ 0 g) : ∃ σ2, x_X8_handOn (iI c) (iI own) (jJ (e : Nat)) σ = some σ2 ∧ JF σ σ2 ∧ Sh 8 σ2 0 (handN T own e c g) ∧ gJ σ2 1 = gJ σ 1 ∧ gL σ2 = gL σ := by
  have hC8 := hT.1
  have w0 := (wN_eq hT (i := 0) (by omega)).2
  have w1 := (wN_eq hT (i := 1) (by omega)).2
  have w2 := (wN_eq hT (i := 2) (by omega)).2
  have w3 := (wN_eq hT (i := 3) (by omega)).2
  have hu := upC_lt hc
  have hd := dnC_lt hc
  obtain ⟨σ1, a1, a2, a3, a4, a5⟩ := c_give h (x0 := own) (a := 2 * (e * tC T) * wN T 0) (by omega)
  have hC1 := hC.jf a2
  obtain ⟨σ2, b1, b2, b3, b4, b5⟩ := c_give a3 (x0 := upC c) (a := e * tC T * wN T 1) (by omega)
  have hC2 := hC1.jf b2
  obtain ⟨σ3, d1, d2, d3, d4, d5⟩ := c_give b3 (x0 := dnC (tC T) c) (a := e * tC T * wN T 1) (by omega)
  have hC3 := hC2.jf d2
  obtain ⟨σ4, f1, f2, f3, f4, f5⟩ := c_give d3 (x0 := c) (a := 2 * (e * tC T) * wN T 2) (by omega)
  have hC4 := hC3.jf f2
  have key := lp_inv (f := fun v : (Int32 × St) => x_X8_handOn_L113 (jJ (e : Nat)) v.1 v.2) (fun i v => ∃ σ2, v = (iI ((i : Nat) : Int), σ2) ∧ JF σ4 σ2 ∧ Sh 8 σ2 0 (fun x => add1 (add1 (add1 (add1 g own (2 * (e * tC T) * wN T 0)) (upC c) (e * tC T * wN T 1)) (dnC (tC T) c) (e * tC T * wN T 1)) c (2 * (e * tC T) * wN T 2) x + (if x < i then 2 * e * wN T 3 else 0)) ∧ gJ σ2 1 = gJ σ4 1 ∧ gL σ2 = gL σ4)
    (fun v => JF σ4 v.2 ∧ Sh 8 v.2 0 (handN T own e c g) ∧ gJ v.2 1 = gJ σ4 1 ∧ gL v.2 = gL σ4) (tC T) FU (by unfold FU; omega) (fun i v hi hg => ?_) (fun v hg => ?_) (iI ((0 : Nat) : Int), σ4) ⟨σ4, rfl, JF.rfl, fun x hx => by
      rw [f3 x hx]
      show _ = jJ ((_ + (if x < 0 then _ else 0) : Nat) : Int)
      rw [if_neg (by omega)]; rfl, rfl, rfl⟩
  · obtain ⟨⟨q1, q2⟩, k1, k2, k3, k4, k5⟩ := key
    refine ⟨q2, ?_, ((((a2.trans b2).trans d2).trans f2).trans k2), k3, ?_, ?_⟩
    · unfold x_X8_handOn
      rw [show (0 : Int32) = iI ((0 : Nat) : Int) from rfl, c_weight hC hT (by omega), bd_some, show gI σ 0 = iI (tC T) from hC.1, jJ_iI (by omega) (by omega), jJ_iI (by omega) (by omega), show (2 : Int64) = jJ ((2 : Nat) : Int) from rfl, jJ_mulN, jJ_mulN, jJ_mulN, a1, bd_some, (c_beside hC1 hT hc).1, bd_some, show (1 : Int32) = iI ((1 : Nat) : Int) from rfl, c_weight hC1 hT (by omega), bd_some, jJ_iI (by omega) (by omega), jJ_mulN, b1, bd_some, show iI ((1 : Nat) : Int) = (1 : Int32) from rfl, (c_beside hC2 hT hc).2, bd_some, show (1 : Int32) = iI ((1 : Nat) : Int) from rfl, c_weight hC2 hT (by omega), bd_some, jJ_iI (by omega) (by omega), jJ_mulN, d1, bd_some, show (2 : Int32) = iI ((2 : Nat) : Int) from rfl, c_weight hC3 hT (by omega), bd_some, jJ_iI (by omega) (by omega), jJ_mulN, f1, bd_some, k1, bd2_some]
    · rw [k4, f4, d4, b4, a4]
    · rw [k5, f5, d5, b5, a5]
  · obtain ⟨σ5, rfl, k2, k3, k4, k5⟩ := hg
    have hC5 := hC4.jf k2
    obtain ⟨σ6, n1, n2, n3, n4, n5⟩ := c_give k3 (x0 := i) (a := 2 * e * wN T 3) (by omega)
    dsimp only
    unfold x_X8_handOn_L113
    rw [show gI σ5 0 = iI (tC T) from hC5.1]
    simp (disch := omega) only [iI_leD]
    rw [if_neg (by omega), show (3 : Int32) = iI ((3 : Nat) : Int) from rfl, c_weight hC5 hT (by omega), bd_some, jJ_iI (by omega) (by omega), show (2 : Int64) = jJ ((2 : Nat) : Int) from rfl, jJ_mulN, jJ_mulN, n1, bd_some, qa1]
    refine ⟨_, rfl, σ6, rfl, k2.trans n2, fun x hx => ?_, n4.trans k4, n5.trans k5⟩
    rw [n3 x hx]
    have hG : ∀ G A : Nat, (G + (if x < i then A else 0)) + (if x = i then A else 0) = G + (if x < i + 1 then A else 0) := by
      intro G A
      by_cases q : x = i
      · rw [if_pos q, if_neg (show ¬ x < i by omega), if_pos (show x < i + 1 by omega), Nat.add_zero]
      · rw [if_neg q, Nat.add_zero]
        congr 1
        exact ifc (by omega)
    exact congrArg (fun z : Nat => jJ (z : Int)) (hG _ _)
  · obtain ⟨σ5, rfl, k2, k3, k4, k5⟩ := hg
    have hC5 := hC4.jf k2
    dsimp only
    unfold x_X8_handOn_L113
    rw [show gI σ5 0 = iI (tC T) from hC5.1]
    simp (disch := omega) only [iI_leD]
    rw [if_pos (by omega)]
    exact ⟨_, rfl, k2, k3, k4, k5⟩
theorem c_once {σ : St} {T : Td} (hC : TdC 0 σ T) (hT : TdOk T) {own L : Nat} (ho : own < tC T) {f : Nat → Nat} (h : Sh 8 σ 0 f) (hf : ∀ c, c < 8 → f c ≤ 4608 ^ 4) (hz : ∀ c, tC T ≤ c → f c = 0) (hL : gL σ 0 = jJ (L : Nat)) : ∃ σ2, x_X8_putBackOnce (iI own) σ = some σ2 ∧ JF σ σ2 ∧ Sh 8 σ2 0 (accN T own f (tC T)) ∧ gL σ2 0 = jJ ((L * (2 * tC T * wSum T) : Nat) : Int) := by
  have hC8 := hT.1
  have hW := wSum_ok hT
  have k0 := lp_inv (f := fun v : (Int32 × St) => x_X8_putBackOnce_L2 (iI own) v.1 v.2) (fun i v => ∃ σ2, v = (iI ((i : Nat) : Int), σ2) ∧ JF σ σ2 ∧ Sh 8 σ2 0 f ∧ Sh i σ2 1 f ∧ gL σ2 = gL σ)
    (fun v => JF σ v.2 ∧ Sh 8 v.2 1 f ∧ gL v.2 = gL σ) 8 FU (by unfold FU; omega) (fun i v hi hg => ?_) (fun v hg => ?_) (iI ((0 : Nat) : Int), σ) ⟨σ, rfl, JF.rfl, h, fun x hx => absurd hx (by omega), rfl⟩
  · obtain ⟨⟨q1, σ1⟩, a1, a2, a3, a4⟩ := k0
    have k1 := lp_inv (f := fun v : (Int32 × St) => x_X8_clearShares_L2 v.1 v.2) (fun i v => ∃ σ2, v = (iI ((i : Nat) : Int), σ2) ∧ JF σ1 σ2 ∧ Sh i σ2 0 (fun _ => 0) ∧ gJ σ2 1 = gJ σ1 1 ∧ gL σ2 = gL σ1)
      (fun v => JF σ1 v.2 ∧ Sh 8 v.2 0 (fun _ => 0) ∧ gJ v.2 1 = gJ σ1 1 ∧ gL v.2 = gL σ1) 8 FU (by unfold FU; omega) (fun i v hi hg => ?_) (fun v hg => ?_) (iI ((0 : Nat) : Int), σ1) ⟨σ1, rfl, JF.rfl, fun x hx => absurd hx (by omega), rfl, rfl⟩
    · obtain ⟨⟨q2, σ2⟩, b1, b2, b3, b4, b5⟩ := k1
      have hcl : x_X8_clearShares σ1 = some σ2 := by
        unfold x_X8_clearShares
        show bd2 (lp _ FU (iI ((0 : Nat) : Int), σ1)) _ = _
        rw [b1]; rfl
      have k2 := lp_inv (f := fun v : (Int32 × St) => x_X8_putBackOnce_L34 (iI own) v.1 v.2) (fun i v => ∃ σ3, v = (iI ((i : Nat) : Int), σ3) ∧ JF σ2 σ3 ∧ Sh 8 σ3 0 (accN T own f i) ∧ gJ σ3 1 = gJ σ2 1 ∧ gL σ3 = gL σ2)
        (fun v => JF σ2 v.2 ∧ Sh 8 v.2 0 (accN T own f 8) ∧ gL v.2 = gL σ2) 8 FU (by unfold FU; omega) (fun i v hi hg => ?_) (fun v hg => ?_) (iI ((0 : Nat) : Int), σ2) ⟨σ2, rfl, JF.rfl, b3, rfl, rfl⟩
      · obtain ⟨⟨q3, σ3⟩, d1, d2, d3, d4⟩ := k2
        have hj : JF σ σ3 := (a2.trans b2).trans d2
        refine ⟨sL σ3 0 (jJ ((L * (2 * tC T * wSum T) : Nat) : Int)), ?_, hj.trans JF.sL, ?_, gL_sL _ _ _⟩
        · have hsum : x_X2_sum 7 σ3 = some (iI (wSum T : Nat)) := by
            have e : ∀ i, i < 4 → gA σ3 7 i = iI (wN T i : Nat) := fun i hi => by
              rw [hj.2, ← (wN_eq hT hi).1]; exact hC.2.2.2.2.2.2.2.2.2 i hi
            rw [f_sum]
            show some ((((0 + gA σ3 7 0) + gA σ3 7 1) + gA σ3 7 2) + gA σ3 7 3) = _
            rw [e 0 (by omega), e 1 (by omega), e 2 (by omega), e 3 (by omega), i0, iI_add, iI_add, iI_add, iI_add]
            congr 2
            unfold wSum
            omega
          unfold x_X8_putBackOnce
          show bd2 (lp _ FU (iI ((0 : Nat) : Int), σ)) _ = _
          rw [a1, bd2_some, hcl, bd_some]
          show bd2 (lp _ FU (iI ((0 : Nat) : Int), σ2)) _ = _
          rw [d1, bd2_some, hsum, bd_some, bd_some, show gI σ3 0 = iI (tC T) from (hj.1 0).trans hC.1, jJ_iI (by omega) (by omega), jJ_iI (by omega) (by omega), show (2 : Int64) = jJ ((2 : Nat) : Int) from rfl, jJ_mulN, jJ_mulN, d4, b5, a4, hL, jJ_mulN]
        · intro x hx
          rw [gJ_sL, ← accN_past hz 8 hC8]
          exact d3 x hx
      · obtain ⟨σ3, rfl, d2, d3, d4, d5⟩ := hg
        have hfi : gJ σ3 1 i = jJ (f i : Nat) := by rw [d4, b4]; exact a3 i hi
        have hb := hf i hi
        have hb2 : (4608 : Nat) ^ 4 = 450868486864896 := by decide
        dsimp only
        unfold x_X8_putBackOnce_L34
        rw [show nI 8 = (8 : Int32) from rfl]
        simp (disch := omega) only [qM8]
        rw [if_neg (by omega), ldJ_in (by omega) (by omega), bd_some, hfi, bd_some, qa1]
        by_cases e : f i = 0
        · rw [if_pos ((lg_cmp_eq _ _).mpr (by rw [e]; rfl))]
          refine ⟨_, rfl, σ3, rfl, d2, ?_, d4, d5⟩
          show Sh 8 σ3 0 (handN T own (f i) i (accN T own f i))
          rw [e, handN_zero]; exact d3
        · have hi2 : i < tC T := by
            by_cases q : i < tC T
            · exact q
            · exact absurd (hz i (by omega)) e
          rw [if_neg (by rw [lg_cmp_eq, j0, jJ_inj (by omega) (by omega) (by omega) (by omega)]; omega)]
          obtain ⟨σ4, n1, n2, n3, n4, n5⟩ := c_handOn (((hC.jf a2).jf b2).jf d2) hT (own := own) (c := i) (e := f i) ho hi2 d3
          rw [n1, bd_some]
          exact ⟨_, rfl, σ4, rfl, d2.trans n2, n3, n4.trans d4, n5.trans d5⟩
      · obtain ⟨σ3, rfl, d2, d3, d4, d5⟩ := hg
        dsimp only
        unfold x_X8_putBackOnce_L34
        rw [show nI 8 = (8 : Int32) from rfl]
        simp (disch := omega) only [qM8]
        rw [if_pos (by omega)]
        exact ⟨_, rfl, d2, d3, d5⟩
    · obtain ⟨σ2, rfl, b2, b3, b4, b5⟩ := hg
      dsimp only
      unfold x_X8_clearShares_L2
      rw [show nI 8 = (8 : Int32) from rfl]
      simp (disch := omega) only [qM8]
      rw [if_neg (by omega), stJ_in (by omega) (by omega), bd_some, qa1]
      refine ⟨_, rfl, _, rfl, b2.trans JF.sJ, fun x hx => ?_, ?_, b5⟩
      · rw [gJ_sJ]
        unfold vp_updL
        by_cases e : x = i
        · rw [if_pos e]; rfl
        · rw [if_neg e]; exact b3 x (by omega)
      · rw [gJ_sJn _ (by omega)]; exact b4
    · obtain ⟨σ2, rfl, b2, b3, b4, b5⟩ := hg
      dsimp only
      unfold x_X8_clearShares_L2
      rw [show nI 8 = (8 : Int32) from rfl]
      simp (disch := omega) only [qM8]
      rw [if_pos (by omega)]
      exact ⟨_, rfl, b2, b3, b4, b5⟩
  · obtain ⟨σ2, rfl, a2, a3, a4, a5⟩ := hg
    dsimp only
    unfold x_X8_putBackOnce_L2
    rw [show nI 8 = (8 : Int32) from rfl]
    simp (disch := omega) only [qM8]
    rw [if_neg (by omega), c_share a3 hi, bd_some, stJ_in (by omega) (by omega), bd_some, qa1]
    refine ⟨_, rfl, _, rfl, a2.trans JF.sJ, fun x hx => ?_, fun x hx => ?_, a5⟩
    · rw [gJ_sJn _ (by omega)]; exact a3 x hx
    · rw [gJ_sJ]
      unfold vp_updL
      by_cases e : x = i
      · rw [if_pos e, e]
      · rw [if_neg e]; exact a4 x (by omega)
  · obtain ⟨σ2, rfl, a2, a3, a4, a5⟩ := hg
    dsimp only
    unfold x_X8_putBackOnce_L2
    rw [show nI 8 = (8 : Int32) from rfl]
    simp (disch := omega) only [qM8]
    rw [if_pos (by omega)]
    exact ⟨_, rfl, a2, a4, a5⟩
