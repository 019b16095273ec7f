/-! shop: the text's clauses one behind another -/
theorem lp2_gen {V X : Type} {f : V → Option (Bool × V)} {g : X → Option (Bool × X)} (G : Nat → V → X → Prop) (K : V → X → Prop) (n : Nat)
    (step : ∀ i v x, i ≤ n → G i v x → (i < n ∧ ∃ v2 x2, f v = some (true, v2) ∧ g x = some (true, x2) ∧ G (i + 1) v2 x2) ∨ (∃ v2 x2, (∀ N, lp f (N + 2) v = some v2) ∧ (∀ N, lp g (N + 2) x = some x2) ∧ K v2 x2)) :
    ∀ v x, G 0 v x → ∀ N M, n + 2 ≤ N → n + 2 ≤ M → ∃ v2 x2, lp f N v = some v2 ∧ lp g M x = some x2 ∧ K v2 x2 := by
  have key : ∀ (d i : Nat) (v : V) (x : X) (N M : Nat), i + d = n → d + 2 ≤ N → d + 2 ≤ M → G i v x → ∃ v2 x2, lp f N v = some v2 ∧ lp g M x = some x2 ∧ K v2 x2 := by
    intro d
    induction d with
    | zero =>
      intro i v x N M hi hN hM hg
      rcases step i v x (by omega) hg with ⟨q, _⟩ | ⟨v2, x2, h1, h2, h3⟩
      · omega
      · refine ⟨v2, x2, ?_, ?_, h3⟩
        · rw [show N = (N - 2) + 2 from by omega]; exact h1 _
        · rw [show M = (M - 2) + 2 from by omega]; exact h2 _
    | succ d ih =>
      intro i v x N M hi hN hM hg
      rcases step i v x (by omega) hg with ⟨_, v2, x2, h1, h2, h3⟩ | ⟨v2, x2, h1, h2, h3⟩
      · obtain ⟨v3, x3, k1, k2, k3⟩ := ih (i + 1) v2 x2 (N - 1) (M - 1) (by omega) (by omega) (by omega) h3
        refine ⟨v3, x3, ?_, ?_, k3⟩
        · rw [show N = (N - 1) + 1 from by omega]; exact (lp_t h1).trans k1
        · rw [show M = (M - 1) + 1 from by omega]; exact (lp_t h2).trans k2
      · refine ⟨v2, x2, ?_, ?_, h3⟩
        · rw [show N = (N - 2) + 2 from by omega]; exact h1 _
        · rw [show M = (M - 2) + 2 from by omega]; exact h2 _
  exact fun v x hg N M hN hM => key n 0 v x N M (by omega) hN hM hg
def FrL (σ σ2 : St) : Prop := (∀ k, ¬ ((4 ≤ k ∧ k ≤ 7) ∨ k = 11 ∨ (13 ≤ k ∧ k ≤ 17)) → gI σ2 k = gI σ k) ∧ (∀ j, ¬ (8 ≤ j ∧ j ≤ 14) → gA σ2 j = gA σ j)
theorem FrL.rfl {σ : St} : FrL σ σ := ⟨fun _ _ => Eq.refl _, fun _ _ => Eq.refl _⟩
theorem FrL.trans {a b c : St} (h : FrL a b) (k : FrL b c) : FrL a c := ⟨fun i h1 => (k.1 i h1).trans (h.1 i h1), fun j hj => (k.2 j hj).trans (h.2 j hj)⟩
theorem FrQ.l {a b : St} (h : FrQ a b) : FrL a b := ⟨fun k hk => h.1 k (by omega), fun j hj => h.2 j hj⟩
theorem FrN.l {a b : St} (h : FrN a b) : FrL a b := h.q.l
theorem FrL.sI {σ : St} {k : Nat} {v : Int32} (h : (4 ≤ k ∧ k ≤ 7) ∨ k = 11 ∨ (13 ≤ k ∧ k ≤ 17)) : FrL σ (sI σ k v) := ⟨fun i h1 => gI_sIn _ (by omega) _, fun _ _ => Eq.refl _⟩
/-- the class goes on behind blanks -/
theorem Md.skipC {n : Nat} {ok : Bool} {σ τ : St} (h : Md n ok σ τ) : ∃ b : Nat, x_X3_skipBlanks σ = some (sI σ 13 (iI b)) ∧ Md n ok (sI σ 13 (iI b)) τ ∧ b ≤ n ∧ Run (fun k => gA σ 0 k = 32) n b b := by
  obtain ⟨hc, a, a', ha, ha', h13, h3, hm⟩ := h
  obtain ⟨b, rb⟩ := run_ex (fun k => gA σ 0 k = 32) ha
  refine ⟨b, c_skip hc.1 hc.2.1 h13 rb, ⟨hc.fr (FrN.sI (by omega)) FrO.rfl, b, a', rb.2.1, ha', gI_sI _ _ _, h3, ?_⟩, rb.2.1, rb.again⟩
  cases ok with
  | false =>
    rw [if_neg (by decide)] at hm ⊢
    unfold MdF at hm ⊢
    rw [gI_sIn _ (by omega), gI_sIn _ (by omega)]
    exact hm
  | true =>
    rw [if_pos rfl] at hm ⊢
    obtain ⟨q1, q2, q3, b2, q4, q5⟩ := hm
    have e := q4.uniq rb
    subst e
    exact ⟨by rw [gI_sIn _ (by omega)]; exact q1, q2, by rw [gI_sIn _ (by omega)]; exact q3, b2, rb.again, q5⟩
def LpG (n : Nat) (σ0 τ0 : St) (i : Nat) (v : Int32 × St) (x : Int32 × Int32 × St) : Prop :=
  ∃ (σ τ : St) (ot : Int32) (T : Td) (L : Nat → Int) (D : Nat → Nat) (b : Nat), v = (iI i, σ) ∧ x = (iI i, ot, τ) ∧ Md n true σ τ ∧ DrR T L D σ τ ∧ b ≤ n ∧ gI σ 13 = iI b ∧ Run (fun k => gA σ 0 k = 32) n b b ∧ gI σ 16 = iI i ∧ ((ot = 0 ∧ gI σ 17 = 1 ∧ tS T = 0 ∧ tL T = 0) ∨ (ot = 1 ∧ gI σ 17 = 0)) ∧ (i = 0 ↔ tC T = 0) ∧ FrL σ0 σ ∧ FrT τ0 τ
def LpK (n : Nat) (σ0 τ0 : St) (v : Int32 × St) (x : Int32 × Int32 × St) : Prop := ∃ ok, Md n ok v.2 x.2.2 ∧ FrL σ0 v.2 ∧ FrT τ0 x.2.2 ∧ (ok = true → ∃ T L D, DrR T L D v.2 x.2.2)
theorem bd3_into {α β γ δ ε : Type} {m : Option (α × β)} {g : α → β → Option γ} {h : γ → Option δ} {k : δ → Option ε} {t : δ} (e : (bd2 m fun v s => bd (g v s) fun a => bd (h a) fun b => some b) = some t) : (bd2 m fun v s => bd (g v s) fun a => bd (h a) fun b => k b) = k t := by
  cases m with
  | none => cases e
  | some p =>
    obtain ⟨v, s⟩ := p
    have e : (bd (g v s) fun a => bd (h a) fun b => some b) = some t := e
    show (bd (g v s) fun a => bd (h a) fun b => k b) = k t
    cases hg : g v s with
    | none => rw [hg] at e; cases e
    | some c =>
      rw [hg] at e
      have e : (bd (h c) fun b => some b) = some t := e
      show (bd (h c) fun b => k b) = k t
      cases hh : h c with
      | none => rw [hh] at e; cases e
      | some d =>
        rw [hh] at e
        rw [← Option.some.inj e]
        rfl
theorem Wd.tape {f g : Nat → Int32} {n b e i : Nat} (he : e ≤ n) (hb : b ≤ e) (ht : ∀ k, k < n → f k = g k) : Wd f b e i ↔ Wd g b e i := by
  unfold Wd
  constructor
  · rintro ⟨h1, h2⟩
    exact ⟨h1, fun k hk => by rw [← ht (b + k) (by omega)]; exact h2 k hk⟩
  · rintro ⟨h1, h2⟩
    exact ⟨h1, fun k hk => by rw [ht (b + k) (by omega)]; exact h2 k hk⟩
/-- behind a clause: both at the loop's head, or both at its end -/
theorem both_after {n : Nat} {σ0 τ0 σ7 τ7 : St} {v : Int32 × St} {x : Int32 × Int32 × St} {i : Nat} {ot : Int32} {X Y : Option St} {P : Td → Prop} (hi : i < 60)
    (hcl : ClR n σ7 τ7 X Y P) (fL : FrL σ0 σ7) (fT : FrT τ0 τ7)
    (hv : ∀ σ2, X = some σ2 → x_X3_read_L43 v.1 v.2 = bd (x_X3_skipBlanks σ2) fun σ12 => some (true, (iI ((i + 1 : Nat) : Int), σ12)))
    (hx : ∀ τ1 τ2, Y = some τ1 → x_X10_sign 59 τ1 = some τ2 → x_X10_shop_L46 x.1 x.2.1 x.2.2 = some (true, (iI ((i + 1 : Nat) : Int), ot, τ2)))
    (h16 : gI σ7 16 = iI ((i + 1 : Nat) : Int)) (hP : ∀ T, P T → (ot = 0 ∧ gI σ7 17 = 1 ∧ tS T = 0 ∧ tL T = 0) ∨ (ot = 1 ∧ gI σ7 17 = 0)) (hP1 : ∀ T, P T → 1 ≤ tC T) :
    (i < 60 ∧ ∃ v2 x2, x_X3_read_L43 v.1 v.2 = some (true, v2) ∧ x_X10_shop_L46 x.1 x.2.1 x.2.2 = some (true, x2) ∧ LpG n σ0 τ0 (i + 1) v2 x2) ∨ (∃ v2 x2, (∀ N, lp (fun v : (Int32 × St) => x_X3_read_L43 v.1 v.2) (N + 2) v = some v2) ∧ (∀ N, lp (fun v : (Int32 × Int32 × St) => x_X10_shop_L46 v.1 v.2.1 v.2.2) (N + 2) x = some x2) ∧ LpK n σ0 τ0 v2 x2) := by
  obtain ⟨ok, σ2, τ1, τ2, e1, e2, e3, hmd, fq, ft, hok⟩ := hcl
  obtain ⟨b, s1, s2, s3, s4⟩ := hmd.skipC
  have ev := hv σ2 e1
  rw [s1, bd_some] at ev
  have ex := hx τ1 τ2 e2 e3
  have fL2 : FrL σ0 (sI σ2 13 (iI b)) := fL.trans (fq.l.trans (FrL.sI (by omega)))
  have fT2 : FrT τ0 τ2 := fT.trans ft
  cases ok with
  | true =>
    left
    obtain ⟨T, L, D, hd, hp⟩ := hok rfl
    have hp1 := hP1 T hp
    refine ⟨hi, _, _, ev, ex, sI σ2 13 (iI b), τ2, ot, T, L, D, b, rfl, rfl, s2, hd.eq (fun k _ _ => gI_sIn _ (by omega) _) (fun _ _ _ => rfl) (fun _ _ _ => rfl) (fun _ _ _ => rfl), s3, gI_sI _ _ _, s4, ?_, ?_, by omega, fL2, fT2⟩
    · rw [gI_sIn _ (by omega), fq.1 16 (by omega)]; exact h16
    · rw [gI_sIn _ (by omega), fq.1 17 (by omega)]; exact hP T hp
  | false =>
    right
    refine ⟨(iI ((i + 1 : Nat) : Int), sI σ2 13 (iI b)), (iI ((i + 1 : Nat) : Int), ot, τ2), fun N => ?_, fun N => ?_, false, s2, fL2, fT2, fun q => absurd q (by decide)⟩
    · refine (lp_t (N := N + 1) ev).trans (lp_f ?_)
      show x_X3_read_L43 (iI ((i + 1 : Nat) : Int)) (sI σ2 13 (iI b)) = _
      unfold x_X3_read_L43
      simp (disch := omega) only [qg60]
      rw [if_neg (by omega), if_neg s2.fault]
    · refine (lp_t (N := N + 1) ex).trans (lp_f ?_)
      show x_X10_shop_L46 (iI ((i + 1 : Nat) : Int)) ot τ2 = _
      unfold x_X10_shop_L46
      rw [s2.fine0, bd_some, if_pos rfl]
