/-! round -/
theorem r_le {α : Type} {a b : Int} {x y : α} (h1 : -2147483648 ≤ a) (h2 : a < 2147483648) (h3 : -2147483648 ≤ b) (h4 : b < 2147483648) : (if iI a ≤ iI b then x else y) = (if a ≤ b then x else y) := by simp only [iI_leD h1 h2 h3 h4]
theorem r_lt {α : Type} {a b : Int} {x y : α} (h1 : -2147483648 ≤ a) (h2 : a < 2147483648) (h3 : -2147483648 ≤ b) (h4 : b < 2147483648) : (if iI a < iI b then x else y) = (if a < b then x else y) := by simp only [iI_ltD h1 h2 h3 h4]
theorem r_eq {α : Type} {a b : Int} {x y : α} (h1 : -2147483648 ≤ a) (h2 : a < 2147483648) (h3 : -2147483648 ≤ b) (h4 : b < 2147483648) : (if iI a = iI b then x else y) = (if a = b then x else y) := by simp only [iI_eqD h1 h2 h3 h4]
theorem and1 (t : Int32) : t &&& 1 = 0 ∨ t &&& 1 = 1 := by
  have h : (t &&& 1).toBitVec.toNat = t.toBitVec.toNat % 2 := by
    rw [Int32.toBitVec_and]
    show (t.toBitVec &&& 1#32).toNat = _
    rw [BitVec.toNat_and]
    show t.toBitVec.toNat &&& 1 = _
    rw [Nat.and_one_is_mod]
  rcases Nat.mod_two_eq_zero_or_one t.toBitVec.toNat with e | e
  · left
    exact Int32.toBitVec_inj.mp (BitVec.eq_of_toNat_eq (by rw [h, e]; rfl))
  · right
    exact Int32.toBitVec_inj.mp (BitVec.eq_of_toNat_eq (by rw [h, e]; rfl))
theorem bitV {t : Int32} {c : Nat} (h : c < 32) : (t >>> (iI (c : Int) &&& 31)) &&& 1 = if bt1 t c = true then 1 else 0 := by
  by_cases e : bt1 t c = true
  · rw [if_pos e]
    rcases and1 (t >>> (iI (c : Int) &&& 31)) with q | q
    · rw [(bitZ h).mp q] at e; exact absurd e (by decide)
    · exact q
  · rw [if_neg e]
    exact (bitZ h).mpr (by simpa using e)
theorem m_lefts {τ : St} {T : Td} (p1 b : Int32) (hT : TdOk T) (hM : TdM 0 τ T) : ∃ G, lp (fun v : (Int32 × St) => x_X10_round_L46 p1 b v.1 v.2) FU (0, τ) = some (iI (tL T), sA τ 26 G) ∧ ∀ k, k < tL T → G k = if bt1 b k = true then 1 else 0 := by
  have hL6 := hT.2.2.1
  have key := lp_inv (f := fun v : (Int32 × St) => x_X10_round_L46 p1 b v.1 v.2) (fun i x => ∃ G, x = (iI (i : Nat), sA τ 26 G) ∧ ∀ k, k < i → G k = if bt1 b k = true then 1 else 0) (fun x => ∃ G, x = (iI (tL T), sA τ 26 G) ∧ ∀ k, k < tL T → G k = if bt1 b k = true then 1 else 0) (tL T) FU (by unfold FU; omega) (fun i x hi hg => ?_) (fun x hg => ?_) (0, τ) ⟨gA τ 26, by rw [sA_gA]; rfl, fun k hk => absurd hk (by omega)⟩
  · obtain ⟨x2, e2, G, rfl, hG⟩ := key
    exact ⟨G, e2, hG⟩
  · obtain ⟨G, rfl, hG⟩ := hg
    refine ⟨(iI ((i + 1 : Nat) : Int), sA τ 26 (upd G i (if bt1 b i = true then 1 else 0))), ?_, _, rfl, fun k hk => ?_⟩
    · show x_X10_round_L46 p1 b (iI (i : Int)) (sA τ 26 G) = _
      unfold x_X10_round_L46
      rw [show gI (sA τ 26 G) 10 = iI (tL T) from hM.2.2.1]
      simp (disch := omega) only [iI_leD]
      rw [if_neg (by omega), stI_in (show i < lenM 26 from (show i < 6 by omega)) (by decide), bd_some, qa1, gA_sA, sA_sA, bitV (by omega)]
      rfl
    · unfold upd
      by_cases e : k = i
      · rw [if_pos e, e]
      · rw [if_neg e]; exact hG k (by omega)
  · obtain ⟨G, rfl, hG⟩ := hg
    refine ⟨(iI (tL T), sA τ 26 G), ?_, G, rfl, hG⟩
    show x_X10_round_L46 p1 b _ _ = _
    unfold x_X10_round_L46
    rw [show gI (sA τ 26 G) 10 = iI (tL T) from hM.2.2.1, if_pos (Int32.le_refl _)]
theorem sum_small {f : Nat → Int32} : ∀ n, (∀ k, k < n → ∃ w : Nat, w ≤ 3600 ∧ f k = iI w) → ∃ w : Nat, w ≤ 3600 * n ∧ sumF f n = iI w := by
  intro n
  induction n with
  | zero => intro _; exact ⟨0, by omega, rfl⟩
  | succ n ih =>
    intro h
    obtain ⟨a, a1, a2⟩ := ih (fun k hk => h k (by omega))
    obtain ⟨b, b1, b2⟩ := h n (by omega)
    refine ⟨a + b, by omega, ?_⟩
    show sumF f n + f n = _
    rw [a2, b2, iI_add]
    rfl
/-- what a blind day leaves of both -/
def FrR (σ σ2 : St) : Prop := (∀ k, k ≤ 10 → gI σ2 k = gI σ k) ∧ (∀ j, j ≤ 30 ∨ j = 35 → gA σ2 j = gA σ j)
def FrS (τ τ2 : St) : Prop := (∀ k, ¬ (k = 16 ∨ k = 17 ∨ k = 18 ∨ k = 20 ∨ k = 21) → gI τ2 k = gI τ k) ∧ (∀ j, ¬ (j = 7 ∨ j = 16 ∨ j = 17 ∨ (19 ≤ j ∧ j ≤ 27)) → gA τ2 j = gA τ j)
theorem FrS.rfl {σ : St} : FrS σ σ := ⟨fun _ _ => Eq.refl _, fun _ _ => Eq.refl _⟩
theorem FrR.trans {a b c : St} (h : FrR a b) (k : FrR b c) : FrR a c := ⟨fun i h1 => (k.1 i h1).trans (h.1 i h1), fun j hj => (k.2 j hj).trans (h.2 j hj)⟩
theorem FrS.trans {a b c : St} (h : FrS a b) (k : FrS b c) : FrS a c := ⟨fun i h1 => (k.1 i h1).trans (h.1 i h1), fun j hj => (k.2 j hj).trans (h.2 j hj)⟩
theorem FrE.s {a b : St} (h : FrE a b) : FrS a b := ⟨fun k hk => h.1 k (by omega), fun j hj => h.2 j (by omega)⟩
theorem FrS.sI {σ : St} {k : Nat} {v : Int32} (h : k = 16 ∨ k = 17 ∨ k = 18 ∨ k = 20 ∨ k = 21) : FrS σ (sI σ k v) := ⟨fun i h1 => gI_sIn _ (by omega) _, fun _ _ => Eq.refl _⟩
theorem FrS.sA {σ : St} {j : Nat} {f : Nat → Int32} (h : j = 7 ∨ j = 16 ∨ j = 17 ∨ (19 ≤ j ∧ j ≤ 27)) : FrS σ (sA σ j f) := ⟨fun _ _ => Eq.refl _, fun i hi => gA_sAn _ (by omega) _⟩
theorem TdM.frs {σ σ2 : St} {T : Td} (h : TdM 0 σ T) (e : FrS σ σ2) : TdM 0 σ2 T := h.eq (fun k _ _ => e.1 k (by omega)) (fun j _ _ => e.2 j (by omega))
/-- behind i blind days -/
def RdG (T : Td) (s : Sk) (σ τ : St) (i : Nat) (v : Int32 × Int32 × Int32 × St) (w : Int32 × St) : Prop :=
  ∃ (b f : Int32) (σi τi : St), v = (b, f, iI i, σi) ∧ w = (iI i, τi) ∧ FrR σ σi ∧ FrS τ τi ∧ SkM τi (tS T) s ∧ ((i = 0 ∧ f = -1 ∧ gI τi 20 = -1) ∨ (0 < i ∧ gI τi 20 = b ∧ gI τi 21 = f ∧ ∃ m w : Nat, m < 64 ∧ w < 30000 ∧ b = iI m ∧ f = iI w))
theorem both_blind {σ τ : St} {T : Td} {s : Sk} {i : Nat} {v : Int32 × Int32 × Int32 × St} {w : Int32 × St} (p1 : Int32) (hT : TdOk T) (hs : SkOk (tC T) (tS T) s) (hC : TdC 0 σ T) (hM : TdM 0 τ T) (hSC : SkC σ 0 s) (h19 : gI τ 19 = 1) (hi : i < 2 ^ tL T) (hg : RdG T s σ τ i v w) :
    ∃ v2 w2, x_X9_round_L25 p1 v.1 v.2.1 v.2.2.1 v.2.2.2 = some (true, v2) ∧ x_X10_round_L34 p1 w.1 w.2 = some (true, w2) ∧ RdG T s σ τ (i + 1) v2 w2 := by
  have hL6 := hT.2.2.1
  have hp : (2 : Nat) ^ tL T ≤ 64 := Nat.pow_le_pow_right (n := 2) (by omega) hL6
  obtain ⟨b, f, σi, τi, rfl, rfl, fr, fs, hSM, hbest⟩ := hg
  have hCi : TdC 0 σi T := hC.eq (fun k _ _ => fr.1 k (by omega)) (fun j _ _ => fr.2 j (by omega))
  have hSCi : SkC σi 0 s := hSC.eq (fun j _ _ => fr.2 j (by omega))
  have hMi : TdM 0 τi T := hM.frs fs
  obtain ⟨G, g1, g2⟩ := m_lefts p1 (iI i) hT hMi
  have f26 : FrS τi (sA τi 26 G) := FrS.sA (by omega)
  have hSM2 : SkM (sA τi 26 G) (tS T) s := hSM.eq (fun j _ => gA_sAn _ (by omega) _)
  have i19 : gI (sA τi 26 G) 19 = 1 := by
    show gI τi 19 = 1
    rw [fs.1 19 (by omega)]; exact h19
  obtain ⟨σ2, τ2, s2, pos2, k1, k2, hday, fd, fe, hss, hw⟩ := both_go (lf := fun k => bt1 (iI i) k) 0 (iI i) 1 hT hCi (hMi.frs f26) hs hSCi hSM2 (fun k hk => ⟨c_hasBit (by omega), by rw [gA_sA]; exact g2 k hk⟩) (Or.inr ⟨rfl, i19⟩)
  obtain rfl := hss i19
  have fr2 : FrR σi σ2 := ⟨fun k hk => by rw [fd.1 k (by omega), gI_sIn _ (by omega), gI_sIn _ (by omega), gI_sIn _ (by omega)], fun j hj => by rw [fd.2 j (by omega)]; rfl⟩
  have fs2 : FrS τi τ2 := f26.trans fe.s
  have hM2 : TdM 0 τ2 T := hMi.frs fs2
  have hSM3 : SkM τ2 (tS T) s2 := hday.1.2.2.2.2.1
  obtain ⟨W, w1, w2⟩ := sum_small (tL T) hw
  have sum2 : x_X2_sum 38 σ2 = some (iI W) := by
    rw [f_sum, sumF_cut (a := tL T) (lenN 38) (show tL T ≤ 6 from hL6) (fun k a c => hday.2.2.1 k a c), sumF_eq _ (fun k hk => (hday.2.1 k hk).2.2.2.2.2.1), w2]
  have tot2 : ∀ τq, TdM 0 τq T → gA τq 24 = gA τ2 24 → x_X10_total 24 τq = some (iI W) := fun τq q1 q2 => by
    rw [m_total hT q1 (by decide), q2, w2]
  have d20 : gI τ2 20 = gI τi 20 := by rw [fe.1 20 (by omega)]; rfl
  have d21 : gI τ2 21 = gI τi 21 := by rw [fe.1 21 (by omega)]; rfl
  have ec : x_X9_round_L25 p1 b f (iI i) σi = x_X9_round_L25 p1 b f (iI i) σi := rfl
  have em : x_X10_round_L34 p1 (iI i) τi = x_X10_round_L34 p1 (iI i) τi := rfl
  conv at ec => rhs; unfold x_X9_round_L25
  conv at em => rhs; unfold x_X10_round_L34
  rw [show gI σi 2 = iI (tL T) from hCi.2.2.1, shl1 (by omega), r_le (by omega) (by omega) (by omega) (by omega), if_neg (by omega), k1, bd_some, sum2, bd_some, qa1] at ec
  rw [show gI τi 10 = iI (tL T) from hMi.2.2.1, shl1 (by omega), r_le (by omega) (by omega) (by omega) (by omega), if_neg (by omega), g1, bd2_some, k2, bd_some, tot2 τ2 hM2 rfl, bd_some, d20, d21, qa1] at em
  have hM20 : TdM 0 (sI τ2 20 (iI i)) T := hM2.frs (FrS.sI (by omega))
  have enew : x_X10_round_b34_102 p1 (iI i) τ2 = some (true, (iI ((i : Int) + 1), sI (sI τ2 20 (iI i)) 21 (iI W))) := by
    unfold x_X10_round_b34_102
    rw [bd_some, tot2 _ hM20 rfl, bd_some, bd_some, qa1]
  rw [enew] at em
  have new : RdG T s2 σ τ (i + 1) (iI i, iI W, iI ((i : Int) + 1), σ2) (iI ((i : Int) + 1), sI (sI τ2 20 (iI i)) 21 (iI W)) := by
    refine ⟨_, _, σ2, _, rfl, rfl, fr.trans fr2, (fs.trans fs2).trans ((FrS.sI (by omega)).trans (FrS.sI (by omega))), hSM3.eq (fun _ _ => rfl), Or.inr ⟨by omega, ?_, ?_, i, W, by omega, by omega, rfl, rfl⟩⟩
    · rw [gI_sIn _ (by omega), gI_sI]
    · rw [gI_sI]
  rcases hbest with ⟨rfl, rfl, q20⟩ | ⟨hi0, rfl, rfl, m, w, m1, v1, m2, v2⟩
  · rw [if_pos rfl] at ec
    rw [q20, if_pos rfl] at em
    exact ⟨_, _, ec, em, new⟩
  · rw [m2, if_neg (show ¬ iI (m : Int) = -1 by rw [qeM (by omega) (by omega)]; omega)] at em
    rw [if_neg (show ¬ gI τi 21 = -1 by rw [v2, qeM (by omega) (by omega)]; omega)] at ec
    by_cases c : gI τi 21 ≤ iI W
    · rw [if_pos c] at ec
      rw [if_neg (Int32.not_lt.mpr c)] at em
      exact ⟨_, _, ec, em, gI τi 20, gI τi 21, σ2, τ2, rfl, rfl, fr.trans fr2, fs.trans fs2, hSM3, Or.inr ⟨by omega, d20, d21, m, w, m1, v1, m2, v2⟩⟩
    · rw [if_neg c] at ec
      rw [if_pos (Int32.not_le.mp c)] at em
      exact ⟨_, _, ec, em, new⟩
theorem op_round {σ τ : St} (h : Inv σ τ) (p1 : Int32) : StT [(3, 1)] (x_X9_round p1 σ) (x_X10_round p1 τ) := by
  obtain ⟨T, s, n, ims, h⟩ := h
  obtain ⟨z, hz, rfl⟩ := ex_iI p1
  obtain ⟨τ1, e1, h0, h1⟩ := h.st
  have hi : Inv σ τ1 := ⟨T, s, n, ims, h1⟩
  have hh := h1
  obtain ⟨hT, hs, hC, hM, hSC, hSM, hB, hI, hb⟩ := hh
  have hC8 := hT.1
  have hS24 := hT.2.1
  have hL6 := hT.2.2.1
  obtain ⟨z1, z2⟩ := hz
  have hp : (2 : Nat) ^ tL T ≤ 64 := Nat.pow_le_pow_right (n := 2) (by omega) hL6
  have hp1 : 1 ≤ (2 : Nat) ^ tL T := Nat.one_le_two_pow
  have ex : x_X10_round (iI z) τ = x_X10_round (iI z) τ := rfl
  have ec : x_X9_round (iI z) σ = x_X9_round (iI z) σ := rfl
  conv at ex => rhs; unfold x_X10_round
  conv at ec => rhs; unfold x_X9_round x_X9_round_b10 x_X9_round_b15
  rw [bd_some, e1, m_wn 0 1 0 1 rfl rfl ⟨z1, z2⟩ ⟨by omega, by omega⟩ ⟨by omega, by omega⟩, bd_some] at ex
  simp (disch := omega) only [qe0, qe1] at ec ex
  by_cases e : 0 ≤ z ∧ z ≤ 1
  · rw [if_pos e, m_may1 h0 (by decide), bd2_some, if_neg (by decide), bd_some, bd_some] at ex
    rw [c_need1 (by decide), bt_inl] at ec
    have hMa : TdM 0 (sI (sI τ1 19 1) 20 (-1)) T := hM.eq (fun k _ _ => by rw [gI_sIn _ (by omega), gI_sIn _ (by omega)]) (fun _ _ _ => rfl)
    have hSMa : SkM (sI (sI τ1 19 1) 20 (-1)) (tS T) s := hSM.eq (fun _ _ => rfl)
    have a19 : gI (sI (sI τ1 19 1) 20 (-1)) 19 = 1 := by rw [gI_sIn _ (by omega), gI_sI]
    have a20 : gI (sI (sI τ1 19 1) 20 (-1)) 20 = -1 := gI_sI _ _ _
    have aI : ∀ k, ¬ (k = 19 ∨ k = 20) → gI (sI (sI τ1 19 1) 20 (-1)) k = gI τ1 k := fun k hk => by rw [gI_sIn _ (by omega), gI_sIn _ (by omega)]
    have aA : ∀ j, gA (sI (sI τ1 19 1) 20 (-1)) j = gA τ1 j := fun _ => rfl
    generalize sI (sI τ1 19 1) 20 (-1) = τa at *
    have key := lp2_inv (f := fun v : (Int32 × Int32 × Int32 × St) => x_X9_round_L25 (iI z) v.1 v.2.1 v.2.2.1 v.2.2.2) (g := fun v : (Int32 × St) => x_X10_round_L34 (iI z) v.1 v.2)
      (fun i v w => RdG T s σ τa i v w) (fun v w => RdG T s σ τa (2 ^ tL T) v w) (2 ^ tL T) FU FU (by unfold FU; omega) (by unfold FU; omega) (fun i v w hi hg => both_blind (iI z) hT hs hC hMa hSC a19 hi hg) (fun v w hg => ?_) (0, -1, 0, σ) (0, τa) ⟨0, -1, σ, τa, rfl, rfl, ⟨fun _ _ => rfl, fun _ _ => rfl⟩, FrS.rfl, hSMa, Or.inl ⟨rfl, rfl, a20⟩⟩
    · obtain ⟨v2, w2, k1, k2, b, f, σi, τi, rfl, rfl, fr, fs, hSMi, hbest⟩ := key
      rw [k1, bd4_some] at ec
      rw [k2, bd2_some, bd_some] at ex
      have hbest : gI τi 20 = b ∧ gI τi 21 = f := by
        rcases hbest with ⟨q, _⟩ | ⟨_, q1, q2, _⟩
        · omega
        · exact ⟨q1, q2⟩
      have hq : ¬ (z = 0) → z = 1 := by omega
      have hinv : InvX T s n ims σi (sI τi 19 0) := by
        refine h1.stock hs (hSC.eq (fun j _ _ => fr.2 j (by omega))) (hSMi.eq (fun _ _ => rfl)) (fun k hk => fr.1 k hk) (fun j hj => fr.2 j (by omega)) (fun k hk => ?_) (fun j hj => ?_)
        · by_cases c : k = 19
          · rw [c, gI_sI, hb]
          · rw [gI_sIn _ c, fs.1 k (by omega), aI k (by omega)]
        · show gA τi j = _
          rw [fs.2 j (by omega), aA]
      have hz0 : gI (sI τi 19 0) 0 = 0 := by rw [gI_sIn _ (by omega), fs.1 0 (by omega), aI 0 (by omega)]; exact h0
      rw [gI_sIn _ (show 20 ≠ 19 by omega), gI_sIn _ (show 21 ≠ 19 by omega), hbest.1, hbest.2] at ex
      by_cases c : z = 0
      · rw [if_pos c] at ex
        rw [if_pos c, if_pos c] at ec
        exact StT.inl ec ex hz0 ⟨T, s, n, ims, hinv⟩
      · rw [if_neg c] at ex
        rw [if_neg c, if_pos (hq c), if_neg c] at ec
        exact StT.inl ec ex hz0 ⟨T, s, n, ims, hinv⟩
    · obtain ⟨b, f, σi, τi, rfl, rfl, fr, fs, hSMi, hbest⟩ := hg
      have hCi : gI σi 2 = iI (tL T) := (fr.1 2 (by omega)).trans hC.2.2.1
      have hMi : gI τi 10 = iI (tL T) := (fs.1 10 (by omega)).trans hMa.2.2.1
      refine ⟨(b, f, iI ((2 ^ tL T : Nat) : Int), σi), (iI ((2 ^ tL T : Nat) : Int), τi), ?_, ?_, b, f, σi, τi, rfl, rfl, fr, fs, hSMi, hbest⟩
      · show x_X9_round_L25 (iI z) b f (iI ((2 ^ tL T : Nat) : Int)) σi = _
        unfold x_X9_round_L25
        rw [hCi, shl1 (by omega), if_pos (Int32.le_refl _)]
      · show x_X10_round_L34 (iI z) (iI ((2 ^ tL T : Nat) : Int)) τi = _
        unfold x_X10_round_L34
        rw [hMi, shl1 (by omega), if_pos (Int32.le_refl _)]
  · rw [if_neg e, show x_X10_may 0 1 2 τ1 = some (0, refM τ1 1 2) from m_may0 (k := 2) h0 (by decide) (by omega), bd2_some, if_pos rfl] at ex
    rw [if_neg (by omega), if_neg (by omega), c_need0, bt_inr] at ec
    exact StT.ref h1 ec ex List.mem_cons_self
