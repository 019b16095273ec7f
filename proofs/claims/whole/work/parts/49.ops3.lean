/-! the calls, one by one: those that lay, change, wander, sort -/
/-- two loops side by side -/
theorem lp2_inv {V X : Type} {f : V → Option (Bool × V)} {g : X → Option (Bool × X)} (G : Nat → V → X → Prop) (K : V → X → Prop) (n N M : Nat) (hN : n < N) (hM : n < M)
    (step : ∀ i v x, i < n → G i v x → ∃ v2 x2, f v = some (true, v2) ∧ g x = some (true, x2) ∧ G (i + 1) v2 x2) (fin : ∀ v x, G n v x → ∃ v2 x2, f v = some (false, v2) ∧ g x = some (false, x2) ∧ K v2 x2) : ∀ v x, G 0 v x → ∃ v2 x2, lp f N v = some v2 ∧ lp g M x = some x2 ∧ K v2 x2 := by
  have key : ∀ (d N M i : Nat) (v : V) (x : X), i + d = n → d < N → d < M → G i v x → ∃ v2 x2, lp f N v = some v2 ∧ lp g M x = some x2 ∧ K v2 x2 := by
    intro d
    induction d with
    | zero =>
      intro N M i v x hi hN hM hg
      obtain ⟨N, rfl⟩ : ∃ m, N = m + 1 := ⟨N - 1, by omega⟩
      obtain ⟨M, rfl⟩ : ∃ m, M = m + 1 := ⟨M - 1, by omega⟩
      obtain rfl : i = n := by omega
      obtain ⟨v2, x2, h1, h2, h3⟩ := fin v x hg
      refine ⟨v2, x2, ?_, ?_, h3⟩
      · show (match f v with | none => none | some (true, w) => lp f N w | some (false, w) => some w) = _
        rw [h1]
      · show (match g x with | none => none | some (true, w) => lp g M w | some (false, w) => some w) = _
        rw [h2]
    | succ d ih =>
      intro N M i v x hi hN hM hg
      obtain ⟨N, rfl⟩ : ∃ m, N = m + 1 := ⟨N - 1, by omega⟩
      obtain ⟨M, rfl⟩ : ∃ m, M = m + 1 := ⟨M - 1, by omega⟩
      obtain ⟨v2, x2, h1, h2, h3⟩ := step i v x (by omega) hg
      obtain ⟨v3, x3, k1, k2, k3⟩ := ih N M (i + 1) v2 x2 (by omega) (by omega) (by omega) h3
      refine ⟨v3, x3, ?_, ?_, k3⟩
      · show (match f v with | none => none | some (true, w) => lp f N w | some (false, w) => some w) = _
        rw [h1]; exact k1
      · show (match g x with | none => none | some (true, w) => lp g M w | some (false, w) => some w) = _
        rw [h2]; exact k2
  exact fun v x hg => key n N M 0 v x (by omega) hN hM hg
theorem InvX.mv {T : Td} {s s2 : Sk} {n : Nat} {ims : List Sk} {σ τ σ2 τ2 : St} (h : InvX T s n ims σ τ) (hs : SkOk (tC T) (tS T) s2) (hc : SkC σ2 0 s2) (hm : SkM τ2 (tS T) s2) (hF : SkF 0 σ σ2) (hR : RwF τ τ2) : InvX T s2 n ims σ2 τ2 :=
  h.stock hs hc hm (fun k _ => hF.1 k) (fun j hj => hF.2.1 j (by omega)) (fun k _ => hR.1 k) (fun j hj => hR.2.1 j (by omega))
/-- both lay a sleeve behind all of a crate -/
theorem both_move {T : Td} {s : Sk} {n : Nat} {ims : List Sk} {σ τ : St} (h : InvX T s n ims σ τ) {k c : Nat} (hk : k < tS T) (hl : skW s k ≠ -1) (hc : c < tC T) :
    ∃ p σ2 τ1 τ2, p < 24 ∧ skL s p = k ∧ x_X5_putBehind 0 (iI k) (iI c) σ = some σ2 ∧ x_X10_goesOut (iI k) τ = some τ1 ∧ x_X10_comesTo (iI c) (iI k) τ1 = some τ2 ∧ SkF 0 σ σ2 ∧ RwF τ τ1 ∧ RwF τ τ2 ∧ InvX T (putSk s p k c) n ims σ2 τ2 := by
  have hh := h
  obtain ⟨hT, hs, hC, hM, hSC, hSM, hB, hI, hb⟩ := hh
  have hC8 := hT.1
  have hS24 := hT.2.1
  obtain ⟨p, F, G, hp, hpk, h1, h2⟩ := c_putBehind (t := 0) (by omega) hSC hs (k := k) (by omega) c
  obtain ⟨τ1, τ2, k1, k2, k3, k4, k5⟩ := m_move hSM hs hC8 hS24 hk hl hp hpk (c := c) (by omega)
  have hF : SkF 0 σ (sA (sA σ (15 + 4 * 0 + 1) F) (15 + 4 * 0) G) := (SkF.sA (by omega)).trans (SkF.sA (by omega))
  have hok : SkOk (tC T) (tS T) (putSk s p k c) := by
    rw [← hpk]; exact hs.put hp hc (by omega)
  exact ⟨p, _, τ1, τ2, hp, hpk, h1, k1, k2, hF, k3, k4, h.mv hok h2 k5 hF k4⟩
theorem op_lay {σ τ : St} (h : Inv σ τ) (p1 p2 : Int32) : StT [(1, 1), (2, 2), (4, 3)] (x_X9_lay p1 p2 σ) (x_X10_lay p1 p2 τ) := by
  obtain ⟨T, s, n, ims, h⟩ := h
  obtain ⟨z, hz, rfl⟩ := ex_iI p1
  obtain ⟨y, hy, rfl⟩ := ex_iI p2
  obtain ⟨τ1, e1, h0, h1⟩ := h.st
  have hi : Inv σ τ1 := ⟨T, s, n, ims, h1⟩
  have hh := h1
  obtain ⟨hT, hs, hC, hM, hSC, hSM, hB, hI, hb⟩ := hh
  have hC8 := hT.1
  have hS24 := hT.2.1
  have hL6 := hT.2.2.1
  have ex : x_X10_lay (iI z) (iI y) τ = x_X10_lay (iI z) (iI y) τ := rfl
  have ec : x_X9_lay (iI z) (iI y) σ = x_X9_lay (iI z) (iI y) σ := rfl
  conv at ex => rhs; unfold x_X10_lay x_X10_lay_b39
  conv at ec => rhs; unfold x_X9_lay
  rw [bd_some, e1, m_isCrate hM hT h0 hy (by decide)] at ex
  rw [c_needCrate hC hT hy] at ec
  by_cases e : 0 ≤ y ∧ y < tC T
  · rw [if_pos e, bd2_some, if_neg (by decide), m_isSleeve hM hT h0 hz (by decide)] at ex
    rw [if_pos e, bt_inl, c_needSleeve hC hT hz] at ec
    obtain ⟨c, rfl⟩ := Int.eq_ofNat_of_zero_le e.1
    have hc : c < tC T := by omega
    by_cases e2 : 0 ≤ z ∧ z < tS T
    · obtain ⟨k, rfl⟩ := Int.eq_ofNat_of_zero_le e2.1
      have hk : k < tS T := by omega
      have hw := hs.wb hC8 (k := k) (by omega)
      rw [if_pos e2, bd2_some, if_neg (by decide), m_lies hSM hS24 hk, bd_some] at ex
      rw [if_pos e2, bt_inl, c_needLying hSC hs hT hk] at ec
      simp (disch := omega) only [qeM] at ex
      by_cases e3 : skW s k = -1
      · rw [if_pos e3, show x_X10_may 0 3 3 τ1 = some (0, refM τ1 3 3) from m_may0 (k := 3) h0 (by decide) (by omega), bd2_some, if_pos rfl] at ex
        rw [if_pos e3, bt_inr] at ec
        exact StT.ref h1 ec ex (by decide)
      · obtain ⟨p, σ2, τ2, τ3, hp, hpk, k1, k2, k3, k4, k5, k6, k7⟩ := both_move h1 hk e3 hc
        rw [if_neg e3, m_may1 h0 (by decide), bd2_some, if_neg (by decide), m_lies hSM hS24 hk, bd_some, k2, bd_some, k3, bd_some] at ex
        rw [if_neg e3, bt_inl, c_where (t := 0) (by omega) hSC (by omega), bd_some, k1, bd_some] at ec
        exact StT.inl ec ex ((k6.1 0).trans h0) ⟨T, _, n, ims, k7⟩
    · rw [if_neg e2, bd2_some, if_pos rfl] at ex
      rw [if_neg e2, bt_inr] at ec
      exact StT.ref h1 ec ex (by decide)
  · rw [if_neg e, bd2_some, if_pos rfl] at ex
    rw [if_neg e, bt_inr] at ec
    exact StT.ref h1 ec ex (by decide)
theorem op_sort {σ τ : St} (h : Inv σ τ) : StN (x_X9_sort σ) (x_X10_sort τ) := by
  obtain ⟨T, s, n, ims, h⟩ := h
  obtain ⟨τ1, e1, h0, h1⟩ := h.st
  have hi : Inv σ τ1 := ⟨T, s, n, ims, h1⟩
  have hh := h1
  obtain ⟨hT, hs, hC, hM, hSC, hSM, hB, hI, hb⟩ := hh
  have hC8 := hT.1
  have hS24 := hT.2.1
  have hL6 := hT.2.2.1
  have key := lp2_inv (f := fun v : (Int32 × Int32 × St) => x_X9_sort_L4 v.1 v.2.1 v.2.2) (g := fun v : (Int32 × Int32 × St) => x_X10_sort_L9 v.1 v.2.1 v.2.2)
    (fun i v x => ∃ (u : Nat) (s2 : Sk) (σ2 τ2 : St), v = (iI u, iI ((i : Nat) : Int), σ2) ∧ x = (iI u, iI ((i : Nat) : Int), τ2) ∧ InvX T s2 n ims σ2 τ2)
    (fun v x => ∃ (u : Nat) (s2 : Sk) (σ2 τ2 : St) (q : Int32), v = (iI u, q, σ2) ∧ x = (iI u, q, τ2) ∧ InvX T s2 n ims σ2 τ2) (tS T) FU FU (by unfold FU; omega) (by unfold FU; omega) (fun i v x hi hg => ?_) (fun v x hg => ?_) (iI ((0 : Nat) : Int), iI ((0 : Nat) : Int), σ) (iI ((0 : Nat) : Int), iI ((0 : Nat) : Int), τ1) ⟨0, s, σ, τ1, rfl, rfl, h1⟩
  · obtain ⟨v2, x2, k1, k2, u, s2, σ2, τ2, q, rfl, rfl, k3⟩ := key
    refine ⟨iI u, σ2, τ2, ?_, ?_, T, s2, n, ims, k3⟩
    · unfold x_X9_sort
      show bd3 (lp _ FU (iI ((0 : Nat) : Int), iI ((0 : Nat) : Int), σ)) _ = _
      rw [k1]; rfl
    · unfold x_X10_sort
      rw [bd_some, e1]
      show bd3 (lp _ FU (iI ((0 : Nat) : Int), iI ((0 : Nat) : Int), τ1)) _ = _
      rw [k2]; rfl
  · obtain ⟨u, s2, σ2, τ2, rfl, rfl, hg⟩ := hg
    have hg2 := hg
    obtain ⟨-, hs2, hC2, hM2, hSC2, hSM2, -, -, -⟩ := hg2
    have hw := hs2.wb hC8 (k := i) (by omega)
    have ho := tOwn_lt hT hi
    have hle := offN_le hT hs2 hi
    unfold x_X9_sort_L4 x_X10_sort_L9
    rw [show gI σ2 1 = iI (tS T) from hC2.2.1, show gI τ2 9 = iI (tS T) from hM2.2.1]
    simp (disch := omega) only [iI_leD]
    rw [if_neg (by omega), if_neg (by omega), c_offOwn (by omega) hSC2 hs2 hT hC2 hi, bd_some, m_lies hSM2 hS24 hi, bd_some, bd_some, m_own hM2 hT hi, bd_some]
    simp (disch := omega) only [qeM, iI_eqD, qm0, qa1]
    by_cases e3 : skW s2 i = -1
    · rw [if_pos e3, if_pos (show ((offN T s2 i : Nat) : Int) ≤ 0 by unfold offN; rw [if_pos e3]; omega)]
      exact ⟨_, _, rfl, rfl, u, s2, σ2, τ2, rfl, rfl, hg⟩
    · by_cases e4 : skW s2 i = (tOwn T i : Int)
      · rw [if_neg e3, if_pos e4, if_pos (show ((offN T s2 i : Nat) : Int) ≤ 0 by unfold offN; rw [if_neg e3, e4]; omega)]
        exact ⟨_, _, rfl, rfl, u, s2, σ2, τ2, rfl, rfl, hg⟩
      · obtain ⟨p, σ3, τ3, τ4, hp, hpk, k1, k2, k3, k4, k5, k6, k7⟩ := both_move hg hi e3 ho
        have hM3 : TdM 0 τ3 T := hM2.eq (fun k _ _ => k5.1 k) (fun j _ _ => k5.2.1 j (by omega))
        rw [if_neg e3, if_neg e4, if_neg (show ¬ ((offN T s2 i : Nat) : Int) ≤ 0 by unfold offN; rw [if_neg e3]; omega), c_own (by omega) hC2 hT hi, bd_some, k1, bd_some, k2, bd_some, m_own hM3 hT hi, bd_some, k3, bd_some]
        exact ⟨_, _, rfl, rfl, u + 1, _, σ3, τ4, rfl, rfl, k7⟩
  · obtain ⟨u, s2, σ2, τ2, rfl, rfl, hg⟩ := hg
    have hg2 := hg
    obtain ⟨-, hs2, hC2, hM2, hSC2, hSM2, -, -, -⟩ := hg2
    unfold x_X9_sort_L4 x_X10_sort_L9
    rw [show gI σ2 1 = iI (tS T) from hC2.2.1, show gI τ2 9 = iI (tS T) from hM2.2.1]
    simp (disch := omega) only [iI_leD]
    rw [if_pos (by omega), if_pos (by omega)]
    exact ⟨_, _, rfl, rfl, u, s2, σ2, τ2, _, rfl, rfl, hg⟩
theorem op_change {σ τ : St} (h : Inv σ τ) (p1 p2 : Int32) : StT [(2, 1), (3, 2)] (x_X9_change p1 p2 σ) (x_X10_change p1 p2 τ) := by
  obtain ⟨T, s, n, ims, h⟩ := h
  obtain ⟨z, hz, rfl⟩ := ex_iI p1
  obtain ⟨y, hy, rfl⟩ := ex_iI p2
  obtain ⟨τ1, e1, h0, h1⟩ := h.st
  have hi : Inv σ τ1 := ⟨T, s, n, ims, h1⟩
  have hh := h1
  obtain ⟨hT, hs, hC, hM, hSC, hSM, hB, hI, hb⟩ := hh
  have hC8 := hT.1
  have hS24 := hT.2.1
  have hL6 := hT.2.2.1
  have ex : x_X10_change (iI z) (iI y) τ = x_X10_change (iI z) (iI y) τ := rfl
  have ec : x_X9_change (iI z) (iI y) σ = x_X9_change (iI z) (iI y) σ := rfl
  conv at ex => rhs; unfold x_X10_change x_X10_change_b34
  conv at ec => rhs; unfold x_X9_change x_X9_change_b21
  rw [bd_some, e1, m_isSleeve hM hT h0 hz (by decide)] at ex
  rw [c_needSleeve hC hT hz] at ec
  by_cases e : 0 ≤ z ∧ z < tS T
  · rw [if_pos e, bd2_some, if_neg (by decide), m_isSleeve hM hT h0 hy (by decide)] at ex
    rw [if_pos e, bt_inl, c_needSleeve hC hT hy] at ec
    obtain ⟨k, rfl⟩ := Int.eq_ofNat_of_zero_le e.1
    have hk : k < tS T := by omega
    by_cases e2 : 0 ≤ y ∧ y < tS T
    · obtain ⟨o, rfl⟩ := Int.eq_ofNat_of_zero_le e2.1
      have ho : o < tS T := by omega
      rw [if_pos e2, bd2_some, if_neg (by decide)] at ex
      rw [if_pos e2, bt_inl] at ec
      simp (disch := omega) only [iI_eqD] at ex ec
      by_cases e3 : (k : Int) = o
      · rw [if_pos e3, show x_X10_may 0 2 2 τ1 = some (0, refM τ1 2 2) from m_may0 (k := 2) h0 (by decide) (by omega), bd2_some, if_pos rfl] at ex
        rw [if_pos e3, c_need0, bt_inr] at ec
        exact StT.ref h1 ec ex (by decide)
      · have hdk := hs.2.2.2.1.1 k (by omega)
        have hdo := hs.2.2.2.1.1 o (by omega)
        have m1 : ∀ q, q < tS T → gA τ1 8 q = iI (skD s q) := hSM.2.2.1
        have c1 : ∀ q, q < 24 → gA σ 17 q = iI (skD s q) := hSC.2.2.1
        have w1 : ∀ q, q < tS T → upd (upd (gA τ1 8) k (iI (skD s o))) o (iI (skD s k)) q = iI (swapN (skD s) k o q) := by
          intro q hq
          unfold upd swapN
          split
          · rfl
          · split
            · rfl
            · exact m1 q hq
        have w2 : ∀ q, q < 24 → upd (upd (gA σ 17) k (iI (skD s o))) o (iI (skD s k)) q = iI (swapN (skD s) k o q) := by
          intro q hq
          unfold upd swapN
          split
          · rfl
          · split
            · rfl
            · exact c1 q hq
        have es : x_X10_swaps (iI k) (iI o) τ1 = some (sA τ1 8 (upd (upd (gA τ1 8) k (iI (skD s o))) o (iI (skD s k)))) := by
          unfold x_X10_swaps
          rw [ldI_in (show k < lenM 8 from (show k < 24 by omega)) (by decide), bd_some, ldI_in (show o < lenM 8 from (show o < 24 by omega)) (by decide), bd_some, stI_in (show k < lenM 8 from (show k < 24 by omega)) (by decide), bd_some, stI_in (show o < lenM 8 from (show o < 24 by omega)) (by decide), bd_some, gA_sA, sA_sA, m1 k hk, m1 o ho]
        rw [if_neg e3, m_may1 h0 (by decide), bd2_some, if_neg (by decide), es, bd_some, gA_sA, ldI_in (show k < lenM 8 from (show k < 24 by omega)) (by decide), bd_some, w1 k hk] at ex
        rw [if_neg e3, c_need1 (by decide), bt_inl, f_swap, bd_some, f_at, gA_sA, atF_in (show k < lenN 17 from (show k < 24 by omega)) (by decide), atF_in (show o < lenN 17 from (show o < 24 by omega)) (by decide), atF_in (show k < lenN 17 from (show k < 24 by omega)) (by decide), putF_in (show k < lenN 17 from (show k < 24 by omega)) (by decide), putF_in (show o < lenN 17 from (show o < 24 by omega)) (by decide), c1 k (by omega), c1 o (by omega), bd_some, w2 k (by omega)] at ec
        refine StT.inl ec ex ?_ ⟨T, (skW s, skL s, swapN (skD s) k o, skV s), n, ims, h1.stock ?_ ?_ ?_ (fun _ _ => rfl) (fun j hj => gA_sAn _ (by omega) _) (fun _ _ => rfl) (fun j hj => gA_sAn _ (by omega) _)⟩
        · rw [gI_sA]; exact h0
        · refine ⟨hs.1, hs.2.1, hs.2.2.1, hs.2.2.2.1.swap (by omega) (by omega), fun q h1 h2 => ?_, hs.2.2.2.2.2.1, hs.2.2.2.2.2.2⟩
          show swapN (skD s) k o q = q
          unfold swapN
          rw [if_neg (by omega), if_neg (by omega)]
          exact hs.2.2.2.2.1 q h1 h2
        · refine ⟨fun q hq => ?_, fun q hq => ?_, fun q hq => ?_, fun q hq => ?_⟩
          · rw [gA_sAn _ (by omega)]; exact hSC.1 q hq
          · rw [gA_sAn _ (by omega)]; exact hSC.2.1 q hq
          · rw [gA_sA]; exact w2 q hq
          · rw [gA_sAn _ (by omega)]; exact hSC.2.2.2 q hq
        · unfold SkM
          rw [gA_sAn _ (by omega), gA_sAn _ (by omega), gA_sAn _ (by omega), gA_sAn _ (by omega), gA_sA]
          exact ⟨hSM.1, hSM.2.1, w1, hSM.2.2.2⟩
    · rw [if_neg e2, bd2_some, if_pos rfl] at ex
      rw [if_neg e2, bt_inr] at ec
      exact StT.ref h1 ec ex (by decide)
  · rw [if_neg e, bd2_some, if_pos rfl] at ex
    rw [if_neg e, bt_inr] at ec
    exact StT.ref h1 ec ex (by decide)
