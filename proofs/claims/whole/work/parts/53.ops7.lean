/-! changes of discs -/
def plc (d : Nat → Nat) (k : Nat) : Nat := ((List.range 24).find? (fun p => decide (d p = k))).getD 0
theorem plc_eq {d : Nat → Nat} (h : Bij 24 d) {p : Nat} (hp : p < 24) : plc d (d p) = p := by
  unfold plc
  cases hf : (List.range 24).find? (fun q => decide (d q = d p)) with
  | none =>
    have := List.find?_eq_none.mp hf p (List.mem_range.mpr hp)
    simp at this
  | some q =>
    have h1 := List.find?_some hf
    have h2 := List.mem_range.mp (List.mem_of_find?_eq_some hf)
    exact h.2.1 q p h2 hp (by simpa using h1)
theorem plc_of {d : Nat → Nat} (h : Bij 24 d) {k : Nat} (hk : k < 24) : plc d k < 24 ∧ d (plc d k) = k := by
  obtain ⟨p, hp, rfl⟩ := h.2.2 k hk
  rw [plc_eq h hp]
  exact ⟨hp, rfl⟩
def dgS (d : Nat → Nat) : Nat → (Nat → Nat) × List Nat
  | 0 => (d, [])
  | i + 1 => if (dgS d i).1 i = i then dgS d i else (swapN (dgS d i).1 i (plc (dgS d i).1 i), (dgS d i).2 ++ [100 * i + plc (dgS d i).1 i])
theorem dgS_eq {d : Nat → Nat} {i : Nat} (e : (dgS d i).1 i = i) : dgS d (i + 1) = dgS d i := by
  show (if (dgS d i).1 i = i then dgS d i else _) = _
  rw [if_pos e]
theorem dgS_ne {d : Nat → Nat} {i : Nat} (e : ¬ (dgS d i).1 i = i) : dgS d (i + 1) = (swapN (dgS d i).1 i (plc (dgS d i).1 i), (dgS d i).2 ++ [100 * i + plc (dgS d i).1 i]) := by
  show (if (dgS d i).1 i = i then dgS d i else _) = _
  rw [if_neg e]
theorem dgS_ok {d : Nat → Nat} {nS : Nat} (hS : nS ≤ 24) (h : Bij 24 d) (hd : ∀ k, nS ≤ k → k < 24 → d k = k) : ∀ i, i ≤ 24 → Bij 24 (dgS d i).1 ∧ (∀ k, nS ≤ k → k < 24 → (dgS d i).1 k = k) ∧ (∀ k, k < i → (dgS d i).1 k = k) ∧ (dgS d i).2.length ≤ i := by
  intro i
  induction i with
  | zero => intro _; exact ⟨h, hd, fun k hk => absurd hk (by omega), Nat.le_refl _⟩
  | succ i ih =>
    intro hi
    obtain ⟨h1, h2, h3, h4⟩ := ih (by omega)
    by_cases e : (dgS d i).1 i = i
    · rw [dgS_eq e]
      refine ⟨h1, h2, fun k hk => ?_, by omega⟩
      by_cases e2 : k = i
      · rw [e2]; exact e
      · exact h3 k (by omega)
    · rw [dgS_ne e]
      obtain ⟨p1, p2⟩ := plc_of h1 (show i < 24 by omega)
      have hpi : plc (dgS d i).1 i ≠ i := fun q => e (by rw [q] at p2; exact p2)
      have hps : ¬ nS ≤ plc (dgS d i).1 i := fun q => by have := h2 _ q p1; omega
      have his : ¬ nS ≤ i := fun q => e (h2 i q (by omega))
      have hpl : ¬ plc (dgS d i).1 i < i := fun q => by have := h3 _ q; omega
      refine ⟨h1.swap (by omega) p1, fun k k1 k2 => ?_, fun k hk => ?_, ?_⟩
      · show swapN _ i _ k = k
        unfold swapN
        rw [if_neg (by omega), if_neg (by omega)]; exact h2 k k1 k2
      · show swapN _ i _ k = k
        unfold swapN
        by_cases e2 : k = i
        · rw [if_neg (by omega), if_pos e2, p2, e2]
        · rw [if_neg (by omega), if_neg e2]; exact h3 k (by omega)
      · show (_ ++ [_] : List Nat).length ≤ _
        rw [List.length_append, List.length_cons, List.length_nil]; omega
theorem dgS_end {d : Nat → Nat} {nS : Nat} (hS : nS ≤ 24) (h : Bij 24 d) (hd : ∀ k, nS ≤ k → k < 24 → d k = k) : ∀ i, nS ≤ i → i ≤ 24 → dgS d i = dgS d nS := by
  intro i hi
  induction i with
  | zero => intro _; rw [show nS = 0 from by omega]
  | succ i ih =>
    intro h24
    by_cases e : nS = i + 1
    · rw [e]
    · have h2 := (dgS_ok hS h hd i (by omega)).2.1 i (by omega) (by omega)
      rw [dgS_eq h2]
      exact ih (by omega) (by omega)
/-- what the class's list and the reference's hold -/
def ListC (σ : St) (L : List Nat) : Prop := ∀ q x : Nat, L[q]? = some x → gA σ 46 q = iI x
theorem c_list {σ : St} {s : Sk} {nC nS : Nat} (h : SkC σ 0 s) (hs : SkOk nC nS s) (hS : nS ≤ 24) : ∃ σ2, x_X6_list σ = some (iI (dgS (skD s) 24).2.length, σ2) ∧ CEq σ σ2 ∧ ListC σ2 (dgS (skD s) 24).2 := by
  have hd := hs.2.2.2.1
  have hd2 := hs.2.2.2.2.1
  have key := lp_inv (f := fun v : (Int32 × Int32 × St) => x_X6_list_L18 v.1 v.2.1 v.2.2)
    (fun i v => ∃ σ2, v = (iI (dgS (skD s) i).2.length, iI ((i : Nat) : Int), σ2) ∧ CEq σ σ2 ∧ ListC σ2 (dgS (skD s) i).2 ∧ ∀ k, k < 24 → gA σ2 47 k = iI ((dgS (skD s) i).1 k))
    (fun v => ∃ σ2 q, v = (iI (dgS (skD s) 24).2.length, q, σ2) ∧ CEq σ σ2 ∧ ListC σ2 (dgS (skD s) 24).2) 24 FU (by unfold FU; omega) (fun i v hi hg => ?_) (fun v hg => ?_)
    (iI ((0 : Nat) : Int), iI ((0 : Nat) : Int), sA σ 47 (fun k => if k < 24 then gA σ 17 k else gA σ 47 k)) ⟨_, rfl, CEq.sA (by omega), fun q x hq => by simp [dgS] at hq, fun k hk => by
      rw [gA_sA]
      show (if k < 24 then _ else _) = _
      rw [if_pos hk]; exact h.2.2.1 k hk⟩
  · obtain ⟨w, k1, σ2, q, rfl, k2, k3⟩ := key
    refine ⟨σ2, ?_, k2, k3⟩
    unfold x_X6_list
    rw [f_copy 47 17 (by omega) rfl, bd_some]
    show bd3 (lp _ FU (iI ((0 : Nat) : Int), iI ((0 : Nat) : Int), sA σ 47 (fun k => if k < 24 then gA σ 17 k else gA σ 47 k))) _ = _
    rw [k1]; rfl
  · obtain ⟨σ2, rfl, k2, k3, k4⟩ := hg
    obtain ⟨o1, o2, o3, o4⟩ := dgS_ok hS hd hd2 i (by omega)
    have hei := o1.1 i hi
    obtain ⟨p1, p2⟩ := plc_of o1 hi
    have hpl : x_X2_placeOf 47 (iI i) σ2 = some (iI (plc (dgS (skD s) i).1 i)) := by
      rcases f_placeOf 47 (iI i) σ2 with ⟨q, q1, q2, _, q4⟩ | ⟨q1, _⟩
      · have q1 : q < 24 := q1
        have hb := o1.1 q q1
        rw [k4 q q1] at q2
        have q3 := (iI_inj ⟨by omega, by omega⟩ ⟨by omega, by omega⟩).mp q2
        have q5 : (dgS (skD s) i).1 q = i := by omega
        have q6 := plc_eq o1 q1
        rw [q5] at q6
        rw [q4, q6]
      · exact absurd (by rw [k4 _ p1, p2]) (q1 _ p1)
    unfold x_X6_list_L18
    simp (disch := omega) only [qM24]
    rw [if_neg (by omega), f_at, bd_some, atF_in (show i < lenN 47 from hi) (by decide), k4 i hi]
    simp (disch := omega) only [iI_eqD]
    by_cases e : (dgS (skD s) i).1 i = i
    · rw [if_pos (by omega), qa1]
      refine ⟨_, rfl, σ2, ?_, k2, ?_, ?_⟩
      · rw [dgS_eq e]; rfl
      · rw [dgS_eq e]; exact k3
      · rw [dgS_eq e]; exact k4
    · rw [if_neg (by omega), hpl, bd_some, f_swap, bd_some, f_put, bd_some, qa1, qa1, show (100 : Int32) * iI i = iI (100 * i) from iI_mul 100 i, iI_add, gA_sAn _ (by omega), putF_in (show (dgS (skD s) i).2.length < lenN 46 from (show _ < 24 by omega)) (by decide), atF_in (show i < lenN 47 from hi) (by decide), atF_in (show plc (dgS (skD s) i).1 i < lenN 47 from p1) (by decide), putF_in (show i < lenN 47 from hi) (by decide), putF_in (show plc (dgS (skD s) i).1 i < lenN 47 from p1) (by decide), k4 i hi, k4 _ p1]
      refine ⟨_, rfl, sA (sA σ2 47 (upd (upd (gA σ2 47) i (iI ((dgS (skD s) i).1 (plc (dgS (skD s) i).1 i) : Nat))) (plc (dgS (skD s) i).1 i) (iI ((dgS (skD s) i).1 i : Nat)))) 46 (upd (gA σ2 46) (dgS (skD s) i).2.length (iI (100 * (i : Int) + plc (dgS (skD s) i).1 i))), ?_, (k2.trans (CEq.sA (j := 47) (by omega))).trans (CEq.sA (j := 46) (by omega)), fun q x hq => ?_, fun k hk => ?_⟩
      · rw [dgS_ne e]
        show _ = (iI (((dgS (skD s) i).2 ++ [100 * i + plc (dgS (skD s) i).1 i]).length : Nat), _)
        rw [List.length_append]; rfl
      · rw [gA_sA]
        rw [dgS_ne e] at hq
        have hq : ((dgS (skD s) i).2 ++ [100 * i + plc (dgS (skD s) i).1 i])[q]? = some x := hq
        unfold upd
        by_cases e3 : q = (dgS (skD s) i).2.length
        · rw [if_pos e3]
          rw [e3, List.getElem?_append_right (Nat.le_refl _), Nat.sub_self] at hq
          have := Option.some.inj hq
          rw [← this]; rfl
        · rw [if_neg e3]
          have hl := (List.getElem?_eq_some_iff.mp hq).1
          rw [List.length_append, List.length_cons, List.length_nil] at hl
          rw [List.getElem?_append_left (by omega)] at hq
          exact k3 q x hq
      · rw [gA_sAn _ (by omega), gA_sA]
        rw [dgS_ne e]
        show upd (upd _ i _) _ _ k = iI (swapN (dgS (skD s) i).1 i (plc (dgS (skD s) i).1 i) k)
        unfold upd swapN
        split
        · rfl
        · split
          · rfl
          · exact k4 k hk
  · obtain ⟨σ2, rfl, k2, k3, k4⟩ := hg
    unfold x_X6_list_L18
    simp (disch := omega) only [qM24]
    rw [if_pos (by omega)]
    exact ⟨_, rfl, σ2, _, rfl, k2, k3⟩
theorem m_find {τ : St} {T : Td} {s : Sk} (hM : TdM 0 τ T) (h : SkM τ (tS T) s) (hs : SkOk (tC T) (tS T) s) (hS : tS T ≤ 24) : ∃ τ2, x_X10_findChanges τ = some τ2 ∧ MEq τ τ2 ∧ gI τ2 0 = gI τ 0 ∧ gI τ2 22 = iI (dgS (skD s) (tS T)).2.length ∧ ∀ q x : Nat, (dgS (skD s) (tS T)).2[q]? = some x → gA τ2 33 q = iI x := by
  have hd := hs.2.2.2.1
  have hd2 := hs.2.2.2.2.1
  have k0 := lp_run (f := fun v : (Int32 × St) => x_X10_findChanges_L2 v.1 v.2) (fun i => (iI ((i : Nat) : Int), sA τ 32 (wr (gA τ 32) 0 (gA τ 8) i))) (w := (iI ((tS T : Nat) : Int), sA τ 32 (wr (gA τ 32) 0 (gA τ 8) (tS T)))) (tS T) FU (by unfold FU; omega) (fun i hi => ?_) ?_
  · rw [wr_zero, sA_gA] at k0
    have key := lp_inv (f := fun v : (Int32 × St) => x_X10_findChanges_L35 v.1 v.2)
      (fun i v => ∃ τ2, v = (iI ((i : Nat) : Int), τ2) ∧ MEq τ τ2 ∧ gI τ2 0 = gI τ 0 ∧ gI τ2 22 = iI (dgS (skD s) i).2.length ∧ (∀ q x : Nat, (dgS (skD s) i).2[q]? = some x → gA τ2 33 q = iI x) ∧ ∀ k, k < tS T → gA τ2 32 k = iI ((dgS (skD s) i).1 k))
      (fun v => ∃ τ2 q, v = (q, τ2) ∧ MEq τ τ2 ∧ gI τ2 0 = gI τ 0 ∧ gI τ2 22 = iI (dgS (skD s) (tS T)).2.length ∧ (∀ q x : Nat, (dgS (skD s) (tS T)).2[q]? = some x → gA τ2 33 q = iI x)) (tS T) FU (by unfold FU; omega) (fun i v hi hg => ?_) (fun v hg => ?_)
      (iI ((0 : Nat) : Int), sI (sA τ 32 (wr (gA τ 32) 0 (gA τ 8) (tS T))) 22 0) ⟨_, rfl, (MEq.sA (by omega)).trans (MEq.sI (by omega)), (gI_sIn _ (by omega) _).trans (gI_sA _ _ _ _), gI_sI _ _ _, fun q x hq => by simp [dgS] at hq, fun k hk => by
        rw [gA_sI, gA_sA, wr0 _ _ hk]; exact h.2.2.1 k hk⟩
    · obtain ⟨w, k1, τ2, q, rfl, k2, k3, k4, k5⟩ := key
      refine ⟨τ2, ?_, k2, k3, k4, k5⟩
      unfold x_X10_findChanges
      show bd2 (lp _ FU (iI ((0 : Nat) : Int), τ)) _ = _
      rw [k0, bd2_some, bd_some]
      show bd2 (lp _ FU (iI ((0 : Nat) : Int), _)) _ = _
      rw [k1]; rfl
    · obtain ⟨τ2, rfl, k2, k3, k4, k5, k6⟩ := hg
      obtain ⟨o1, o2, o3, o4⟩ := dgS_ok hS hd hd2 i (by omega)
      have hei := o1.1 i (by omega)
      obtain ⟨p1, p2⟩ := plc_of o1 (show i < 24 by omega)
      have hps : plc (dgS (skD s) i).1 i < tS T := by
        by_cases q : plc (dgS (skD s) i).1 i < tS T
        · exact q
        · have := o2 _ (by omega) p1; omega
      have hin : lp (fun v : Int32 => x_X10_findChanges_L58 (iI i) τ2 v) FU 0 = some (iI (plc (dgS (skD s) i).1 i)) := by
        have := lp_run (f := fun v : Int32 => x_X10_findChanges_L58 (iI i) τ2 v) (fun q => iI ((q : Nat) : Int)) (w := iI (plc (dgS (skD s) i).1 i)) (plc (dgS (skD s) i).1 i) FU (by unfold FU; omega) (fun q hq => ?_) ?_
        · exact this
        · have hb := o1.1 q (by omega)
          unfold x_X10_findChanges_L58
          rw [ldI_in (show q < lenM 32 from (show q < 24 by omega)) (by decide), bd_some, k6 q (by omega)]
          simp (disch := omega) only [iI_eqD]
          rw [if_neg (fun e => by have := o1.2.1 q _ (by omega) p1 (show (dgS (skD s) i).1 q = (dgS (skD s) i).1 (plc (dgS (skD s) i).1 i) by rw [p2]; omega); omega), qa1]
          rfl
        · unfold x_X10_findChanges_L58
          rw [ldI_in (show plc (dgS (skD s) i).1 i < lenM 32 from p1) (by decide), bd_some, k6 _ hps, p2, if_pos rfl]
      have hn9 : gI τ2 9 = iI (tS T) := (k2.1 9 (by omega)).trans hM.2.1
      unfold x_X10_findChanges_L35
      rw [hn9]
      simp (disch := omega) only [iI_leD]
      rw [if_neg (by omega), ldI_in (show i < lenM 32 from (show i < 24 by omega)) (by decide), bd_some, k6 i hi]
      simp (disch := omega) only [iI_eqD]
      by_cases e : (dgS (skD s) i).1 i = i
      · rw [if_pos (by omega), qa1]
        refine ⟨_, rfl, τ2, rfl, k2, k3, ?_, ?_, ?_⟩
        · rw [dgS_eq e]; exact k4
        · rw [dgS_eq e]; exact k5
        · rw [dgS_eq e]; exact k6
      · rw [if_neg (by omega), hin, bd_some, k4, stI_in (show (dgS (skD s) i).2.length < lenM 33 from (show _ < 24 by omega)) (by decide), bd_some, bd_some, gI_sA, k4, gA_sI, gA_sAn _ (show 32 ≠ 33 by omega), ldI_in (show i < lenM 32 from (show i < 24 by omega)) (by decide), bd_some, stI_in (show plc (dgS (skD s) i).1 i < lenM 32 from p1) (by decide), bd_some, stI_in (show i < lenM 32 from (show i < 24 by omega)) (by decide), bd_some, qa1, qa1, gA_sA, sA_sA, show (100 : Int32) * iI i = iI (100 * i) from iI_mul 100 i, iI_add, k6 i hi, gA_sI, gA_sAn _ (show 32 ≠ 33 by omega)]
        refine ⟨_, rfl, _, rfl, ((k2.trans (MEq.sA (by omega))).trans (MEq.sI (by omega))).trans (MEq.sA (by omega)), ?_, ?_, fun q x hq => ?_, fun k hk => ?_⟩
        · rw [gI_sA, gI_sIn _ (by omega), gI_sA]; exact k3
        · rw [gI_sA, gI_sI]
          rw [dgS_ne e]
          show _ = iI (((dgS (skD s) i).2 ++ [100 * i + plc (dgS (skD s) i).1 i]).length : Nat)
          rw [List.length_append]; rfl
        · rw [gA_sAn _ (by omega), gA_sI, gA_sA]
          rw [dgS_ne e] at hq
          have hq : ((dgS (skD s) i).2 ++ [100 * i + plc (dgS (skD s) i).1 i])[q]? = some x := hq
          unfold upd
          by_cases e3 : q = (dgS (skD s) i).2.length
          · rw [if_pos e3]
            rw [e3, List.getElem?_append_right (Nat.le_refl _), Nat.sub_self] at hq
            have := Option.some.inj hq
            rw [← this]; rfl
          · rw [if_neg e3]
            have hl := (List.getElem?_eq_some_iff.mp hq).1
            rw [List.length_append, List.length_cons, List.length_nil] at hl
            rw [List.getElem?_append_left (by omega)] at hq
            exact k5 q x hq
        · rw [gA_sA]
          rw [dgS_ne e]
          show upd (upd _ _ _) _ _ k = iI (swapN (dgS (skD s) i).1 i (plc (dgS (skD s) i).1 i) k)
          have hpi : plc (dgS (skD s) i).1 i ≠ i := fun q => e (by rw [q] at p2; exact p2)
          unfold upd swapN
          by_cases e4 : k = i
          · rw [if_pos e4, if_neg (by omega), if_pos e4, p2]
          · rw [if_neg e4]
            by_cases e5 : k = plc (dgS (skD s) i).1 i
            · rw [if_pos e5, if_pos e5]
            · rw [if_neg e5, if_neg e5, if_neg e4]; exact k6 k hk
    · obtain ⟨τ2, rfl, k2, k3, k4, k5, k6⟩ := hg
      have hn9 : gI τ2 9 = iI (tS T) := (k2.1 9 (by omega)).trans hM.2.1
      unfold x_X10_findChanges_L35
      rw [hn9]
      simp (disch := omega) only [iI_leD]
      rw [if_pos (by omega)]
      exact ⟨_, rfl, τ2, _, rfl, k2, k3, k4, k5⟩
  · unfold x_X10_findChanges_L2
    have hw := wr_succ (gA τ 32) 0 (gA τ 8) i
    rw [Nat.zero_add] at hw
    rw [gI_sA, show gI τ 9 = iI (tS T) from hM.2.1]
    simp (disch := omega) only [iI_leD]
    rw [if_neg (by omega), gA_sAn _ (by omega), ldI_in (show i < lenM 8 from (show i < 24 by omega)) (by decide), bd_some, stI_in (show i < lenM 32 from (show i < 24 by omega)) (by decide), bd_some, gA_sA, sA_sA, hw, qa1]
    rfl
  · unfold x_X10_findChanges_L2
    rw [gI_sA, show gI τ 9 = iI (tS T) from hM.2.1]
    simp (disch := omega) only [iI_leD]
    rw [if_pos (by omega)]
theorem op_changes {σ τ : St} (h : Inv σ τ) : StN (x_X9_changes σ) (x_X10_changes τ) := by
  obtain ⟨T, s, n, ims, h⟩ := h
  obtain ⟨τ1, e1, h0, h1⟩ := h.st
  have hi : Inv σ τ1 := ⟨T, s, n, ims, h1⟩
  have hh := h1
  obtain ⟨hT, hs, hC, hM, hSC, hSM, hB, hI, hb⟩ := hh
  have hC8 := hT.1
  have hS24 := hT.2.1
  have hL6 := hT.2.2.1
  obtain ⟨σ2, k1, k2, k3⟩ := c_list hSC hs hS24
  obtain ⟨τ2, m1, m2, m3, m4, m5⟩ := m_find hM hSM hs hS24
  have he := dgS_end hS24 hs.2.2.2.1 hs.2.2.2.2.1 24 hS24 (Nat.le_refl _)
  unfold x_X9_changes x_X10_changes
  rw [bd_some, e1, k1, bd2_some, m1, bd_some, m4, he]
  exact ⟨_, _, _, rfl, rfl, T, s, n, ims, h1.eq k2 m2⟩
theorem op_changed {σ τ : St} (h : Inv σ τ) (p1 : Int32) : StN (x_X9_changed p1 σ) (x_X10_changed p1 τ) := by
  obtain ⟨T, s, n, ims, h⟩ := h
  obtain ⟨z, hz, rfl⟩ := ex_iI p1
  obtain ⟨τ1, e1, h0, h1⟩ := h.st
  have hi : Inv σ τ1 := ⟨T, s, n, ims, h1⟩
  have hh := h1
  obtain ⟨hT, hs, hC, hM, hSC, hSM, hB, hI, hb⟩ := hh
  have hC8 := hT.1
  have hS24 := hT.2.1
  have hL6 := hT.2.2.1
  obtain ⟨σ2, k1, k2, k3⟩ := c_list hSC hs hS24
  obtain ⟨τ2, m1, m2, m3, m4, m5⟩ := m_find hM hSM hs hS24
  have he := dgS_end hS24 hs.2.2.2.1 hs.2.2.2.2.1 24 hS24 (Nat.le_refl _)
  have hl := (dgS_ok hS24 hs.2.2.2.1 hs.2.2.2.2.1 24 (Nat.le_refl _)).2.2.2
  have hj : Inv σ2 τ2 := ⟨T, s, n, ims, h1.eq k2 m2⟩
  unfold x_X9_changed x_X10_changed
  rw [bd_some, e1, k1, bd2_some, m1, bd_some, m4, ← he, qs1, m_wn 0 _ 0 _ rfl rfl hz ⟨by omega, by omega⟩ ⟨by omega, by omega⟩, bd_some]
  obtain ⟨z1, z2⟩ := hz
  simp (disch := omega) only [ql0, iI_leD]
  by_cases e : 0 ≤ z ∧ z < (dgS (skD s) 24).2.length
  · obtain ⟨q, rfl⟩ := Int.eq_ofNat_of_zero_le e.1
    have hq : q < (dgS (skD s) 24).2.length := by omega
    have hg := getD_of hq
    rw [if_neg (by omega), if_neg (by omega), if_pos (show 0 ≤ (q : Int) ∧ (q : Int) ≤ ((dgS (skD s) 24).2.length : Int) - 1 by omega), if_neg (by decide), f_at, bd_some, atF_in (show q < lenN 46 from (show q < 24 by omega)) (by decide), ldI_in (show q < lenM 33 from (show q < 24 by omega)) (by decide), bd_some, k3 q _ hg, m5 q _ (by rw [← he]; exact hg)]
    exact ⟨_, _, _, rfl, rfl, hj⟩
  · rw [if_neg (show ¬ (0 ≤ z ∧ z ≤ ((dgS (skD s) 24).2.length : Int) - 1) by omega), if_pos rfl]
    by_cases c0 : z < 0
    · rw [if_pos c0]; exact ⟨_, _, _, rfl, rfl, hj⟩
    · rw [if_neg c0, if_pos (by omega)]; exact ⟨_, _, _, rfl, rfl, hj⟩
