/-! stocks: the reference's methods over its rows -/
theorem m_ownOf {j : Nat} {τ : St} {le : Nat → Int} {n : Nat} {x : Int} (hj : lenM j = 8) (hn : n ≤ 8) (hx : ok32 x) (hle : ∀ c, c < n → gA τ j c = iI (le c) ∧ ok32 (le c)) : x_X10_ownOf j (iI x) (iI n) τ = some (iI (ownN le x n)) := by
  obtain ⟨hx1, hx2⟩ := hx
  have key := lp_run (f := fun w : Int32 × Int32 => x_X10_ownOf_L6 j (iI x) (iI n) τ w.1 w.2) (fun i => (iI (ownN le x i : Nat), iI ((i : Nat) : Int))) (w := (iI (ownN le x n : Nat), iI ((n : Nat) : Int))) n FU (by unfold FU; omega) (fun i hi => ?_) ?_
  · unfold x_X10_ownOf
    show bd2 (lp _ FU (iI (ownN le x 0 : Nat), iI ((0 : Nat) : Int))) _ = _
    rw [key]; rfl
  · obtain ⟨h1, h2, h3⟩ := hle i hi
    unfold x_X10_ownOf_L6
    simp (disch := omega) only [iI_leD]
    rw [if_neg (by omega), ldI_in (by omega) (by omega), bd_some, h1]
    simp (disch := omega) only [iI_ltD, i1, iI_add]
    by_cases c : x < le i
    · rw [if_pos c]
      show _ = some (true, (iI (ownN le x (i + 1) : Nat), _))
      rw [show ownN le x (i + 1) = if le i ≤ x then i else ownN le x i from rfl, if_neg (by omega)]; rfl
    · rw [if_neg c]
      show _ = some (true, (iI (ownN le x (i + 1) : Nat), _))
      rw [show ownN le x (i + 1) = if le i ≤ x then i else ownN le x i from rfl, if_pos (by omega)]; rfl
  · unfold x_X10_ownOf_L6
    simp (disch := omega) only [iI_leD]
    rw [if_pos (by omega)]
theorem m_own {τ : St} {T : Td} (h : TdM 0 τ T) (hT : TdOk T) {k : Nat} (hk : k < tS T) : x_X10_own (iI k) τ = some (iI (tOwn T k)) := by
  have h24 := hT.2.1
  have hsp := hT.2.2.2.2.2.2.1 k hk
  have hle := hT.2.2.2.2.2.1
  unfold x_X10_own
  have e := h.2.2.2.2.2.1 k 0 hk (by omega)
  rw [show (3 : Int32) = iI 3 from rfl, iI_mul, show (3 : Int) * k = ((3 * k : Nat) : Int) from by omega, ldI_in (show 3 * k < lenM 3 from (show 3 * k < 72 by omega)) (by decide), bd_some, show gA τ 3 (3 * k) = iI (tSp T k 0) from e, show gI τ 8 = iI (tC T) from h.1]
  rw [m_ownOf (j := 2) (le := tLe T) rfl hT.1 ⟨by omega, by omega⟩ (fun c hc => ⟨h.2.2.2.2.1 c hc, by have := hle c hc; omega, by have := hle c hc; omega⟩), bd_some]
  rfl
theorem m_lies {τ : St} {nS : Nat} {s : Sk} (h : SkM τ nS s) (hS : nS ≤ 24) {k : Nat} (hk : k < nS) : ldI (gA τ 7) (lenM 7) (iI k) = some (iI (skW s k)) := by
  rw [ldI_in (show k < lenM 7 from (show k < 24 by omega)) (by decide), h.2.1 k hk]
theorem m_away {τ : St} {T : Td} {s : Sk} (h : TdM 0 τ T) (hT : TdOk T) (hm : SkM τ (tS T) s) (hs : SkOk (tC T) (tS T) s) {k : Nat} (hk : k < tS T) (hl : skW s k ≠ -1) : x_X10_away (iI k) τ = some (iI (offN T s k)) := by
  have h24 := hT.2.1
  have hC := hT.1
  have hw := hs.wb hC (k := k) (by omega)
  have ho := tOwn_lt hT hk
  unfold x_X10_away offN
  rw [if_neg hl, m_lies hm h24 hk, bd_some, m_own h hT hk, bd_some]
  simp (disch := omega) only [iI_leD, bd_some, iI_sub]
  split
  · congr 2; omega
  · congr 2; omega
theorem m_offAll {τ : St} {T : Td} {s : Sk} (h : TdM 0 τ T) (hT : TdOk T) (hm : SkM τ (tS T) s) (hs : SkOk (tC T) (tS T) s) : x_X10_offAll τ = some (iI (sumN (offN T s) (tS T))) := by
  have h24 := hT.2.1
  have hC := hT.1
  have key := lp_run (f := fun w : Int32 × Int32 => x_X10_offAll_L4 τ w.1 w.2) (fun i => (iI (sumN (offN T s) i), iI ((i : Nat) : Int))) (w := (iI (sumN (offN T s) (tS T)), iI ((tS T : Nat) : Int))) (tS T) FU (by unfold FU; omega) (fun i hi => ?_) ?_
  · unfold x_X10_offAll
    show bd2 (lp _ FU (iI (sumN (offN T s) 0), iI ((0 : Nat) : Int))) _ = _
    rw [key]; rfl
  · have hw := hs.wb hC (k := i) (by omega)
    unfold x_X10_offAll_L4
    rw [show gI τ 9 = iI (tS T) from h.2.1]
    simp (disch := omega) only [iI_leD]
    rw [if_neg (by omega), m_lies hm h24 hi, bd_some, im1]
    simp (disch := omega) only [iI_eqD]
    by_cases e : skW s i = -1
    · rw [if_pos e, i0, i1, iI_add, iI_add]
      show _ = some (true, iI (sumN (offN T s) i + offN T s i : Nat), _)
      unfold offN
      rw [if_pos e]; rfl
    · rw [if_neg e, m_away h hT hm hs hi e, bd_some, iI_add, i1, iI_add]; rfl
  · unfold x_X10_offAll_L4
    rw [show gI τ 9 = iI (tS T) from h.2.1]
    simp (disch := omega) only [iI_leD]
    rw [if_pos (by omega)]
/-- the reference's state after a change of its rows alone -/
def RwF (τ τ2 : St) : Prop := (∀ k, gI τ2 k = gI τ k) ∧ (∀ j, ¬ (j = 7 ∨ j = 16 ∨ j = 17) → gA τ2 j = gA τ j) ∧ gL τ2 = gL τ ∧ gJ τ2 = gJ τ
theorem RwF.trans {a b c : St} (h : RwF a b) (k : RwF b c) : RwF a c := ⟨fun i => (k.1 i).trans (h.1 i), fun i hi => (k.2.1 i hi).trans (h.2.1 i hi), k.2.2.1.trans h.2.2.1, k.2.2.2.trans h.2.2.2⟩
theorem RwF.sA {τ : St} {j : Nat} {f : Nat → Int32} (h : j = 7 ∨ j = 16 ∨ j = 17) : RwF τ (sA τ j f) := ⟨fun _ => rfl, fun i hi => gA_sAn τ (by omega) f, rfl, rfl⟩
theorem m_goesOut {τ : St} {R : Nat → List Nat} (hR : RwM (gA τ 17) (gA τ 16) R) (hlen : ∀ c, c < 8 → (R c).length ≤ 24) {k c : Nat} (hk : k < 24) (hc : c < 8) (hl : gA τ 7 k = iI c) (hb : ∀ a ∈ R c, a < 24) :
    ∃ τ2, x_X10_goesOut (iI k) τ = some τ2 ∧ RwF τ τ2 ∧ gA τ2 7 = upd (gA τ 7) k (-1) ∧ RwM (gA τ2 17) (gA τ2 16) (fun x => if x = c then (R x).filter (fun a => decide (a ≠ k)) else R x) := by
  have hlc := hlen c hc
  have fl : ∀ i, ((List.take i (R c)).filter (fun a => decide (a ≠ k))).length ≤ i := fun i => by
    have h1 := List.length_filter_le (fun a => decide (a ≠ k)) (List.take i (R c))
    rw [List.length_take] at h1
    omega
  have key := lp_inv (f := fun v : (Int32 × Int32 × St) => x_X10_goesOut_L12 (iI k) (iI c) v.1 v.2.1 v.2.2)
    (fun i v => ∃ f, v = (iI ((((R c).take i).filter (fun a => decide (a ≠ k))).length : Nat), iI ((i : Nat) : Int), sA τ 17 f) ∧ (∀ q x : Nat, (((R c).take i).filter (fun a => decide (a ≠ k)))[q]? = some x → f (24 * c + q) = iI x) ∧ (∀ q : Nat, i ≤ q → q < 24 → f (24 * c + q) = gA τ 17 (24 * c + q)) ∧ (∀ j : Nat, (j < 24 * c ∨ 24 * c + 24 ≤ j) → f j = gA τ 17 j))
    (fun v => ∃ f, v = (iI (((R c).filter (fun a => decide (a ≠ k))).length : Nat), iI (((R c).length : Nat) : Int), sA τ 17 f) ∧ (∀ q x : Nat, ((R c).filter (fun a => decide (a ≠ k)))[q]? = some x → f (24 * c + q) = iI x) ∧ (∀ j : Nat, (j < 24 * c ∨ 24 * c + 24 ≤ j) → f j = gA τ 17 j))
    (R c).length FU (by unfold FU; omega) (fun i v hi hg => ?_) (fun v hg => ?_) (iI ((0 : Nat) : Int), iI ((0 : Nat) : Int), τ) ⟨gA τ 17, by rw [sA_gA]; rfl, fun q x hq => by simp at hq, fun _ _ _ => rfl, fun _ _ => rfl⟩
  · obtain ⟨w, hw, f, rfl, hf1, hf2⟩ := key
    refine ⟨sA (sA (sA τ 17 f) 16 (upd (gA τ 16) c (iI (((R c).filter (fun a => decide (a ≠ k))).length : Nat)))) 7 (upd (gA τ 7) k (-1)), ?_, ?_, ?_, ?_⟩
    · unfold x_X10_goesOut
      rw [ldI_in (show k < lenM 7 from (show k < 24 by omega)) (by decide), hl, bd_some]
      show bd3 (lp _ FU (iI ((0 : Nat) : Int), iI ((0 : Nat) : Int), τ)) _ = _
      rw [hw, bd3_some, stI_in (show c < lenM 16 from hc) (by decide), bd_some, stI_in (show k < lenM 7 from (show k < 24 by omega)) (by decide), bd_some, gA_sAn _ (by omega), gA_sAn _ (by omega), gA_sAn _ (by omega)]
    · exact (RwF.sA (by omega)).trans ((RwF.sA (by omega)).trans (RwF.sA (by omega)))
    · rw [gA_sA]
    · rw [gA_sAn _ (by omega), gA_sAn _ (by omega), gA_sA, gA_sAn _ (by omega), gA_sA]
      refine ⟨fun x hx => ?_, fun x i y hx hy => ?_⟩
      · unfold upd
        dsimp only
        by_cases e : x = c
        · rw [if_pos e, if_pos e, e]
        · rw [if_neg e, if_neg e]; exact hR.1 x hx
      · dsimp only at hy
        by_cases e : x = c
        · rw [if_pos e] at hy
          rw [e]; rw [e] at hy; exact hf1 i y hy
        · rw [if_neg e] at hy
          have := hlen x hx
          have hl := (List.getElem?_eq_some_iff.mp hy).1
          rw [hf2 _ (by omega)]
          exact hR.2 x i y hx hy
  · obtain ⟨f, rfl, h1, h2, h3⟩ := hg
    have hx : (R c)[i]? = some (R c)[i] := List.getElem?_eq_getElem hi
    have hxb := hb _ (List.getElem_mem hi)
    have h17 := hR.2 c i _ hc hx
    have hfi := fl i
    have hm : gA τ 16 c = iI (R c).length := hR.1 c hc
    have htk : (R c).take (i + 1) = (R c).take i ++ [(R c)[i]] := by rw [List.take_add_one, hx]; rfl
    unfold x_X10_goesOut_L12
    rw [gA_sAn _ (by omega), ldI_in (show c < lenM 16 from hc) (by decide), hm, bd_some]
    simp (disch := omega) only [iI_leD]
    rw [if_neg (by omega), show (24 : Int32) = iI 24 from rfl, iI_mul, iI_add, show (24 : Int) * c + i = ((24 * c + i : Nat) : Int) from by omega, gA_sA, ldI_in (show 24 * c + i < lenM 17 from (show 24 * c + i < 192 by omega)) (by decide), bd_some, h2 i (by omega) (by omega), h17]
    simp (disch := omega) only [iI_eqD, bd_some, i1, iI_add]
    by_cases e : (((R c)[i] : Nat) : Int) = k
    · rw [if_pos e]
      refine ⟨_, rfl, f, ?_, ?_, fun q hq hq2 => h2 q (by omega) hq2, h3⟩
      · rw [htk, List.filter_append, List.filter_cons, List.filter_nil, if_neg (by simp; omega), List.append_nil]; rfl
      · rw [htk, List.filter_append, List.filter_cons, List.filter_nil, if_neg (by simp; omega), List.append_nil]; exact h1
    · rw [if_neg e]
      have e2 : decide ((R c)[i] ≠ k) = true := decide_eq_true (by omega)
      rw [show (24 : Int) * c + (((R c).take i).filter (fun a => decide (a ≠ k))).length = ((24 * c + (((R c).take i).filter (fun a => decide (a ≠ k))).length : Nat) : Int) from by omega, stI_in (show 24 * c + (((R c).take i).filter (fun a => decide (a ≠ k))).length < lenM 17 from (show _ < 192 by omega)) (by decide), bd_some, gA_sA, sA_sA]
      refine ⟨_, rfl, upd f (24 * c + (((R c).take i).filter (fun a => decide (a ≠ k))).length) (iI ((R c)[i] : Nat)), ?_, fun q x hq => ?_, fun q hq hq2 => ?_, fun j hj => ?_⟩
      · rw [htk, List.filter_append, List.filter_cons, List.filter_nil, if_pos e2, List.length_append]; rfl
      · rw [htk, List.filter_append, List.filter_cons, List.filter_nil, if_pos e2] at hq
        unfold upd
        by_cases e3 : q = (((R c).take i).filter (fun a => decide (a ≠ k))).length
        · rw [if_pos (by omega)]
          rw [e3, List.getElem?_append_right (Nat.le_refl _), Nat.sub_self] at hq
          exact congrArg (fun z : Nat => iI z) (Option.some.inj hq)
        · rw [if_neg (by omega)]
          by_cases e4 : q < (((R c).take i).filter (fun a => decide (a ≠ k))).length
          · rw [List.getElem?_append_left e4] at hq
            exact h1 q x hq
          · rw [List.getElem?_append_right (by omega)] at hq
            have := (List.getElem?_eq_some_iff.mp hq).1
            simp only [List.length_cons, List.length_nil] at this
            omega
      · unfold upd
        rw [if_neg (by omega)]
        exact h2 q (by omega) hq2
      · unfold upd
        rw [if_neg (by omega)]
        exact h3 j hj
  · obtain ⟨f, rfl, h1, h2, h3⟩ := hg
    have hm : gA τ 16 c = iI (R c).length := hR.1 c hc
    unfold x_X10_goesOut_L12
    rw [gA_sAn _ (by omega), ldI_in (show c < lenM 16 from hc) (by decide), hm, bd_some]
    simp (disch := omega) only [iI_leD]
    rw [if_pos (by omega)]
    rw [List.take_length] at h1 ⊢
    exact ⟨_, rfl, f, rfl, h1, h3⟩
theorem m_comesTo {τ : St} {R : Nat → List Nat} (hR : RwM (gA τ 17) (gA τ 16) R) (hlen : ∀ c, c < 8 → (R c).length ≤ 24) {k c : Nat} (hk : k < 24) (hc : c < 8) (hl : (R c).length < 24) :
    ∃ τ2, x_X10_comesTo (iI c) (iI k) τ = some τ2 ∧ RwF τ τ2 ∧ gA τ2 7 = upd (gA τ 7) k (iI c) ∧ RwM (gA τ2 17) (gA τ2 16) (fun x => if x = c then R x ++ [k] else R x) := by
  have hm : gA τ 16 c = iI (R c).length := hR.1 c hc
  refine ⟨sA (sA (sA τ 17 (upd (gA τ 17) (24 * c + (R c).length) (iI k))) 16 (upd (gA τ 16) c (iI ((R c).length + 1)))) 7 (upd (gA τ 7) k (iI c)), ?_, ?_, ?_, ?_⟩
  · unfold x_X10_comesTo
    rw [ldI_in (show c < lenM 16 from hc) (by decide), hm, bd_some, show (24 : Int32) = iI 24 from rfl, iI_mul, iI_add, show (24 : Int) * c + (R c).length = ((24 * c + (R c).length : Nat) : Int) from by omega, stI_in (show 24 * c + (R c).length < lenM 17 from (show _ < 192 by omega)) (by decide), bd_some, gA_sAn _ (by omega), ldI_in (show c < lenM 16 from hc) (by decide), hm, bd_some, i1, iI_add, stI_in (show c < lenM 16 from hc) (by decide), bd_some, stI_in (show k < lenM 7 from hk) (by decide), bd_some, gA_sAn _ (by omega), gA_sAn _ (by omega), gA_sAn _ (by omega)]
  · exact (RwF.sA (by omega)).trans ((RwF.sA (by omega)).trans (RwF.sA (by omega)))
  · rw [gA_sA]
  · rw [gA_sAn _ (by omega), gA_sAn _ (by omega), gA_sA, gA_sAn _ (by omega), gA_sA]
    refine ⟨fun x hx => ?_, fun x i y hx hy => ?_⟩
    · unfold upd
      dsimp only
      by_cases e : x = c
      · rw [if_pos e, if_pos e, e, List.length_append]; rfl
      · rw [if_neg e, if_neg e]; exact hR.1 x hx
    · have hlx := hlen x hx
      dsimp only at hy
      unfold upd
      by_cases e : x = c
      · rw [if_pos e] at hy
        rw [e] at hy ⊢
        by_cases e2 : i = (R c).length
        · rw [if_pos (by omega)]
          rw [e2, List.getElem?_append_right (Nat.le_refl _), Nat.sub_self] at hy
          exact congrArg (fun z : Nat => iI z) (Option.some.inj hy)
        · rw [if_neg (by omega)]
          by_cases e3 : i < (R c).length
          · rw [List.getElem?_append_left e3] at hy
            exact hR.2 c i y hc hy
          · rw [List.getElem?_append_right (by omega)] at hy
            have := (List.getElem?_eq_some_iff.mp hy).1
            simp only [List.length_cons, List.length_nil] at this
            omega
      · rw [if_neg e] at hy
        have hl2 := (List.getElem?_eq_some_iff.mp hy).1
        rw [if_neg (by omega)]
        exact hR.2 x i y hx hy
