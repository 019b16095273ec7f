/-! shop: the draft becomes the shop -/
def skT (L : Nat → Int) (D : Nat → Nat) : Sk := (L, (fun k => k), D, (fun k => k))
theorem skT_ok {T : Td} {L : Nat → Int} {D : Nat → Nat} (l3 : ∀ k, k < tS T → 0 ≤ L k ∧ L k < tC T) (l4 : ∀ k, tS T ≤ k → k < 24 → L k = -1) (d2 : Bij 24 D) (d3 : ∀ k, tS T ≤ k → k < 24 → D k = k) : SkOk (tC T) (tS T) (skT L D) :=
  ⟨fun k hk => by have := l3 k hk; show -1 ≤ L k ∧ L k < tC T; omega, l4, Bij.id 24, d2, d3, Bij.id 8, fun _ _ _ => rfl⟩
theorem c_copyT {σ : St} {T : Td} (hT : TdOk T) (hC : TdC 1 σ T) : ∃ σ2, x_X7_copy 0 1 σ = some σ2 ∧ TdC 0 σ2 T ∧ (∀ k, 4 ≤ k → gI σ2 k = gI σ k) ∧ (∀ j, ¬ (1 ≤ j ∧ j ≤ 7) → gA σ2 j = gA σ j) ∧ (∀ k, k < 24 → gA σ2 3 k = gA σ 10 k) ∧ (∀ k, k < 24 → gA σ2 4 k = gA σ 11 k) := by
  obtain ⟨t1, t2, t3, -⟩ := hT
  obtain ⟨c1, c2, c3, c4, c5, c6, c7, c8, c9, c10⟩ := hC
  have i0 : gI (sI (sI (sI (sI σ 0 (gI σ 4)) 1 (gI σ 5)) 2 (gI σ 6)) 3 (gI σ 7)) 0 = gI σ 4 := by rw [gI_sIn _ (by omega), gI_sIn _ (by omega), gI_sIn _ (by omega), gI_sI]
  have i1 : gI (sI (sI (sI (sI σ 0 (gI σ 4)) 1 (gI σ 5)) 2 (gI σ 6)) 3 (gI σ 7)) 1 = gI σ 5 := by rw [gI_sIn _ (by omega), gI_sIn _ (by omega), gI_sI]
  have i2 : gI (sI (sI (sI (sI σ 0 (gI σ 4)) 1 (gI σ 5)) 2 (gI σ 6)) 3 (gI σ 7)) 2 = gI σ 6 := by rw [gI_sIn _ (by omega), gI_sI]
  have i3 : gI (sI (sI (sI (sI σ 0 (gI σ 4)) 1 (gI σ 5)) 2 (gI σ 6)) 3 (gI σ 7)) 3 = gI σ 7 := gI_sI _ _ _
  have iI' : ∀ k, 4 ≤ k → gI (sI (sI (sI (sI σ 0 (gI σ 4)) 1 (gI σ 5)) 2 (gI σ 6)) 3 (gI σ 7)) k = gI σ k := fun k hk => by rw [gI_sIn _ (by omega), gI_sIn _ (by omega), gI_sIn _ (by omega), gI_sIn _ (by omega)]
  have iA' : ∀ j, gA (sI (sI (sI (sI σ 0 (gI σ 4)) 1 (gI σ 5)) 2 (gI σ 6)) 3 (gI σ 7)) j = gA σ j := fun _ => rfl
  have ec : x_X7_copy 0 1 σ = x_X7_copy 0 1 σ := rfl
  conv at ec => rhs; unfold x_X7_copy
  rw [bd_some, bd_some, bd_some, bd_some] at ec
  have es : sI (sI (sI (sI σ (4 * 0) (gI σ (4 * 1))) (4 * 0 + 1) (gI (sI σ (4 * 0) (gI σ (4 * 1))) (4 * 1 + 1))) (4 * 0 + 2) (gI (sI (sI σ (4 * 0) (gI σ (4 * 1))) (4 * 0 + 1) (gI (sI σ (4 * 0) (gI σ (4 * 1))) (4 * 1 + 1))) (4 * 1 + 2))) (4 * 0 + 3) (gI (sI (sI (sI σ (4 * 0) (gI σ (4 * 1))) (4 * 0 + 1) (gI (sI σ (4 * 0) (gI σ (4 * 1))) (4 * 1 + 1))) (4 * 0 + 2) (gI (sI (sI σ (4 * 0) (gI σ (4 * 1))) (4 * 0 + 1) (gI (sI σ (4 * 0) (gI σ (4 * 1))) (4 * 1 + 1))) (4 * 1 + 2))) (4 * 1 + 3)) = sI (sI (sI (sI σ 0 (gI σ 4)) 1 (gI σ 5)) 2 (gI σ 6)) 3 (gI σ 7) := rfl
  rw [es] at ec
  generalize sI (sI (sI (sI σ 0 (gI σ 4)) 1 (gI σ 5)) 2 (gI σ 6)) 3 (gI σ 7) = σ4 at *
  obtain ⟨F1, e1, q1⟩ := copy_ex (j := 1) (j1 := 8) σ4 (by omega) rfl
  obtain ⟨F2, e2, q2⟩ := copy_ex (j := 2) (j1 := 9) (sA σ4 1 F1) (by omega) rfl
  obtain ⟨F3, e3, q3⟩ := copy_ex (j := 3) (j1 := 10) (sA (sA σ4 1 F1) 2 F2) (by omega) rfl
  obtain ⟨F4, e4, q4⟩ := copy_ex (j := 4) (j1 := 11) (sA (sA (sA σ4 1 F1) 2 F2) 3 F3) (by omega) rfl
  obtain ⟨F5, e5, q5⟩ := copy_ex (j := 5) (j1 := 12) (sA (sA (sA (sA σ4 1 F1) 2 F2) 3 F3) 4 F4) (by omega) rfl
  obtain ⟨F6, e6, q6⟩ := copy_ex (j := 6) (j1 := 13) (sA (sA (sA (sA (sA σ4 1 F1) 2 F2) 3 F3) 4 F4) 5 F5) (by omega) rfl
  obtain ⟨F7, e7, q7⟩ := copy_ex (j := 7) (j1 := 14) (sA (sA (sA (sA (sA (sA σ4 1 F1) 2 F2) 3 F3) 4 F4) 5 F5) 6 F6) (by omega) rfl
  rw [show x_X2_copy (1 + 7 * 0) (1 + 7 * 1) σ4 = _ from e1, bd_some, show x_X2_copy (1 + 7 * 0 + 1) (1 + 7 * 1 + 1) _ = _ from e2, bd_some, show x_X2_copy (1 + 7 * 0 + 2) (1 + 7 * 1 + 2) _ = _ from e3, bd_some, show x_X2_copy (1 + 7 * 0 + 3) (1 + 7 * 1 + 3) _ = _ from e4, bd_some, show x_X2_copy (1 + 7 * 0 + 4) (1 + 7 * 1 + 4) _ = _ from e5, bd_some, show x_X2_copy (1 + 7 * 0 + 5) (1 + 7 * 1 + 5) _ = _ from e6, bd_some, show x_X2_copy (1 + 7 * 0 + 6) (1 + 7 * 1 + 6) _ = _ from e7, bd_some] at ec
  have n1 : lenN 1 = 8 := rfl
  have n2 : lenN 2 = 96 := rfl
  have n3 : lenN 3 = 24 := rfl
  have n4 : lenN 4 = 24 := rfl
  have n5 : lenN 5 = 36 := rfl
  have n6 : lenN 6 = 9 := rfl
  have n7 : lenN 7 = 4 := rfl
  refine ⟨_, ec, ⟨i0.trans c1, i1.trans c2, i2.trans c3, i3.trans c4, fun c hc => ?_, fun k w hk hw => ?_, fun k hk => ?_, fun k w hk hw => ?_, fun f h1 h2 => ?_, fun i hi => ?_⟩, iI', fun j hj => ?_, fun k hk => ?_, fun k hk => ?_⟩
  · show gA _ 1 c = _
    rw [gA_sAn _ (by omega), gA_sAn _ (by omega), gA_sAn _ (by omega), gA_sAn _ (by omega), gA_sAn _ (by omega), gA_sAn _ (by omega), gA_sA, q1 c (by omega), iA']
    exact c5 c hc
  · show gA _ 2 (4 * k + w) = _
    rw [gA_sAn _ (by omega), gA_sAn _ (by omega), gA_sAn _ (by omega), gA_sAn _ (by omega), gA_sAn _ (by omega), gA_sA, q2 (4 * k + w) (by omega), gA_sAn _ (by omega), iA']
    exact c6 k w hk hw
  · show gA _ 2 (4 * k + 3) = _
    rw [gA_sAn _ (by omega), gA_sAn _ (by omega), gA_sAn _ (by omega), gA_sAn _ (by omega), gA_sAn _ (by omega), gA_sA, q2 (4 * k + 3) (by omega), gA_sAn _ (by omega), iA']
    exact c7 k hk
  · show gA _ 5 (6 * k + w) = _
    rw [gA_sAn _ (by omega), gA_sAn _ (by omega), gA_sA, q5 (6 * k + w) (by omega), gA_sAn _ (by omega), gA_sAn _ (by omega), gA_sAn _ (by omega), gA_sAn _ (by omega), iA']
    exact c8 k w hk hw
  · show gA _ 6 f = _
    rw [gA_sAn _ (by omega), gA_sA, q6 f (by omega), gA_sAn _ (by omega), gA_sAn _ (by omega), gA_sAn _ (by omega), gA_sAn _ (by omega), gA_sAn _ (by omega), iA']
    exact c9 f h1 h2
  · show gA _ 7 i = _
    rw [gA_sA, q7 i (by omega), gA_sAn _ (by omega), gA_sAn _ (by omega), gA_sAn _ (by omega), gA_sAn _ (by omega), gA_sAn _ (by omega), gA_sAn _ (by omega), iA']
    exact c10 i hi
  · rw [gA_sAn _ (by omega), gA_sAn _ (by omega), gA_sAn _ (by omega), gA_sAn _ (by omega), gA_sAn _ (by omega), gA_sAn _ (by omega), gA_sAn _ (by omega), iA']
  · rw [gA_sAn _ (by omega), gA_sAn _ (by omega), gA_sAn _ (by omega), gA_sAn _ (by omega), gA_sA, q3 k (by omega), gA_sAn _ (by omega), gA_sAn _ (by omega), iA']
  · rw [gA_sAn _ (by omega), gA_sAn _ (by omega), gA_sAn _ (by omega), gA_sA, q4 k (by omega), gA_sAn _ (by omega), gA_sAn _ (by omega), gA_sAn _ (by omega), iA']
theorem c_beginS {σ : St} {L : Nat → Int} {D : Nat → Nat} (h3 : ∀ k, k < 24 → gA σ 3 k = iI (L k)) (h4 : ∀ k, k < 24 → gA σ 4 k = iI (D k)) : ∃ σ2, x_X5_begin 0 0 σ = some σ2 ∧ SkC σ2 0 (skT L D) ∧ (∀ k, gI σ2 k = gI σ k) ∧ (∀ j, ¬ (15 ≤ j ∧ j ≤ 18) → gA σ2 j = gA σ j) := by
  obtain ⟨F1, e1, q1⟩ := copy_ex (j := 15) (j1 := 3) σ (by omega) rfl
  obtain ⟨F2, e2, q2⟩ := fillN_ex 16 (sA σ 15 F1)
  obtain ⟨F3, e3, q3⟩ := copy_ex (j := 17) (j1 := 4) (sA (sA σ 15 F1) 16 F2) (by omega) rfl
  obtain ⟨F4, e4, q4⟩ := fillN_ex 18 (sA (sA (sA σ 15 F1) 16 F2) 17 F3)
  have n1 : lenN 15 = 24 := rfl
  have n2 : lenN 16 = 24 := rfl
  have n3 : lenN 17 = 24 := rfl
  have n4 : lenN 18 = 8 := rfl
  refine ⟨sA (sA (sA (sA σ 15 F1) 16 F2) 17 F3) 18 F4, ?_, ⟨fun k hk => ?_, fun k hk => ?_, fun k hk => ?_, fun k hk => ?_⟩, fun _ => rfl, fun j hj => ?_⟩
  · unfold x_X5_begin
    rw [show x_X2_copy (15 + 4 * 0) (1 + 7 * 0 + 2) σ = _ from e1, bd_some, show x_X2_fillByNumber (15 + 4 * 0 + 1) _ = _ from e2, bd_some, show x_X2_copy (15 + 4 * 0 + 2) (1 + 7 * 0 + 3) _ = _ from e3, bd_some, show x_X2_fillByNumber (15 + 4 * 0 + 3) _ = _ from e4, bd_some]
  · show gA _ 15 k = iI (L k)
    rw [gA_sAn _ (by omega), gA_sAn _ (by omega), gA_sAn _ (by omega), gA_sA, q1 k (by omega), h3 k hk]
  · show gA _ 16 k = iI (k : Nat)
    rw [gA_sAn _ (by omega), gA_sAn _ (by omega), gA_sA, q2 k (by omega)]
  · show gA _ 17 k = iI (D k)
    rw [gA_sAn _ (by omega), gA_sA, q3 k (by omega), gA_sAn _ (by omega), gA_sAn _ (by omega), h4 k hk]
  · show gA _ 18 k = iI (k : Nat)
    rw [gA_sA, q4 k (by omega)]
  · rw [gA_sAn _ (by omega), gA_sAn _ (by omega), gA_sAn _ (by omega), gA_sAn _ (by omega)]
theorem upd_self {f : Nat → Int32} {k : Nat} {v : Int32} (h : f k = v) : upd f k v = f := by
  funext j
  unfold upd
  by_cases e : j = k
  · rw [if_pos e, e, h]
  · rw [if_neg e]
theorem rowP_cut {s : Sk} {c m : Nat} (h : ∀ k, m ≤ k → k < 24 → skW s (skL s k) ≠ (c : Int)) : ∀ d, m + d ≤ 24 → rowP s c (m + d) = rowP s c m := by
  intro d
  induction d with
  | zero => intro _; rfl
  | succ d ih =>
    intro hd
    show rowP s c (m + d + 1) = _
    rw [rowP_succ, if_neg (h (m + d) (by omega) (by omega)), List.append_nil, ih (by omega)]
/-- a row is laid anew -/
theorem m_rowSet {τ : St} {T : Td} {L : Nat → Int} {D : Nat → Nat} {c : Nat} (hT : TdOk T) (h9 : gI τ 9 = iI (tS T)) (hc : c < 8) (l2 : ∀ k, k < tS T → gA τ 7 k = iI (L k)) (l3 : ∀ k, k < tS T → 0 ≤ L k ∧ L k < tC T) (l4 : ∀ k, tS T ≤ k → k < 24 → L k = -1) (h16 : gA τ 16 c = 0) :
    ∃ τ2, lp (fun v : (Int32 × St) => x_X10_sets_L216 (iI c) v.1 v.2) FU (0, τ) = some (iI (tS T), τ2) ∧ (∀ k, gI τ2 k = gI τ k) ∧ (∀ j, ¬ (j = 16 ∨ j = 17) → gA τ2 j = gA τ j) ∧ gA τ2 16 c = iI (rowL (skT L D) c).length ∧ (∀ x, x ≠ c → gA τ2 16 x = gA τ 16 x) ∧ (∀ i y : Nat, (rowL (skT L D) c)[i]? = some y → gA τ2 17 (24 * c + i) = iI y) ∧ (∀ q, ¬ (24 * c ≤ q ∧ q < 24 * c + 24) → gA τ2 17 q = gA τ 17 q) := by
  obtain ⟨t1, t2, t3, -⟩ := hT
  have key := lp_inv (f := fun v : (Int32 × St) => x_X10_sets_L216 (iI c) v.1 v.2)
    (fun k x => ∃ τ2, x = (iI (k : Nat), τ2) ∧ (∀ k, gI τ2 k = gI τ k) ∧ (∀ j, ¬ (j = 16 ∨ j = 17) → gA τ2 j = gA τ j) ∧ gA τ2 16 c = iI (rowP (skT L D) c k).length ∧ (∀ x, x ≠ c → gA τ2 16 x = gA τ 16 x) ∧ (∀ i y : Nat, (rowP (skT L D) c k)[i]? = some y → gA τ2 17 (24 * c + i) = iI y) ∧ (∀ q, ¬ (24 * c ≤ q ∧ q < 24 * c + 24) → gA τ2 17 q = gA τ 17 q))
    (fun x => ∃ τ2, x = (iI (tS T), τ2) ∧ (∀ k, gI τ2 k = gI τ k) ∧ (∀ j, ¬ (j = 16 ∨ j = 17) → gA τ2 j = gA τ j) ∧ gA τ2 16 c = iI (rowP (skT L D) c (tS T)).length ∧ (∀ x, x ≠ c → gA τ2 16 x = gA τ 16 x) ∧ (∀ i y : Nat, (rowP (skT L D) c (tS T))[i]? = some y → gA τ2 17 (24 * c + i) = iI y) ∧ (∀ q, ¬ (24 * c ≤ q ∧ q < 24 * c + 24) → gA τ2 17 q = gA τ 17 q))
    (tS T) FU (by unfold FU; omega) (fun k x hk hg => ?_) (fun x hg => ?_) (0, τ) ⟨τ, rfl, fun _ => rfl, fun _ _ => rfl, h16, fun _ _ => rfl, fun i y h => (by cases h), fun _ _ => rfl⟩
  · obtain ⟨x, e, τ2, rfl, a1, a2, a3, a4, a5, a6⟩ := key
    have hcut : rowL (skT L D) c = rowP (skT L D) c (tS T) := by
      have q := rowP_cut (s := skT L D) (c := c) (m := tS T) (fun k k1 k2 => by show L k ≠ (c : Int); rw [l4 k k1 k2]; omega) (24 - tS T) (by omega)
      rw [show tS T + (24 - tS T) = 24 from by omega, rowP_24] at q
      exact q
    rw [hcut]
    exact ⟨τ2, e, a1, a2, a3, a4, a5, a6⟩
  · obtain ⟨τ2, rfl, a1, a2, a3, a4, a5, a6⟩ := hg
    have hlk := l3 k hk
    have e7 : gA τ2 7 k = iI (L k) := by rw [a2 7 (by omega)]; exact l2 k hk
    have hlen := rowP_len (skT L D) c k
    have eL : x_X10_sets_L216 (iI c) (iI (k : Int)) τ2 = if L k = (c : Int) then bd (x_X10_comesTo (iI c) (iI (k : Int)) τ2) fun σ49 => some (true, (iI ((k + 1 : Nat) : Int), σ49)) else some (true, (iI ((k + 1 : Nat) : Int), τ2)) := by
      unfold x_X10_sets_L216
      rw [a1 9, h9]
      simp (disch := omega) only [iI_leD]
      rw [if_neg (by omega), ldI_in (show k < lenM 7 from (show k < 24 by omega)) (by decide), bd_some, e7, r_eq (by omega) (by omega) (by omega) (by omega), qa1]
      rfl
    by_cases e : L k = (c : Int)
    · rw [if_pos e] at eL
      have eU : ∀ F G : Nat → Int32, upd (gA (sA (sA τ2 17 F) 16 G) 7) k (iI c) = gA (sA (sA τ2 17 F) 16 G) 7 := fun F G => upd_self (by rw [gA_sAn _ (by omega), gA_sAn _ (by omega), e7, e])
      have es : x_X10_comesTo (iI c) (iI (k : Int)) τ2 = some (sA (sA τ2 17 (upd (gA τ2 17) (24 * c + (rowP (skT L D) c k).length) (iI k))) 16 (upd (gA τ2 16) c (iI (((rowP (skT L D) c k).length : Int) + 1)))) := by
        unfold x_X10_comesTo
        rw [ldI_in (show c < lenM 16 from hc) (by decide), a3, bd_some, qy24, iI_add, show (24 : Int) * c + ((rowP (skT L D) c k).length : Int) = ((24 * c + (rowP (skT L D) c k).length : Nat) : Int) from by omega, stI_in (show 24 * c + (rowP (skT L D) c k).length < lenM 17 from (show 24 * c + (rowP (skT L D) c k).length < 192 by omega)) (by decide), bd_some, gA_sAn _ (show 16 ≠ 17 by omega), ldI_in (show c < lenM 16 from hc) (by decide), a3, bd_some, qa1, stI_in (show c < lenM 16 from hc) (by decide), bd_some, gA_sAn _ (show 16 ≠ 17 by omega), stI_in (show k < lenM 7 from (show k < 24 by omega)) (by decide), bd_some, eU, sA_gA]
      rw [es, bd_some] at eL
      refine ⟨_, eL, _, rfl, fun i => a1 i, fun j hj => ?_, ?_, fun x hx => ?_, fun i y hy => ?_, fun q hq => ?_⟩
      · rw [gA_sAn _ (by omega), gA_sAn _ (by omega), a2 j hj]
      · rw [gA_sA, rowP_succ, if_pos (show skW (skT L D) (skL (skT L D) k) = (c : Int) from e), List.length_append, List.length_singleton]
        show upd _ c _ c = _
        unfold upd
        rw [if_pos rfl]
        rfl
      · rw [gA_sA]
        unfold upd
        rw [if_neg hx]; exact a4 x hx
      · rw [gA_sAn _ (by omega), gA_sA]
        rw [rowP_succ, if_pos (show skW (skT L D) (skL (skT L D) k) = (c : Int) from e)] at hy
        unfold upd
        by_cases q : i = (rowP (skT L D) c k).length
        · rw [if_pos (by omega)]
          rw [q, List.getElem?_append_right (Nat.le_refl _), Nat.sub_self] at hy
          have hy : k = y := Option.some.inj hy
          rw [hy]
        · rw [if_neg (by omega)]
          have hl := (List.getElem?_eq_some_iff.mp hy).1
          rw [List.length_append, List.length_singleton] at hl
          rw [List.getElem?_append_left (by omega)] at hy
          exact a5 i y hy
      · rw [gA_sAn _ (by omega), gA_sA]
        unfold upd
        rw [if_neg (by omega)]; exact a6 q hq
    · rw [if_neg e] at eL
      refine ⟨_, eL, τ2, rfl, a1, a2, ?_, a4, ?_, a6⟩
      · rw [rowP_succ, if_neg (show ¬ skW (skT L D) (skL (skT L D) k) = (c : Int) from e), List.append_nil]; exact a3
      · rw [rowP_succ, if_neg (show ¬ skW (skT L D) (skL (skT L D) k) = (c : Int) from e), List.append_nil]; exact a5
  · obtain ⟨τ2, rfl, a1, r⟩ := hg
    refine ⟨(iI (tS T), τ2), ?_, τ2, rfl, a1, r⟩
    show x_X10_sets_L216 (iI c) (iI (tS T : Int)) τ2 = _
    unfold x_X10_sets_L216
    rw [a1 9, h9, if_pos (Int32.le_refl _)]
theorem m_rowsSet {τ : St} {T : Td} {L : Nat → Int} {D : Nat → Nat} (hT : TdOk T) (h9 : gI τ 9 = iI (tS T)) (l2 : ∀ k, k < tS T → gA τ 7 k = iI (L k)) (l3 : ∀ k, k < tS T → 0 ≤ L k ∧ L k < tC T) (l4 : ∀ k, tS T ≤ k → k < 24 → L k = -1) :
    ∃ τ2, lp (fun v : (Int32 × St) => x_X10_sets_L201 v.1 v.2) FU (0, τ) = some (iI ((8 : Nat) : Int), τ2) ∧ (∀ k, gI τ2 k = gI τ k) ∧ (∀ j, ¬ (j = 16 ∨ j = 17 ∨ j = 18) → gA τ2 j = gA τ j) ∧ RwM (gA τ2 17) (gA τ2 16) (rowL (skT L D)) ∧ (∀ p : Nat, p < 8 → gA τ2 18 p = iI p) := by
  have key := lp_inv (f := fun v : (Int32 × St) => x_X10_sets_L201 v.1 v.2)
    (fun c x => ∃ τ2, x = (iI (c : Nat), τ2) ∧ (∀ k, gI τ2 k = gI τ k) ∧ (∀ j, ¬ (j = 16 ∨ j = 17 ∨ j = 18) → gA τ2 j = gA τ j) ∧ (∀ d, d < c → gA τ2 16 d = iI (rowL (skT L D) d).length) ∧ (∀ d i y : Nat, d < c → (rowL (skT L D) d)[i]? = some y → gA τ2 17 (24 * d + i) = iI y) ∧ (∀ p : Nat, p < c → gA τ2 18 p = iI p))
    (fun x => ∃ τ2, x = (iI ((8 : Nat) : Int), τ2) ∧ (∀ k, gI τ2 k = gI τ k) ∧ (∀ j, ¬ (j = 16 ∨ j = 17 ∨ j = 18) → gA τ2 j = gA τ j) ∧ RwM (gA τ2 17) (gA τ2 16) (rowL (skT L D)) ∧ (∀ p : Nat, p < 8 → gA τ2 18 p = iI p))
    8 FU (by unfold FU; omega) (fun c x hc hg => ?_) (fun x hg => ?_) (0, τ) ⟨τ, rfl, fun _ => rfl, fun _ _ => rfl, fun d hd => absurd hd (by omega), fun d i y hd => absurd hd (by omega), fun d hd => absurd hd (by omega)⟩
  · obtain ⟨x, e, τ2, rfl, r⟩ := key
    exact ⟨τ2, e, r⟩
  · obtain ⟨τ2, rfl, a1, a2, a3, a4, a5⟩ := hg
    have c16 : gA (sA τ2 16 (upd (gA τ2 16) c 0)) 16 c = 0 := by
      rw [gA_sA]; unfold upd; rw [if_pos rfl]
    obtain ⟨τ3, e3, b1, b2, b3, b4, b5, b6⟩ := m_rowSet (τ := sA τ2 16 (upd (gA τ2 16) c 0)) (D := D) hT ((a1 9).trans h9) hc (fun k hk => by rw [gA_sAn _ (by omega), a2 7 (by omega)]; exact l2 k hk) l3 l4 c16
    have eL : x_X10_sets_L201 (iI (c : Int)) τ2 = some (true, (iI ((c + 1 : Nat) : Int), sA τ3 18 (upd (gA τ3 18) c (iI c)))) := by
      unfold x_X10_sets_L201
      simp (disch := omega) only [qM8]
      rw [if_neg (by omega), stI_in (show c < lenM 16 from hc) (by decide), bd_some, e3, bd2_some, stI_in (show c < lenM 18 from hc) (by decide), bd_some, qa1]
      rfl
    refine ⟨_, eL, _, rfl, fun k => (b1 k).trans (a1 k), fun j hj => ?_, fun d hd => ?_, fun d i y hd hy => ?_, fun p hp => ?_⟩
    · rw [gA_sAn _ (by omega), b2 j (by omega), gA_sAn _ (by omega), a2 j hj]
    · rw [gA_sAn _ (by omega)]
      by_cases e : d = c
      · rw [e]; exact b3
      · rw [b4 d e, gA_sA]
        unfold upd
        rw [if_neg e]; exact a3 d (by omega)
    · rw [gA_sAn _ (by omega)]
      by_cases e : d = c
      · subst e; exact b5 i y hy
      · have hl := (List.getElem?_eq_some_iff.mp hy).1
        have hl24 := rowL_len (skT L D) d
        rw [b6 (24 * d + i) (by omega), gA_sAn _ (by omega)]
        exact a4 d i y (by omega) hy
    · rw [gA_sA]
      unfold upd
      by_cases e : p = c
      · rw [if_pos e, e]
      · rw [if_neg e, b2 18 (by omega), gA_sAn _ (by omega)]; exact a5 p (by omega)
  · obtain ⟨τ2, rfl, a1, a2, a3, a4, a5⟩ := hg
    refine ⟨(iI ((8 : Nat) : Int), τ2), ?_, τ2, rfl, a1, a2, ⟨a3, fun c i k hc hy => a4 c i k hc hy⟩, a5⟩
    show x_X10_sets_L201 (iI ((8 : Nat) : Int)) τ2 = _
    unfold x_X10_sets_L201
    simp (disch := omega) only [qM8]
    rw [if_pos (by omega)]
theorem m_twoSet (τ : St) : ∃ τ2, lp (fun v : (Int32 × St) => x_X10_sets_L163 v.1 v.2) FU (0, τ) = some (iI ((24 : Nat) : Int), τ2) ∧ (∀ k, gI τ2 k = gI τ k) ∧ (∀ j, ¬ (j = 7 ∨ j = 8) → gA τ2 j = gA τ j) ∧ (∀ k, k < 24 → gA τ2 7 k = gA τ 14 k ∧ gA τ2 8 k = gA τ 15 k) := by
  have key := lp_inv (f := fun v : (Int32 × St) => x_X10_sets_L163 v.1 v.2)
    (fun i x => ∃ τ2, x = (iI (i : Nat), τ2) ∧ (∀ k, gI τ2 k = gI τ k) ∧ (∀ j, ¬ (j = 7 ∨ j = 8) → gA τ2 j = gA τ j) ∧ (∀ k, k < i → gA τ2 7 k = gA τ 14 k ∧ gA τ2 8 k = gA τ 15 k))
    (fun x => ∃ τ2, x = (iI ((24 : Nat) : Int), τ2) ∧ (∀ k, gI τ2 k = gI τ k) ∧ (∀ j, ¬ (j = 7 ∨ j = 8) → gA τ2 j = gA τ j) ∧ (∀ k, k < 24 → gA τ2 7 k = gA τ 14 k ∧ gA τ2 8 k = gA τ 15 k))
    24 FU (by unfold FU; omega) (fun i x hi hg => ?_) (fun x hg => ?_) (0, τ) ⟨τ, rfl, fun _ => rfl, fun _ _ => rfl, fun d hd => absurd hd (by omega)⟩
  · obtain ⟨x, e, τ2, rfl, r⟩ := key
    exact ⟨τ2, e, r⟩
  · obtain ⟨τ2, rfl, a1, a2, a3⟩ := hg
    refine ⟨(iI ((i + 1 : Nat) : Int), sA (sA τ2 7 (upd (gA τ2 7) i (gA τ2 14 i))) 8 (upd (gA τ2 8) i (gA τ2 15 i))), ?_, _, rfl, a1, fun j hj => ?_, fun k hk => ?_⟩
    · show x_X10_sets_L163 (iI (i : Int)) τ2 = _
      unfold x_X10_sets_L163
      simp (disch := omega) only [qM24]
      rw [if_neg (by omega), ldI_in (show i < lenM 14 from hi) (by decide), bd_some, stI_in (show i < lenM 7 from hi) (by decide), bd_some, gA_sAn _ (show 15 ≠ 7 by omega), ldI_in (show i < lenM 15 from hi) (by decide), bd_some, stI_in (show i < lenM 8 from hi) (by decide), bd_some, gA_sAn _ (show 8 ≠ 7 by omega), qa1]
      rfl
    · rw [gA_sAn _ (by omega), gA_sAn _ (by omega), a2 j hj]
    · rw [gA_sAn _ (show 7 ≠ 8 by omega), gA_sA, gA_sA]
      unfold upd
      by_cases e : k = i
      · rw [if_pos e, if_pos e, a2 14 (by omega), a2 15 (by omega), e]; exact ⟨rfl, rfl⟩
      · rw [if_neg e, if_neg e]; exact a3 k (by omega)
  · obtain ⟨τ2, rfl, r⟩ := hg
    refine ⟨(iI ((24 : Nat) : Int), τ2), ?_, τ2, rfl, r⟩
    show x_X10_sets_L163 (iI ((24 : Nat) : Int)) τ2 = _
    unfold x_X10_sets_L163
    simp (disch := omega) only [qM24]
    rw [if_pos (by omega)]
theorem m_sets {τ : St} {T : Td} {L : Nat → Int} {D : Nat → Nat} (hT : TdOk T) (hM : TdM 1 τ T) (l2 : ∀ k, k < tS T → gA τ 14 k = iI (L k)) (l3 : ∀ k, k < tS T → 0 ≤ L k ∧ L k < tC T) (l4 : ∀ k, tS T ≤ k → k < 24 → L k = -1) (d1 : ∀ k, k < 24 → gA τ 15 k = iI (D k)) :
    ∃ τ2, x_X10_sets τ = some τ2 ∧ TdM 0 τ2 T ∧ SkM τ2 (tS T) (skT L D) ∧ gI τ2 23 = 0 ∧ (∀ k, ¬ ((8 ≤ k ∧ k ≤ 11) ∨ k = 23) → gI τ2 k = gI τ k) ∧ (∀ j, ¬ ((2 ≤ j ∧ j ≤ 8) ∨ (16 ≤ j ∧ j ≤ 18)) → gA τ2 j = gA τ j) := by
  have hTT := hT
  obtain ⟨t1, t2, t3, -⟩ := hT
  obtain ⟨m1, m2, m3, m4, m5, m6, m7, m8, m9⟩ := hM
  have i0 : gI (sI (sI (sI (sI τ 8 (gI τ 12)) 9 (gI τ 13)) 10 (gI τ 14)) 11 (gI τ 15)) 8 = gI τ 12 := by rw [gI_sIn _ (by omega), gI_sIn _ (by omega), gI_sIn _ (by omega), gI_sI]
  have i1 : gI (sI (sI (sI (sI τ 8 (gI τ 12)) 9 (gI τ 13)) 10 (gI τ 14)) 11 (gI τ 15)) 9 = gI τ 13 := by rw [gI_sIn _ (by omega), gI_sIn _ (by omega), gI_sI]
  have i2 : gI (sI (sI (sI (sI τ 8 (gI τ 12)) 9 (gI τ 13)) 10 (gI τ 14)) 11 (gI τ 15)) 10 = gI τ 14 := by rw [gI_sIn _ (by omega), gI_sI]
  have i3 : gI (sI (sI (sI (sI τ 8 (gI τ 12)) 9 (gI τ 13)) 10 (gI τ 14)) 11 (gI τ 15)) 11 = gI τ 15 := gI_sI _ _ _
  have iI' : ∀ k, ¬ (8 ≤ k ∧ k ≤ 11) → gI (sI (sI (sI (sI τ 8 (gI τ 12)) 9 (gI τ 13)) 10 (gI τ 14)) 11 (gI τ 15)) k = gI τ k := fun k hk => by rw [gI_sIn _ (by omega), gI_sIn _ (by omega), gI_sIn _ (by omega), gI_sIn _ (by omega)]
  have iA' : ∀ j, gA (sI (sI (sI (sI τ 8 (gI τ 12)) 9 (gI τ 13)) 10 (gI τ 14)) 11 (gI τ 15)) j = gA τ j := fun _ => rfl
  have em : x_X10_sets τ = x_X10_sets τ := rfl
  conv at em => rhs; unfold x_X10_sets
  rw [bd_some, bd_some, bd_some, bd_some] at em
  rw [gI_sIn τ (show 13 ≠ 8 by omega), gI_sIn (sI τ 8 (gI τ 12)) (show 14 ≠ 9 by omega), gI_sIn τ (show 14 ≠ 8 by omega), gI_sIn (sI (sI τ 8 (gI τ 12)) 9 (gI τ 13)) (show 15 ≠ 10 by omega), gI_sIn (sI τ 8 (gI τ 12)) (show 15 ≠ 9 by omega), gI_sIn τ (show 15 ≠ 8 by omega)] at em
  generalize sI (sI (sI (sI τ 8 (gI τ 12)) 9 (gI τ 13)) 10 (gI τ 14)) 11 (gI τ 15) = τ4 at *
  obtain ⟨A, a1, a2⟩ := cp_loop (a := 9) (b := 2) (n := 8) (τ := τ4) (f := fun v : (Int32 × St) => x_X10_sets_L34 v.1 v.2) (by omega) (by decide) (by decide) (by omega) (by decide) (by decide) (fun i σ hi => by
    show x_X10_sets_L34 (iI (i : Int)) σ = _
    unfold x_X10_sets_L34
    rw [show (8 : Int32) = iI ((8 : Nat) : Int) from rfl]
    simp (disch := omega) only [iI_leD, Int.ofNat_le])
  obtain ⟨B, b1, b2⟩ := cp_loop (a := 10) (b := 3) (n := 72) (τ := sA τ4 2 A) (f := fun v : (Int32 × St) => x_X10_sets_L60 v.1 v.2) (by omega) (by decide) (by decide) (by omega) (by decide) (by decide) (fun i σ hi => by
    show x_X10_sets_L60 (iI (i : Int)) σ = _
    unfold x_X10_sets_L60
    rw [show (72 : Int32) = iI ((72 : Nat) : Int) from rfl]
    simp (disch := omega) only [iI_leD, Int.ofNat_le])
  obtain ⟨C, c1, c2⟩ := cp_loop (a := 11) (b := 4) (n := 36) (τ := sA (sA τ4 2 A) 3 B) (f := fun v : (Int32 × St) => x_X10_sets_L86 v.1 v.2) (by omega) (by decide) (by decide) (by omega) (by decide) (by decide) (fun i σ hi => by
    show x_X10_sets_L86 (iI (i : Int)) σ = _
    unfold x_X10_sets_L86
    rw [show (36 : Int32) = iI ((36 : Nat) : Int) from rfl]
    simp (disch := omega) only [iI_leD, Int.ofNat_le])
  obtain ⟨G, g1, g2⟩ := cp_loop (a := 12) (b := 5) (n := 9) (τ := sA (sA (sA τ4 2 A) 3 B) 4 C) (f := fun v : (Int32 × St) => x_X10_sets_L112 v.1 v.2) (by omega) (by decide) (by decide) (by omega) (by decide) (by decide) (fun i σ hi => by
    show x_X10_sets_L112 (iI (i : Int)) σ = _
    unfold x_X10_sets_L112
    rw [show (9 : Int32) = iI ((9 : Nat) : Int) from rfl]
    simp (disch := omega) only [iI_leD, Int.ofNat_le])
  obtain ⟨K, k1, k2⟩ := cp_loop (a := 13) (b := 6) (n := 4) (τ := sA (sA (sA (sA τ4 2 A) 3 B) 4 C) 5 G) (f := fun v : (Int32 × St) => x_X10_sets_L138 v.1 v.2) (by omega) (by decide) (by decide) (by omega) (by decide) (by decide) (fun i σ hi => by
    show x_X10_sets_L138 (iI (i : Int)) σ = _
    unfold x_X10_sets_L138
    rw [show (4 : Int32) = iI ((4 : Nat) : Int) from rfl]
    simp (disch := omega) only [iI_leD, Int.ofNat_le])
  obtain ⟨τ6, w1, w2, w3, w4⟩ := m_twoSet (sA (sA (sA (sA (sA τ4 2 A) 3 B) 4 C) 5 G) 6 K)
  have w3' : ∀ j, ¬ (2 ≤ j ∧ j ≤ 8) → gA τ6 j = gA τ j := fun j hj => by rw [w3 j (by omega), gA_sAn _ (by omega), gA_sAn _ (by omega), gA_sAn _ (by omega), gA_sAn _ (by omega), gA_sAn _ (by omega), iA']
  have l7 : ∀ k, k < tS T → gA τ6 7 k = iI (L k) := fun k hk => by
    rw [(w4 k (by omega)).1, gA_sAn _ (by omega), gA_sAn _ (by omega), gA_sAn _ (by omega), gA_sAn _ (by omega), gA_sAn _ (by omega), iA']; exact l2 k hk
  have l8 : ∀ k, k < 24 → gA τ6 8 k = iI (D k) := fun k hk => by
    rw [(w4 k (by omega)).2, gA_sAn _ (by omega), gA_sAn _ (by omega), gA_sAn _ (by omega), gA_sAn _ (by omega), gA_sAn _ (by omega), iA']; exact d1 k hk
  have wI : ∀ k, gI τ6 k = gI τ4 k := fun k => (w2 k).trans rfl
  obtain ⟨τ7, r1, r2, r3, r4, r5⟩ := m_rowsSet (τ := τ6) (T := T) (L := L) (D := D) hTT ((wI 9).trans (i1.trans m2)) l7 l3 l4
  rw [a1, bd2_some, b1, bd2_some, c1, bd2_some, g1, bd2_some, k1, bd2_some, w1, bd2_some, r1, bd2_some, bd_some] at em
  have rI : ∀ k, k ≠ 23 → gI (sI τ7 23 0) k = gI τ4 k := fun k hk => by rw [gI_sIn _ hk, r2 k, wI k]
  refine ⟨_, em, ⟨(rI 8 (by omega)).trans (i0.trans m1), (rI 9 (by omega)).trans (i1.trans m2), (rI 10 (by omega)).trans (i2.trans m3), (rI 11 (by omega)).trans (i3.trans m4), fun c hc => ?_, fun k w hk hw => ?_, fun k w hk hw => ?_, fun f h1 h2 => ?_, fun i hi => ?_⟩, ⟨r4, fun k hk => ?_, fun k hk => ?_, r5⟩, gI_sI _ _ _, fun k hk => (rI k (by omega)).trans (iI' k (by omega)), fun j hj => ?_⟩
  · show gA τ7 2 c = _
    rw [r3 2 (by omega), w3 2 (by omega), gA_sAn _ (by omega), gA_sAn _ (by omega), gA_sAn _ (by omega), gA_sAn _ (by omega), gA_sA, a2 c (by omega), iA']
    exact m5 c hc
  · show gA τ7 3 (3 * k + w) = _
    rw [r3 3 (by omega), w3 3 (by omega), gA_sAn _ (by omega), gA_sAn _ (by omega), gA_sAn _ (by omega), gA_sA, b2 (3 * k + w) (by omega), gA_sAn _ (by omega), iA']
    exact m6 k w hk hw
  · show gA τ7 4 (6 * k + w) = _
    rw [r3 4 (by omega), w3 4 (by omega), gA_sAn _ (by omega), gA_sAn _ (by omega), gA_sA, c2 (6 * k + w) (by omega), gA_sAn _ (by omega), gA_sAn _ (by omega), iA']
    exact m7 k w hk hw
  · show gA τ7 5 f = _
    rw [r3 5 (by omega), w3 5 (by omega), gA_sAn _ (by omega), gA_sA, g2 f (by omega), gA_sAn _ (by omega), gA_sAn _ (by omega), gA_sAn _ (by omega), iA']
    exact m8 f h1 h2
  · show gA τ7 6 i = _
    rw [r3 6 (by omega), w3 6 (by omega), gA_sA, k2 i (by omega), gA_sAn _ (by omega), gA_sAn _ (by omega), gA_sAn _ (by omega), gA_sAn _ (by omega), iA']
    exact m9 i hi
  · show gA τ7 7 k = iI (L k)
    rw [r3 7 (by omega)]; exact l7 k hk
  · show gA τ7 8 k = iI (D k)
    rw [r3 8 (by omega)]; exact l8 k (by omega)
  · show gA τ7 j = gA τ j
    rw [r3 j (by omega), w3' j (by omega)]
