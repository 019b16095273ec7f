/-! what stands at the law's entry -/
def NR : Cond := Jvm.Cond.and given_1 narrow_1
def tmR (i : Nat) : Term := Jvm.Term.string "FlickedCrates$Reader" (kR i)
def nrB (i : Nat) : Nat := [97, 107, 119, 130, 142, 157, 171, 186, 202].getD i 0
def nrM (i : Nat) : Nat := [350, 375, 399, 424, 452, 479, 507, 536, 566].getD i 0
theorem nr_of {args : Array Value} {s : State} (h : NR.before args s = true) {k : Nat} {c : Cond} (e : (flatC NR)[k]? = some c) : c.before args s = true := flat_of_before NR h c (List.mem_of_getElem? e)
theorem nr_ex : ∀ i, i < 9 → (flatC NR)[nrB i]? = some (Cond.exactly (tmR i) "java/lang/String") := by decide +kernel
theorem nr_co : ∀ i, i < 9 → (flatC NR)[nrB i + 1]? = some (Cond.eq (.field (tmR i) "java/lang/String" "coder" "B") (.int 0)) := by decide +kernel
theorem nr_ar : ∀ i, i < 9 → (flatC NR)[nrB i + 2]? = some (Cond.arrayOf (.field (tmR i) "java/lang/String" "value" "[B") .byte) := by decide +kernel
theorem nr_le : ∀ i, i < 9 → (flatC NR)[nrB i + 3]? = some (Cond.eq (.length (.field (tmR i) "java/lang/String" "value" "[B")) (.int (Int32.ofNat (lenS.getD i 0)))) := by decide +kernel
theorem nr_el : ∀ i, i < 9 → ∀ j, j < lenS.getD i 0 → (flatC NR)[nrB i + 4 + j]? = some (Cond.eq (.elem (.field (tmR i) "java/lang/String" "value" "[B") (.int (Int32.ofNat j))) (.int ((bytS.getD i []).getD j 0))) := by decide +kernel
theorem nr_ne : ∀ i, i < 9 → ∀ j, j < i → (flatC NR)[nrB i + 4 + lenS.getD i 0 + 1 + j]? = some (Cond.not (.eq (tmR j) (tmR i))) := by decide +kernel
theorem nr_mo : ∀ i, i < 9 → (flatC NR)[nrM i]? = some (Cond.eq (tmR i) (.string "FlickedCratesModel" (kMo i))) := by decide +kernel
def nrC (i j : Nat) : Nat := ([[0, 51, 22, 65], [37, 0, 23, 66], [36, 50, 0, 64], [38, 52, 24, 0]].getD i []).getD j 0
theorem nr_nc : ∀ i, i < 4 → ∀ j, j < 4 → i ≠ j → (flatC NR)[nrC i j]? = some (Cond.not (.castable (exN (i + 1)) (exN (j + 1)))) := by decide +kernel
theorem lw_NC {args : Array Value} {s : State} (h : NR.before args s = true) : NCs s := fun i j hi hj hn => va_Nc.of (nr_of h (nr_nc i hi j hj hn))
theorem lw_refeq {args : Array Value} {s : State} {t u : Term} {a : Nat} (h : (Cond.eq t u).before args s = true) (ht : t.eval args s none [] s = some (.ref a)) : u.eval args s none [] s = some (.ref a) := by
  cases hu : u.eval args s none [] s with
  | none => simp [Cond.before, Cond.holds, Cond.value, ht, hu] at h
  | some w =>
    simp only [Cond.before, Cond.holds, Cond.value, ht, hu] at h
    cases w <;> simp_all
theorem lw_S {args : Array Value} {s : State} (h : NR.before args s = true) : ∃ adK adV : Nat → Nat, vk_S 9 lenS bytS adK adV (lwA s) s s.heap ∧ ∀ i : Nat, i < 9 → (tmR i).eval args s none [] s = some (.ref (adK i)) := by
  refine vk_Sof (tm := tmR) (fun i hi => ?_) (fun i hi => nr_of h (nr_ex i hi)) (fun i hi => nr_of h (nr_co i hi)) (fun i hi => nr_of h (nr_ar i hi)) (fun i hi => nr_of h (nr_le i hi)) (fun i hi j hj => nr_of h (nr_el i hi j hj)) (fun i j hi hj hn => ?_) (fun a ha q => absurd ha (Nat.not_lt.mpr q))
  · have := lenS_sm i hi
    omega
  · by_cases q : j < i
    · exact Or.inr (nr_of h (nr_ne i hi j q))
    · exact Or.inl (nr_of h (nr_ne j hj i (by omega)))
theorem lw_sR : ∀ i, i < 9 → Cond.stringRef "FlickedCrates$Reader" (kR i) (txS i) ∈ lw_tbl := by
  intro i hi
  match i, hi with
  | 0, _ => exact tb_4 (List.mem_of_getElem? (i := 33) rfl)
  | 1, _ => exact tb_4 (List.mem_of_getElem? (i := 34) rfl)
  | 2, _ => exact tb_4 (List.mem_of_getElem? (i := 35) rfl)
  | 3, _ => exact tb_4 (List.mem_of_getElem? (i := 36) rfl)
  | 4, _ => exact tb_4 (List.mem_of_getElem? (i := 37) rfl)
  | 5, _ => exact tb_4 (List.mem_of_getElem? (i := 38) rfl)
  | 6, _ => exact tb_4 (List.mem_of_getElem? (i := 39) rfl)
  | 7, _ => exact tb_4 (List.mem_of_getElem? (i := 40) rfl)
  | 8, _ => exact tb_4 (List.mem_of_getElem? (i := 41) rfl)
  | k + 9, h => exact absurd h (by omega)
theorem lw_sM : ∀ i, i < 9 → Cond.stringRef "FlickedCratesModel" (kMo i) (txS i) ∈ lw_tbl := by
  intro i hi
  match i, hi with
  | 0, _ => exact tb_7 (List.mem_of_getElem? (i := 89) rfl)
  | 1, _ => exact tb_7 (List.mem_of_getElem? (i := 98) rfl)
  | 2, _ => exact tb_7 (List.mem_of_getElem? (i := 99) rfl)
  | 3, _ => exact tb_7 (List.mem_of_getElem? (i := 100) rfl)
  | 4, _ => exact tb_7 (List.mem_of_getElem? (i := 101) rfl)
  | 5, _ => exact tb_7 (List.mem_of_getElem? (i := 102) rfl)
  | 6, _ => exact tb_7 (List.mem_of_getElem? (i := 103) rfl)
  | 7, _ => exact tb_7 (List.mem_of_getElem? (i := 104) rfl)
  | 8, _ => exact tb_7 (List.mem_of_getElem? (i := 105) rfl)
  | k + 9, h => exact absurd h (by omega)
theorem nr_x344 : (flatC NR)[219]? = some (Cond.exactly (.string "FlickedCrates" 344) "java/lang/String") := by decide +kernel
theorem lw_x344 {args : Array Value} {s : State} (hts : ∀ w ∈ lw_tbl, w.before args s = true) (h : NR.before args s = true) : ∃ a, vk_R "FlickedCrates" 344 "no such crate" a s := by
  obtain ⟨a, c, cA, kA, q1, -⟩ := Cond.exactly_spec (args := args) (first := s) (o := none) (s := s) (idx := []) (t := .string "FlickedCrates" 344) (cls := "java/lang/String") (nr_of h nr_x344)
  exact ⟨a, vk_R.of (hts _ (tb_4 (List.mem_of_getElem? (i := 210) rfl))) q1⟩
theorem nr_x351 : (flatC NR)[246]? = some (Cond.exactly (.string "FlickedCrates" 351) "java/lang/String") := by decide +kernel
theorem lw_x351 {args : Array Value} {s : State} (hts : ∀ w ∈ lw_tbl, w.before args s = true) (h : NR.before args s = true) : ∃ a, vk_R "FlickedCrates" 351 "no such sleeve" a s := by
  obtain ⟨a, c, cA, kA, q1, -⟩ := Cond.exactly_spec (args := args) (first := s) (o := none) (s := s) (idx := []) (t := .string "FlickedCrates" 351) (cls := "java/lang/String") (nr_of h nr_x351)
  exact ⟨a, vk_R.of (hts _ (tb_5 (List.mem_of_getElem? (i := 10) rfl))) q1⟩
theorem nr_x354 : (flatC NR)[275]? = some (Cond.exactly (.string "FlickedCrates" 354) "java/lang/String") := by decide +kernel
theorem lw_x354 {args : Array Value} {s : State} (hts : ∀ w ∈ lw_tbl, w.before args s = true) (h : NR.before args s = true) : ∃ a, vk_R "FlickedCrates" 354 "no such looker" a s := by
  obtain ⟨a, c, cA, kA, q1, -⟩ := Cond.exactly_spec (args := args) (first := s) (o := none) (s := s) (idx := []) (t := .string "FlickedCrates" 354) (cls := "java/lang/String") (nr_of h nr_x354)
  exact ⟨a, vk_R.of (hts _ (tb_5 (List.mem_of_getElem? (i := 34) rfl))) q1⟩
theorem nr_x358 : (flatC NR)[67]? = some (Cond.exactly (.string "FlickedCrates" 358) "java/lang/String") := by decide +kernel
theorem lw_x358 {args : Array Value} {s : State} (hts : ∀ w ∈ lw_tbl, w.before args s = true) (h : NR.before args s = true) : ∃ a, vk_R "FlickedCrates" 358 "a number that does not fit" a s := by
  obtain ⟨a, c, cA, kA, q1, -⟩ := Cond.exactly_spec (args := args) (first := s) (o := none) (s := s) (idx := []) (t := .string "FlickedCrates" 358) (cls := "java/lang/String") (nr_of h nr_x358)
  exact ⟨a, vk_R.of (hts _ (tb_3 (List.mem_of_getElem? (i := 225) rfl))) q1⟩
theorem nr_x363 : (flatC NR)[305]? = some (Cond.exactly (.string "FlickedCrates" 363) "java/lang/String") := by decide +kernel
theorem lw_x363 {args : Array Value} {s : State} (hts : ∀ w ∈ lw_tbl, w.before args s = true) (h : NR.before args s = true) : ∃ a, vk_R "FlickedCrates" 363 "the sleeve is sold" a s := by
  obtain ⟨a, c, cA, kA, q1, -⟩ := Cond.exactly_spec (args := args) (first := s) (o := none) (s := s) (idx := []) (t := .string "FlickedCrates" 363) (cls := "java/lang/String") (nr_of h nr_x363)
  exact ⟨a, vk_R.of (hts _ (tb_5 (List.mem_of_getElem? (i := 67) rfl))) q1⟩
theorem nr_s1 : (flatC NR)[4]? = some (Cond.isRef (.static Bundle.tN "UNASSIGNED_STACK" Bundle.steD)) := by decide +kernel
theorem nr_s2 : (flatC NR)[5]? = some (Cond.isRef (.static Bundle.tN "SUPPRESSED_SENTINEL" Bundle.listD)) := by decide +kernel
theorem nr_s3 : (flatC NR)[6]? = some (Cond.eq (.static "java/lang/String" "COMPACT_STRINGS" "Z") (.int 1)) := by decide +kernel
theorem nr_s4 : (flatC NR)[7]? = some (Cond.isRef (.static "jdk/internal/util/Preconditions" "SIOOBE_FORMATTER" "Ljava/util/function/BiFunction;")) := by decide +kernel
theorem lw_xW : ∀ w ∈ xW, w ∈ lw_tbl := by
  intro w hw
  simp only [xW, List.mem_cons, List.not_mem_nil, or_false] at hw
  rcases hw with rfl | rfl | rfl | rfl | rfl | rfl | rfl
  · exact tb_4 (List.mem_of_getElem? (i := 203) rfl)
  · exact tb_5 (List.mem_of_getElem? (i := 3) rfl)
  · exact tb_3 (List.mem_of_getElem? (i := 185) rfl)
  · exact tb_5 (List.mem_of_getElem? (i := 60) rfl)
  · exact tb_3 (List.mem_of_getElem? (i := 187) rfl)
  · exact tb_3 (List.mem_of_getElem? (i := 189) rfl)
  · exact tb_3 (List.mem_of_getElem? (i := 191) rfl)
theorem lw_nW : ∀ w ∈ nestW, w ∈ lw_tbl := by
  intro w hw
  simp only [nestW, List.mem_cons, List.not_mem_nil, or_false] at hw
  rcases hw with rfl | rfl | rfl | rfl | rfl | rfl | rfl | rfl | rfl
  · exact tb_1 (List.mem_of_getElem? (i := 46) rfl)
  · exact tb_1 (List.mem_of_getElem? (i := 115) rfl)
  · exact tb_1 (List.mem_of_getElem? (i := 149) rfl)
  · exact tb_1 (List.mem_of_getElem? (i := 187) rfl)
  · exact tb_2 (List.mem_of_getElem? (i := 79) rfl)
  · exact tb_2 (List.mem_of_getElem? (i := 231) rfl)
  · exact tb_3 (List.mem_of_getElem? (i := 15) rfl)
  · exact tb_5 (List.mem_of_getElem? (i := 178) rfl)
  · exact tb_5 (List.mem_of_getElem? (i := 208) rfl)
theorem lw_NW {args : Array Value} {s : State} (hts : ∀ w ∈ lw_tbl, w.before args s = true) : NW s := by
  intro w hw
  have h := hts w (lw_nW w hw)
  simp only [nestW, List.mem_cons, List.not_mem_nil, or_false] at hw
  rcases hw with rfl | rfl | rfl | rfl | rfl | rfl | rfl | rfl | rfl <;> exact va_Nw.of rfl h
theorem lw_XW {args : Array Value} {s : State} (hts : ∀ w ∈ lw_tbl, w.before args s = true) : xNW s := by
  intro w hw
  have h := hts w (lw_xW w hw)
  simp only [xW, List.mem_cons, List.not_mem_nil, or_false] at hw
  rcases hw with rfl | rfl | rfl | rfl | rfl | rfl | rfl <;> exact va_Nw.of rfl h
theorem lw_AO {args : Array Value} {s : State} (hts : ∀ w ∈ lw_tbl, w.before args s = true) : va_AO "FlickedCrates$Stock" s := va_AO.of (hts _ (tb_1 (List.mem_of_getElem? (i := 141) rfl)))
theorem vk_S.congr {N : Nat} {len : List Nat} {byt : List (List Int32)} {k v k2 v2 : Nat → Nat} {A : Nat → Prop} {U : State} {H : Heap} (h : vk_S N len byt k v A U H) (h1 : ∀ i, i < N → k2 i = k i) (h2 : ∀ i, i < N → v2 i = v i) : vk_S N len byt k2 v2 A U H := by
  obtain ⟨q1, q2⟩ := h
  refine ⟨fun i hi => ?_, fun i j hi hj e => q2 i j hi hj (by rw [← h1 i hi, ← h1 j hj]; exact e)⟩
  rw [h1 i hi, h2 i hi]
  exact q1 i hi
def adZ (k v : Nat → Nat) : Nat → Nat := fun i => if i < 1000 then 0 else if i < 2000 then k (i - 1000) else v (i - 2000)
theorem lw_FZ0 {args : Array Value} {s : State} (hts : ∀ w ∈ lw_tbl, w.before args s = true) (h : NR.before args s = true) : ∃ ad : Nat → Nat, ∀ (D : va_G) (cI cJ cO : ClassId), FZ (D, cI, cJ, cO, ad) (lwA s) s s.heap := by
  obtain ⟨k, v, hS, hK⟩ := lw_S h
  have hA : ∀ a : Nat, a < s.heap.size → ¬ lwA s a := fun a ha q => absurd ha (Nat.not_lt.mpr q)
  have ek : ∀ i, i < 9 → adZ k v (1000 + i) = k i := fun i hi => by
    unfold adZ
    rw [if_neg (by omega), if_pos (by omega), Nat.add_sub_cancel_left]
  have ev : ∀ i, i < 9 → adZ k v (2000 + i) = v i := fun i hi => by
    unfold adZ
    rw [if_neg (by omega), if_neg (by omega), Nat.add_sub_cancel_left]
  refine ⟨adZ k v, fun D cI cJ cO => ⟨?_, ?_, lw_XW hts, hS.congr (fun i hi => ek i hi) (fun i hi => ev i hi), fun i hi => ?_, fun i hi => ?_, lw_x344 hts h, lw_x351 hts h, lw_x354 hts h, lw_x358 hts h, lw_x363 hts h, ?_, ?_⟩⟩
  · exact vx_Zqof (hts _ (tb_3 (List.mem_of_getElem? (i := 210) rfl))) (hts _ (tb_1 (List.mem_of_getElem? (i := 12) rfl))) (nr_of h nr_s1) hA
  · exact vx_Zqof (hts _ (tb_3 (List.mem_of_getElem? (i := 212) rfl))) (hts _ (tb_1 (List.mem_of_getElem? (i := 12) rfl))) (nr_of h nr_s2) hA
  · have e : adS (D, cI, cJ, cO, adZ k v) i = k i := ek i hi
    rw [e]
    exact vk_R.of (hts _ (lw_sR i hi)) (hK i hi)
  · have e : adS (D, cI, cJ, cO, adZ k v) i = k i := ek i hi
    rw [e]
    exact vk_R.of (hts _ (lw_sM i hi)) (lw_refeq (nr_of h (nr_mo i hi)) (hK i hi))
  · exact va_Zof (hts _ (tb_4 (List.mem_of_getElem? (i := 55) rfl))) (hts _ (tb_1 (List.mem_of_getElem? (i := 16) rfl))) (va_eqt (nr_of h nr_s3)) hA
  · exact va_Zqof (hts _ (tb_4 (List.mem_of_getElem? (i := 71) rfl))) (hts _ (tb_1 (List.mem_of_getElem? (i := 18) rfl))) (nr_of h nr_s4) hA
theorem lw_arr {args : Array Value} {s : State} {ty : FieldType} (h : (Cond.arrayClass ty).before args s = true) : ∃ cA : ClassId, ArrOfT s cA ty ∧ s.vm.findClass ("[" ++ ty.toString) = some cA := by
  obtain ⟨cA, kA, comp, h1, h2, h3⟩ := Cond.arrayClass_spec (args := args) (first := s) (o := none) (s := s) (idx := []) h
  exact ⟨cA, fun n z => ⟨fun k q => (by cases q), kA, h2, comp, h3⟩, h1⟩
theorem lw_K {args : Array Value} {s : State} (hts : ∀ w ∈ lw_tbl, w.before args s = true) : ∃ (D : va_G) (cI cJ cO : ClassId), va_K D vwCl [(cI, .int), (cJ, .long), (cO, .object "FlickedCrates$Stock")] s := by
  have hT : ∀ w ∈ TBL, w.before args s = true := fun w h => hts w (tb_lw w h)
  obtain ⟨c0, z0, n0⟩ := u_known (C := RX0) (T := TX0) (N := 4) (n := 4) hT iX0 (hT _ mk_2_36)
  obtain ⟨c1, z1, n1⟩ := u_known (C := RX1) (T := TX1) (N := 16) (n := 16) hT iX1 (hT _ mk_1_181)
  obtain ⟨c2, z2, n2⟩ := u_known (C := RX2) (T := TX2) (N := 1) (n := 1) hT iX2 (hT _ mk_1_34)
  obtain ⟨c3, z3, n3⟩ := u_known (C := RX3) (T := TX3) (N := 9) (n := 9) hT iX3 (hT _ mk_1_143)
  obtain ⟨c4, z4, n4⟩ := u_known (C := RX4) (T := TX4) (N := 7) (n := 7) hT iX4 (hT _ mk_2_78)
  obtain ⟨c5, z5, n5⟩ := u_known (C := RX5) (T := TX5) (N := 4) (n := 4) hT iX5 (hT _ mk_1_114)
  obtain ⟨c6, z6, n6⟩ := u_known (C := RX6) (T := TX6) (N := 3) (n := 3) hT iX6 (hT _ mk_2_59)
  obtain ⟨c7, z7, n7⟩ := u_known (C := RX7) (T := TX7) (N := 11) (n := 11) hT iX7 (hT _ mk_1_45)
  obtain ⟨c8, z8, n8⟩ := u_known (C := RX8) (T := TX8) (N := 6) (n := 6) hT iX8 (hT _ mk_2_6)
  obtain ⟨c9, z9, n9⟩ := u_known (C := RX9) (T := TX9) (N := 14) (n := 14) hT iX9 (hT _ mk_1_26)
  obtain ⟨c10, z10, n10⟩ := u_known (C := RX10) (T := TX10) (N := 64) (n := 64) hT iX10 (hT _ mk_6_80)
  obtain ⟨cI, hI1, hI2⟩ := lw_arr (hT _ mk_1_43)
  obtain ⟨cJ, hJ1, hJ2⟩ := lw_arr (hT _ mk_2_34)
  obtain ⟨comp, cO, kO, hO1, -, hO2, hO3, hO4⟩ := Cond.arrayOver_spec (args := args) (first := s) (o := none) (s := s) (idx := []) (n := "FlickedCrates$Stock") (hts _ (tb_1 (List.mem_of_getElem? (i := 141) rfl)))
  refine ⟨(fun k => [c0, c1, c2, c3, c4, c5, c6, c7, c8, c9, c10].getD k c0, fun k => [z0, z1, z2, z3, z4, z5, z6, z7, z8, z9, z10].getD k z0), cI, cJ, cO, fun k q hq => ?_, fun k q hq => ?_⟩
  · match k, hq with
    | 0, hq => cases hq; exact n0
    | 1, hq => cases hq; exact n1
    | 2, hq => cases hq; exact n2
    | 3, hq => cases hq; exact n3
    | 4, hq => cases hq; exact n4
    | 5, hq => cases hq; exact n5
    | 6, hq => cases hq; exact n6
    | 7, hq => cases hq; exact n7
    | 8, hq => cases hq; exact n8
    | 9, hq => cases hq; exact n9
    | 10, hq => cases hq; exact n10
    | k + 11, hq => simp [vwCl] at hq
  · match k, hq with
    | 0, hq => cases hq; exact ⟨hI1, hI2⟩
    | 1, hq => cases hq; exact ⟨hJ1, hJ2⟩
    | 2, hq => cases hq; exact ⟨fun n z => ⟨fun k q => (by cases q), kO, hO2, comp, hO3⟩, kO, comp, hO2, hO3, hO1, hO4⟩
    | k + 3, hq => simp at hq
