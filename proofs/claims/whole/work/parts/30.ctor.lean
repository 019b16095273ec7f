theorem df_X0 : ∀ j, j < 4 → defaultValue (tyX0 j) = vp_V [.null, .null, .null, .null] j := by
  intro j hj
  match j, hj with
  | 0, _ => rfl
  | 1, _ => rfl
  | 2, _ => rfl
  | 3, _ => rfl
  | k + 4, h => exact absurd h (by omega)
theorem df_X1 : ∀ j, j < 16 → defaultValue (tyX1 j) = vp_V [.null, .null, .null, .null, .null, .int 0, .null, .null, .null, .null, .null, .int 0, .int 0, .int 0, .int 0, .int 0] j := by
  intro j hj
  match j, hj with
  | 0, _ => rfl
  | 1, _ => rfl
  | 2, _ => rfl
  | 3, _ => rfl
  | 4, _ => rfl
  | 5, _ => rfl
  | 6, _ => rfl
  | 7, _ => rfl
  | 8, _ => rfl
  | 9, _ => rfl
  | 10, _ => rfl
  | 11, _ => rfl
  | 12, _ => rfl
  | 13, _ => rfl
  | 14, _ => rfl
  | 15, _ => rfl
  | k + 16, h => exact absurd h (by omega)
theorem df_X2 : ∀ j, j < 1 → defaultValue (tyX2 j) = vp_V [.null] j := by
  intro j hj
  match j, hj with
  | 0, _ => rfl
  | k + 1, h => exact absurd h (by omega)
theorem df_X3 : ∀ j, j < 9 → defaultValue (tyX3 j) = vp_V [.null, .int 0, .null, .int 0, .int 0, .int 0, .int 0, .int 0, .int 0] j := by
  intro j hj
  match j, hj with
  | 0, _ => rfl
  | 1, _ => rfl
  | 2, _ => rfl
  | 3, _ => rfl
  | 4, _ => rfl
  | 5, _ => rfl
  | 6, _ => rfl
  | 7, _ => rfl
  | 8, _ => rfl
  | k + 9, h => exact absurd h (by omega)
theorem df_X4 : ∀ j, j < 7 → defaultValue (tyX4 j) = vp_V [.int 0, .int 0, .int 0, .int 0, .int 0, .int 0, .null] j := by
  intro j hj
  match j, hj with
  | 0, _ => rfl
  | 1, _ => rfl
  | 2, _ => rfl
  | 3, _ => rfl
  | 4, _ => rfl
  | 5, _ => rfl
  | 6, _ => rfl
  | k + 7, h => exact absurd h (by omega)
theorem df_X5 : ∀ j, j < 4 → defaultValue (tyX5 j) = vp_V [.null, .null, .null, .null] j := by
  intro j hj
  match j, hj with
  | 0, _ => rfl
  | 1, _ => rfl
  | 2, _ => rfl
  | 3, _ => rfl
  | k + 4, h => exact absurd h (by omega)
theorem df_X6 : ∀ j, j < 3 → defaultValue (tyX6 j) = vp_V [.null, .null, .null] j := by
  intro j hj
  match j, hj with
  | 0, _ => rfl
  | 1, _ => rfl
  | 2, _ => rfl
  | k + 3, h => exact absurd h (by omega)
theorem df_X7 : ∀ j, j < 11 → defaultValue (tyX7 j) = vp_V [.int 0, .int 0, .int 0, .int 0, .null, .null, .null, .null, .null, .null, .null] j := by
  intro j hj
  match j, hj with
  | 0, _ => rfl
  | 1, _ => rfl
  | 2, _ => rfl
  | 3, _ => rfl
  | 4, _ => rfl
  | 5, _ => rfl
  | 6, _ => rfl
  | 7, _ => rfl
  | 8, _ => rfl
  | 9, _ => rfl
  | 10, _ => rfl
  | k + 11, h => exact absurd h (by omega)
theorem df_X8 : ∀ j, j < 6 → defaultValue (tyX8 j) = vp_V [.long 0, .null, .null, .null, .null, .null] j := by
  intro j hj
  match j, hj with
  | 0, _ => rfl
  | 1, _ => rfl
  | 2, _ => rfl
  | 3, _ => rfl
  | 4, _ => rfl
  | 5, _ => rfl
  | k + 6, h => exact absurd h (by omega)
theorem df_X9 : ∀ j, j < 14 → defaultValue (tyX9 j) = vp_V [.null, .int 0, .int 0, .null, .null, .null, .int 0, .null, .null, .null, .null, .null, .null, .null] j := by
  intro j hj
  match j, hj with
  | 0, _ => rfl
  | 1, _ => rfl
  | 2, _ => rfl
  | 3, _ => rfl
  | 4, _ => rfl
  | 5, _ => rfl
  | 6, _ => rfl
  | 7, _ => rfl
  | 8, _ => rfl
  | 9, _ => rfl
  | 10, _ => rfl
  | 11, _ => rfl
  | 12, _ => rfl
  | 13, _ => rfl
  | k + 14, h => exact absurd h (by omega)
theorem df_X10 : ∀ j, j < 64 → defaultValue (tyX10 j) = vp_V [.int 0, .null, .int 0, .int 0, .int 0, .int 0, .int 0, .int 0, .int 0, .null, .null, .null, .null, .null, .null, .null, .null, .null, .null, .null, .null, .null, .null, .null, .int 0, .int 0, .int 0, .int 0, .int 0, .int 0, .int 0, .int 0, .null, .null, .null, .null, .null, .null, .null, .null, .null, .null, .null, .null, .null, .null, .null, .int 0, .int 0, .int 0, .int 0, .null, .null, .long 0, .null, .int 0, .int 0, .null, .null, .null, .int 0, .null, .null, .int 0] j := by
  intro j hj
  match j, hj with
  | 0, _ => rfl
  | 1, _ => rfl
  | 2, _ => rfl
  | 3, _ => rfl
  | 4, _ => rfl
  | 5, _ => rfl
  | 6, _ => rfl
  | 7, _ => rfl
  | 8, _ => rfl
  | 9, _ => rfl
  | 10, _ => rfl
  | 11, _ => rfl
  | 12, _ => rfl
  | 13, _ => rfl
  | 14, _ => rfl
  | 15, _ => rfl
  | 16, _ => rfl
  | 17, _ => rfl
  | 18, _ => rfl
  | 19, _ => rfl
  | 20, _ => rfl
  | 21, _ => rfl
  | 22, _ => rfl
  | 23, _ => rfl
  | 24, _ => rfl
  | 25, _ => rfl
  | 26, _ => rfl
  | 27, _ => rfl
  | 28, _ => rfl
  | 29, _ => rfl
  | 30, _ => rfl
  | 31, _ => rfl
  | 32, _ => rfl
  | 33, _ => rfl
  | 34, _ => rfl
  | 35, _ => rfl
  | 36, _ => rfl
  | 37, _ => rfl
  | 38, _ => rfl
  | 39, _ => rfl
  | 40, _ => rfl
  | 41, _ => rfl
  | 42, _ => rfl
  | 43, _ => rfl
  | 44, _ => rfl
  | 45, _ => rfl
  | 46, _ => rfl
  | 47, _ => rfl
  | 48, _ => rfl
  | 49, _ => rfl
  | 50, _ => rfl
  | 51, _ => rfl
  | 52, _ => rfl
  | 53, _ => rfl
  | 54, _ => rfl
  | 55, _ => rfl
  | 56, _ => rfl
  | 57, _ => rfl
  | 58, _ => rfl
  | 59, _ => rfl
  | 60, _ => rfl
  | 61, _ => rfl
  | 62, _ => rfl
  | 63, _ => rfl
  | k + 64, h => exact absurd h (by omega)
def eW (E : EV) (ad : Nat → Nat) : EV := (E.1, E.2.1, E.2.2.1, E.2.2.2.1, ad)
def cN (n : Int32) : Int32 := if 0 < n then n else 0
def bkN (E : EV) (h0 n q : Nat) : va_W := [(h0, .inr (2, [.ref q])), (q, .inl (eI E, n, .inl (fun _ => 0)))]
abbrev rm_X2_init (N : Nat) : Room := { frames := 1, cells := 1, slots := N, locals := 28 }
set_option maxHeartbeats 4000000 in
set_option maxRecDepth 100000 in
theorem c_X2_init {l : Launch} {E : EV} {h0 N : Nat} {n : Int32} (hn : 0 < n) (hN : n.toNatClampNeg = N) (hb2 : N ≤ 100000) : CI l yX2_init cX2_init 2 (rm_X2_init N) [.ref h0, .int n] E [(h0, .inr (2, [.null]))] (fun q : Nat => bkN E h0 N q) 1 N := by
  refine CI.start (by decide) (Nat.le_of_ble_eq_true rfl) (fun p e s m a below meth c A ls cx hr hlk hi hV hl => ?_)
  have cx : CallFix p m c cX2_init 2 s a TBL RX2 := cx
  have hx := cx.1
  have hb := cx.2.1
  have hi : meth.name = "<init>" := hi
  have hl : lv_has ls 2 [(0, .ref h0), (1, .int n)] := hl
  obtain ⟨H, hH⟩ : ∃ H, H = s.heap := ⟨_, rfl⟩
  obtain ⟨locs, hlocs⟩ : ∃ z, z = ([] : List Loc) := ⟨_, rfl⟩
  have hV : AtW E [(h0, .inr (2, [.null]))] A s H locs := by rw [hH, hlocs]; exact hV
  have goal : W p l e (rm_X2_init N) s m a below meth c H locs 0 0 (EC E (fun q : Nat => bkN E h0 N q) A s a below 1 N) (F0 m 0 ls []) := by
    refine lv_aload_n hx hb dX2_init_0 rfl (lv_at hl 0 rfl) ?_
    refine r_obj cx hl.1 mk_1_38 ⟨Nat.le_of_ble_eq_true rfl, Nat.le_of_ble_eq_true rfl⟩ (Nat.le_of_ble_eq_true rfl) dX2_init_1 ?_
    refine lv_aload_n hx hb dX2_init_4 rfl (lv_at hl 0 rfl) ?_
    refine lv_iload_n hx hb dX2_init_5 rfl (lv_at hl 1 rfl) ?_
    refine lv_if_le (tgt := 13) hx hb dX2_init_6 (by decide) (fun hc => absurd hn (Int32.not_lt.mpr hc)) (fun _ => ?_)
    refine lv_iload_n hx hb dX2_init_9 rfl (lv_at hl 1 rfl) ?_
    refine lv_goto (tgt := 14) hx hb dX2_init_10 (by decide) ?_
    refine r_newI cx hV (N := N) (fun h => absurd (Int32.lt_trans hn h) (by decide)) hN hb2 ⟨Nat.le_refl _, by show 0 + N ≤ N; omega⟩ dX2_init_14 (fun q H hV => ?_)
    refine r_putF (V' := bkN E h0 N q) cx hi hV 0 (ci := 2) rfl rfl iX2 tyX2 tyX2_ok nmX2 0 (by decide) mk_1_39 rfl rfl rfl (ty := .array .int) (v := .ref q) (by decide +kernel) rfl rfl (Nat.le_of_ble_eq_true rfl) rfl dX2_init_16 (fun H locs hV => ?_)
    refine W.widen (k := 1) (n := N) (by omega) (by omega) ?_
    exact r_cret (V1 := fun q : Nat => bkN E h0 N q) q cx hr hlk hV dX2_init_19
  rw [hH, hlocs] at goal
  exact goal
def bkS (E : EV) (h0 : Nat) (u : Nat → Nat) : va_W := (((([(h0, .inr (5, [.ref (u 0), .ref (u 2), .ref (u 4), .ref (u 6)]))] ++ (bkN E (u 0) 24 (u 1))) ++ (bkN E (u 2) 24 (u 3))) ++ (bkN E (u 4) 24 (u 5))) ++ (bkN E (u 6) 8 (u 7)))
abbrev rm_X5_init : Room := { frames := 2, cells := 8, slots := 84, locals := 49 }
set_option maxHeartbeats 4000000 in
set_option maxRecDepth 100000 in
theorem c_X5_init {l : Launch} {E : EV} {h0 : Nat} : CI l yX5_init cX5_init 1 rm_X5_init [.ref h0] E [(h0, .inr (5, [.null, .null, .null, .null]))] (fun u : Nat → Nat => bkS E h0 u) 8 84 := by
  refine CI.start (by decide) (Nat.le_of_ble_eq_true rfl) (fun p e s m a below meth c A ls cx hr hlk hi hV hl => ?_)
  have cx : CallFix p m c cX5_init 1 s a TBL RX5 := cx
  have hx := cx.1
  have hb := cx.2.1
  have hi : meth.name = "<init>" := hi
  have hl : lv_has ls 1 [(0, .ref h0)] := hl
  obtain ⟨H, hH⟩ : ∃ H, H = s.heap := ⟨_, rfl⟩
  obtain ⟨locs, hlocs⟩ : ∃ z, z = ([] : List Loc) := ⟨_, rfl⟩
  have hV : AtW E [(h0, .inr (5, [.null, .null, .null, .null]))] A s H locs := by rw [hH, hlocs]; exact hV
  have goal : W p l e rm_X5_init s m a below meth c H locs 0 0 (EC E (fun u : Nat → Nat => bkS E h0 u) A s a below 8 84) (F0 m 0 ls []) := by
    refine lv_aload_n hx hb dX5_init_0 rfl (lv_at hl 0 rfl) ?_
    refine r_obj cx hl.1 mk_1_118 ⟨Nat.le_of_ble_eq_true rfl, Nat.le_of_ble_eq_true rfl⟩ (Nat.le_of_ble_eq_true rfl) dX5_init_1 ?_
    refine lv_aload_n hx hb dX5_init_4 rfl (lv_at hl 0 rfl) ?_
    refine r_newo (ci := 2) (N := 1) cx hV iX2 tyX2_ok rfl mk_1_119 mk_1_34 mk_1_2 df_X2 ⟨Nat.le_of_ble_eq_true rfl, Nat.le_of_ble_eq_true rfl⟩ dX5_init_5 (fun q1 H hV => ?_)
    have hV : AtW E ([(h0, .inr (5, [.null, .null, .null, .null]))] ++ [(q1, .inr (2, [.null]))]) A s H locs := hV
    refine W.widen (k := 1) (n := 1) (Nat.le_of_ble_eq_true rfl) (Nat.le_of_ble_eq_true rfl) ?_
    refine lv_dup hx hb dX5_init_8 rfl ?_
    refine lv_bipush (v := 24) hx hb dX5_init_9 (by decide) ?_
    refine r_ctor (n := 1) (As := [.int 24]) (c_X2_init (N := 24) (by decide) (by decide) (by decide)) mk_1_36 mk_1_2 mk_1_37 rfl (by decide +kernel) rfl ⟨rfl, rfl⟩ cx hV mk_1_120 ⟨Nat.le_of_ble_eq_true rfl, Nat.le_of_ble_eq_true rfl⟩ ⟨Nat.le_of_ble_eq_true rfl, Nat.le_of_ble_eq_true rfl⟩ hl.1 rfl (Nat.le_of_ble_eq_true rfl) dX5_init_11 (fun u2 H locs hV => ?_)
    have hV : AtW E ([(h0, .inr (5, [.null, .null, .null, .null]))] ++ (bkN E q1 24 u2)) A s H locs := hV
    refine W.widen (k := 2) (n := 25) (Nat.le_of_ble_eq_true rfl) (Nat.le_of_ble_eq_true rfl) ?_
    refine r_putF (V' := ([(h0, .inr (5, [.ref q1, .null, .null, .null]))] ++ (bkN E q1 24 u2))) cx hi hV 0 (ci := 5) rfl rfl iX5 tyX5 tyX5_ok nmX5 0 (by decide) mk_1_121 rfl rfl rfl (ty := .object "FlickedCrates$Numbers") (by decide +kernel) rfl rfl (Nat.le_of_ble_eq_true rfl) rfl dX5_init_14 (fun H locs hV => ?_)
    refine lv_aload_n hx hb dX5_init_17 rfl (lv_at hl 0 rfl) ?_
    refine r_newo (ci := 2) (N := 1) cx hV iX2 tyX2_ok rfl mk_1_119 mk_1_34 mk_1_2 df_X2 ⟨Nat.le_of_ble_eq_true rfl, Nat.le_of_ble_eq_true rfl⟩ dX5_init_18 (fun q3 H hV => ?_)
    have hV : AtW E (([(h0, .inr (5, [.ref q1, .null, .null, .null]))] ++ (bkN E q1 24 u2)) ++ [(q3, .inr (2, [.null]))]) A s H locs := hV
    refine W.widen (k := 3) (n := 26) (Nat.le_of_ble_eq_true rfl) (Nat.le_of_ble_eq_true rfl) ?_
    refine lv_dup hx hb dX5_init_21 rfl ?_
    refine lv_bipush (v := 24) hx hb dX5_init_22 (by decide) ?_
    refine r_ctor (n := 1) (As := [.int 24]) (c_X2_init (N := 24) (by decide) (by decide) (by decide)) mk_1_36 mk_1_2 mk_1_37 rfl (by decide +kernel) rfl ⟨rfl, rfl⟩ cx hV mk_1_120 ⟨Nat.le_of_ble_eq_true rfl, Nat.le_of_ble_eq_true rfl⟩ ⟨Nat.le_of_ble_eq_true rfl, Nat.le_of_ble_eq_true rfl⟩ hl.1 rfl (Nat.le_of_ble_eq_true rfl) dX5_init_24 (fun u4 H locs hV => ?_)
    have hV : AtW E (([(h0, .inr (5, [.ref q1, .null, .null, .null]))] ++ (bkN E q1 24 u2)) ++ (bkN E q3 24 u4)) A s H locs := hV
    refine W.widen (k := 4) (n := 50) (Nat.le_of_ble_eq_true rfl) (Nat.le_of_ble_eq_true rfl) ?_
    refine r_putF (V' := (([(h0, .inr (5, [.ref q1, .ref q3, .null, .null]))] ++ (bkN E q1 24 u2)) ++ (bkN E q3 24 u4))) cx hi hV 0 (ci := 5) rfl rfl iX5 tyX5 tyX5_ok nmX5 1 (by decide) mk_1_125 rfl rfl rfl (ty := .object "FlickedCrates$Numbers") (by decide +kernel) rfl rfl (Nat.le_of_ble_eq_true rfl) rfl dX5_init_27 (fun H locs hV => ?_)
    refine lv_aload_n hx hb dX5_init_30 rfl (lv_at hl 0 rfl) ?_
    refine r_newo (ci := 2) (N := 1) cx hV iX2 tyX2_ok rfl mk_1_119 mk_1_34 mk_1_2 df_X2 ⟨Nat.le_of_ble_eq_true rfl, Nat.le_of_ble_eq_true rfl⟩ dX5_init_31 (fun q5 H hV => ?_)
    have hV : AtW E ((([(h0, .inr (5, [.ref q1, .ref q3, .null, .null]))] ++ (bkN E q1 24 u2)) ++ (bkN E q3 24 u4)) ++ [(q5, .inr (2, [.null]))]) A s H locs := hV
    refine W.widen (k := 5) (n := 51) (Nat.le_of_ble_eq_true rfl) (Nat.le_of_ble_eq_true rfl) ?_
    refine lv_dup hx hb dX5_init_34 rfl ?_
    refine lv_bipush (v := 24) hx hb dX5_init_35 (by decide) ?_
    refine r_ctor (n := 1) (As := [.int 24]) (c_X2_init (N := 24) (by decide) (by decide) (by decide)) mk_1_36 mk_1_2 mk_1_37 rfl (by decide +kernel) rfl ⟨rfl, rfl⟩ cx hV mk_1_120 ⟨Nat.le_of_ble_eq_true rfl, Nat.le_of_ble_eq_true rfl⟩ ⟨Nat.le_of_ble_eq_true rfl, Nat.le_of_ble_eq_true rfl⟩ hl.1 rfl (Nat.le_of_ble_eq_true rfl) dX5_init_37 (fun u6 H locs hV => ?_)
    have hV : AtW E ((([(h0, .inr (5, [.ref q1, .ref q3, .null, .null]))] ++ (bkN E q1 24 u2)) ++ (bkN E q3 24 u4)) ++ (bkN E q5 24 u6)) A s H locs := hV
    refine W.widen (k := 6) (n := 75) (Nat.le_of_ble_eq_true rfl) (Nat.le_of_ble_eq_true rfl) ?_
    refine r_putF (V' := ((([(h0, .inr (5, [.ref q1, .ref q3, .ref q5, .null]))] ++ (bkN E q1 24 u2)) ++ (bkN E q3 24 u4)) ++ (bkN E q5 24 u6))) cx hi hV 0 (ci := 5) rfl rfl iX5 tyX5 tyX5_ok nmX5 2 (by decide) mk_1_127 rfl rfl rfl (ty := .object "FlickedCrates$Numbers") (by decide +kernel) rfl rfl (Nat.le_of_ble_eq_true rfl) rfl dX5_init_40 (fun H locs hV => ?_)
    refine lv_aload_n hx hb dX5_init_43 rfl (lv_at hl 0 rfl) ?_
    refine r_newo (ci := 2) (N := 1) cx hV iX2 tyX2_ok rfl mk_1_119 mk_1_34 mk_1_2 df_X2 ⟨Nat.le_of_ble_eq_true rfl, Nat.le_of_ble_eq_true rfl⟩ dX5_init_44 (fun q7 H hV => ?_)
    have hV : AtW E (((([(h0, .inr (5, [.ref q1, .ref q3, .ref q5, .null]))] ++ (bkN E q1 24 u2)) ++ (bkN E q3 24 u4)) ++ (bkN E q5 24 u6)) ++ [(q7, .inr (2, [.null]))]) A s H locs := hV
    refine W.widen (k := 7) (n := 76) (Nat.le_of_ble_eq_true rfl) (Nat.le_of_ble_eq_true rfl) ?_
    refine lv_dup hx hb dX5_init_47 rfl ?_
    refine lv_bipush (v := 8) hx hb dX5_init_48 (by decide) ?_
    refine r_ctor (n := 1) (As := [.int 8]) (c_X2_init (N := 8) (by decide) (by decide) (by decide)) mk_1_36 mk_1_2 mk_1_37 rfl (by decide +kernel) rfl ⟨rfl, rfl⟩ cx hV mk_1_120 ⟨Nat.le_of_ble_eq_true rfl, Nat.le_of_ble_eq_true rfl⟩ ⟨Nat.le_of_ble_eq_true rfl, Nat.le_of_ble_eq_true rfl⟩ hl.1 rfl (Nat.le_of_ble_eq_true rfl) dX5_init_50 (fun u8 H locs hV => ?_)
    have hV : AtW E (((([(h0, .inr (5, [.ref q1, .ref q3, .ref q5, .null]))] ++ (bkN E q1 24 u2)) ++ (bkN E q3 24 u4)) ++ (bkN E q5 24 u6)) ++ (bkN E q7 8 u8)) A s H locs := hV
    refine W.widen (k := 8) (n := 84) (Nat.le_of_ble_eq_true rfl) (Nat.le_of_ble_eq_true rfl) ?_
    refine r_putF (V' := (((([(h0, .inr (5, [.ref q1, .ref q3, .ref q5, .ref q7]))] ++ (bkN E q1 24 u2)) ++ (bkN E q3 24 u4)) ++ (bkN E q5 24 u6)) ++ (bkN E q7 8 u8))) cx hi hV 0 (ci := 5) rfl rfl iX5 tyX5 tyX5_ok nmX5 3 (by decide) mk_1_130 rfl rfl rfl (ty := .object "FlickedCrates$Numbers") (by decide +kernel) rfl rfl (Nat.le_of_ble_eq_true rfl) rfl dX5_init_53 (fun H locs hV => ?_)
    refine W.widen (k := 8) (n := 84) (Nat.le_of_ble_eq_true rfl) (Nat.le_of_ble_eq_true rfl) ?_
    exact r_cret (V1 := fun u : Nat → Nat => bkS E h0 u) (fun k => [q1, u2, q3, u4, q5, u6, q7, u8].getD k 0) cx hr hlk hV dX5_init_56
  rw [hH, hlocs] at goal
  exact goal
def bkT (E : EV) (h0 : Nat) (u : Nat → Nat) : va_W := ((((((([(h0, .inr (7, [.int 0, .int 0, .int 0, .int 0, .ref (u 0), .ref (u 2), .ref (u 4), .ref (u 6), .ref (u 8), .ref (u 10), .ref (u 12)]))] ++ (bkN E (u 0) 8 (u 1))) ++ (bkN E (u 2) 96 (u 3))) ++ (bkN E (u 4) 24 (u 5))) ++ (bkN E (u 6) 24 (u 7))) ++ (bkN E (u 8) 36 (u 9))) ++ (bkN E (u 10) 9 (u 11))) ++ (bkN E (u 12) 4 (u 13)))
abbrev rm_X7_init : Room := { frames := 2, cells := 14, slots := 208, locals := 49 }
set_option maxHeartbeats 4000000 in
set_option maxRecDepth 100000 in
theorem c_X7_init {l : Launch} {E : EV} {h0 : Nat} : CI l yX7_init cX7_init 1 rm_X7_init [.ref h0] E [(h0, .inr (7, [.int 0, .int 0, .int 0, .int 0, .null, .null, .null, .null, .null, .null, .null]))] (fun u : Nat → Nat => bkT E h0 u) 14 208 := by
  refine CI.start (by decide) (Nat.le_of_ble_eq_true rfl) (fun p e s m a below meth c A ls cx hr hlk hi hV hl => ?_)
  have cx : CallFix p m c cX7_init 1 s a TBL RX7 := cx
  have hx := cx.1
  have hb := cx.2.1
  have hi : meth.name = "<init>" := hi
  have hl : lv_has ls 1 [(0, .ref h0)] := hl
  obtain ⟨H, hH⟩ : ∃ H, H = s.heap := ⟨_, rfl⟩
  obtain ⟨locs, hlocs⟩ : ∃ z, z = ([] : List Loc) := ⟨_, rfl⟩
  have hV : AtW E [(h0, .inr (7, [.int 0, .int 0, .int 0, .int 0, .null, .null, .null, .null, .null, .null, .null]))] A s H locs := by rw [hH, hlocs]; exact hV
  have goal : W p l e rm_X7_init s m a below meth c H locs 0 0 (EC E (fun u : Nat → Nat => bkT E h0 u) A s a below 14 208) (F0 m 0 ls []) := by
    refine lv_aload_n hx hb dX7_init_0 rfl (lv_at hl 0 rfl) ?_
    refine r_obj cx hl.1 mk_1_49 ⟨Nat.le_of_ble_eq_true rfl, Nat.le_of_ble_eq_true rfl⟩ (Nat.le_of_ble_eq_true rfl) dX7_init_1 ?_
    refine lv_aload_n hx hb dX7_init_4 rfl (lv_at hl 0 rfl) ?_
    refine r_newo (ci := 2) (N := 1) cx hV iX2 tyX2_ok rfl mk_1_50 mk_1_34 mk_1_2 df_X2 ⟨Nat.le_of_ble_eq_true rfl, Nat.le_of_ble_eq_true rfl⟩ dX7_init_5 (fun q1 H hV => ?_)
    have hV : AtW E ([(h0, .inr (7, [.int 0, .int 0, .int 0, .int 0, .null, .null, .null, .null, .null, .null, .null]))] ++ [(q1, .inr (2, [.null]))]) A s H locs := hV
    refine W.widen (k := 1) (n := 1) (Nat.le_of_ble_eq_true rfl) (Nat.le_of_ble_eq_true rfl) ?_
    refine lv_dup hx hb dX7_init_8 rfl ?_
    refine lv_bipush (v := 8) hx hb dX7_init_9 (by decide) ?_
    refine r_ctor (n := 1) (As := [.int 8]) (c_X2_init (N := 8) (by decide) (by decide) (by decide)) mk_1_36 mk_1_2 mk_1_37 rfl (by decide +kernel) rfl ⟨rfl, rfl⟩ cx hV mk_1_51 ⟨Nat.le_of_ble_eq_true rfl, Nat.le_of_ble_eq_true rfl⟩ ⟨Nat.le_of_ble_eq_true rfl, Nat.le_of_ble_eq_true rfl⟩ hl.1 rfl (Nat.le_of_ble_eq_true rfl) dX7_init_11 (fun u2 H locs hV => ?_)
    have hV : AtW E ([(h0, .inr (7, [.int 0, .int 0, .int 0, .int 0, .null, .null, .null, .null, .null, .null, .null]))] ++ (bkN E q1 8 u2)) A s H locs := hV
    refine W.widen (k := 2) (n := 9) (Nat.le_of_ble_eq_true rfl) (Nat.le_of_ble_eq_true rfl) ?_
    refine r_putF (V' := ([(h0, .inr (7, [.int 0, .int 0, .int 0, .int 0, .ref q1, .null, .null, .null, .null, .null, .null]))] ++ (bkN E q1 8 u2))) cx hi hV 0 (ci := 7) rfl rfl iX7 tyX7 tyX7_ok nmX7 4 (by decide) mk_1_70 rfl rfl rfl (ty := .object "FlickedCrates$Numbers") (by decide +kernel) rfl rfl (Nat.le_of_ble_eq_true rfl) rfl dX7_init_14 (fun H locs hV => ?_)
    refine lv_aload_n hx hb dX7_init_17 rfl (lv_at hl 0 rfl) ?_
    refine r_newo (ci := 2) (N := 1) cx hV iX2 tyX2_ok rfl mk_1_50 mk_1_34 mk_1_2 df_X2 ⟨Nat.le_of_ble_eq_true rfl, Nat.le_of_ble_eq_true rfl⟩ dX7_init_18 (fun q3 H hV => ?_)
    have hV : AtW E (([(h0, .inr (7, [.int 0, .int 0, .int 0, .int 0, .ref q1, .null, .null, .null, .null, .null, .null]))] ++ (bkN E q1 8 u2)) ++ [(q3, .inr (2, [.null]))]) A s H locs := hV
    refine W.widen (k := 3) (n := 10) (Nat.le_of_ble_eq_true rfl) (Nat.le_of_ble_eq_true rfl) ?_
    refine lv_dup hx hb dX7_init_21 rfl ?_
    refine lv_bipush (v := 96) hx hb dX7_init_22 (by decide) ?_
    refine r_ctor (n := 1) (As := [.int 96]) (c_X2_init (N := 96) (by decide) (by decide) (by decide)) mk_1_36 mk_1_2 mk_1_37 rfl (by decide +kernel) rfl ⟨rfl, rfl⟩ cx hV mk_1_51 ⟨Nat.le_of_ble_eq_true rfl, Nat.le_of_ble_eq_true rfl⟩ ⟨Nat.le_of_ble_eq_true rfl, Nat.le_of_ble_eq_true rfl⟩ hl.1 rfl (Nat.le_of_ble_eq_true rfl) dX7_init_24 (fun u4 H locs hV => ?_)
    have hV : AtW E (([(h0, .inr (7, [.int 0, .int 0, .int 0, .int 0, .ref q1, .null, .null, .null, .null, .null, .null]))] ++ (bkN E q1 8 u2)) ++ (bkN E q3 96 u4)) A s H locs := hV
    refine W.widen (k := 4) (n := 106) (Nat.le_of_ble_eq_true rfl) (Nat.le_of_ble_eq_true rfl) ?_
    refine r_putF (V' := (([(h0, .inr (7, [.int 0, .int 0, .int 0, .int 0, .ref q1, .ref q3, .null, .null, .null, .null, .null]))] ++ (bkN E q1 8 u2)) ++ (bkN E q3 96 u4))) cx hi hV 0 (ci := 7) rfl rfl iX7 tyX7 tyX7_ok nmX7 5 (by decide) mk_1_73 rfl rfl rfl (ty := .object "FlickedCrates$Numbers") (by decide +kernel) rfl rfl (Nat.le_of_ble_eq_true rfl) rfl dX7_init_27 (fun H locs hV => ?_)
    refine lv_aload_n hx hb dX7_init_30 rfl (lv_at hl 0 rfl) ?_
    refine r_newo (ci := 2) (N := 1) cx hV iX2 tyX2_ok rfl mk_1_50 mk_1_34 mk_1_2 df_X2 ⟨Nat.le_of_ble_eq_true rfl, Nat.le_of_ble_eq_true rfl⟩ dX7_init_31 (fun q5 H hV => ?_)
    have hV : AtW E ((([(h0, .inr (7, [.int 0, .int 0, .int 0, .int 0, .ref q1, .ref q3, .null, .null, .null, .null, .null]))] ++ (bkN E q1 8 u2)) ++ (bkN E q3 96 u4)) ++ [(q5, .inr (2, [.null]))]) A s H locs := hV
    refine W.widen (k := 5) (n := 107) (Nat.le_of_ble_eq_true rfl) (Nat.le_of_ble_eq_true rfl) ?_
    refine lv_dup hx hb dX7_init_34 rfl ?_
    refine lv_bipush (v := 24) hx hb dX7_init_35 (by decide) ?_
    refine r_ctor (n := 1) (As := [.int 24]) (c_X2_init (N := 24) (by decide) (by decide) (by decide)) mk_1_36 mk_1_2 mk_1_37 rfl (by decide +kernel) rfl ⟨rfl, rfl⟩ cx hV mk_1_51 ⟨Nat.le_of_ble_eq_true rfl, Nat.le_of_ble_eq_true rfl⟩ ⟨Nat.le_of_ble_eq_true rfl, Nat.le_of_ble_eq_true rfl⟩ hl.1 rfl (Nat.le_of_ble_eq_true rfl) dX7_init_37 (fun u6 H locs hV => ?_)
    have hV : AtW E ((([(h0, .inr (7, [.int 0, .int 0, .int 0, .int 0, .ref q1, .ref q3, .null, .null, .null, .null, .null]))] ++ (bkN E q1 8 u2)) ++ (bkN E q3 96 u4)) ++ (bkN E q5 24 u6)) A s H locs := hV
    refine W.widen (k := 6) (n := 131) (Nat.le_of_ble_eq_true rfl) (Nat.le_of_ble_eq_true rfl) ?_
    refine r_putF (V' := ((([(h0, .inr (7, [.int 0, .int 0, .int 0, .int 0, .ref q1, .ref q3, .ref q5, .null, .null, .null, .null]))] ++ (bkN E q1 8 u2)) ++ (bkN E q3 96 u4)) ++ (bkN E q5 24 u6))) cx hi hV 0 (ci := 7) rfl rfl iX7 tyX7 tyX7_ok nmX7 6 (by decide) mk_1_74 rfl rfl rfl (ty := .object "FlickedCrates$Numbers") (by decide +kernel) rfl rfl (Nat.le_of_ble_eq_true rfl) rfl dX7_init_40 (fun H locs hV => ?_)
    refine lv_aload_n hx hb dX7_init_43 rfl (lv_at hl 0 rfl) ?_
    refine r_newo (ci := 2) (N := 1) cx hV iX2 tyX2_ok rfl mk_1_50 mk_1_34 mk_1_2 df_X2 ⟨Nat.le_of_ble_eq_true rfl, Nat.le_of_ble_eq_true rfl⟩ dX7_init_44 (fun q7 H hV => ?_)
    have hV : AtW E (((([(h0, .inr (7, [.int 0, .int 0, .int 0, .int 0, .ref q1, .ref q3, .ref q5, .null, .null, .null, .null]))] ++ (bkN E q1 8 u2)) ++ (bkN E q3 96 u4)) ++ (bkN E q5 24 u6)) ++ [(q7, .inr (2, [.null]))]) A s H locs := hV
    refine W.widen (k := 7) (n := 132) (Nat.le_of_ble_eq_true rfl) (Nat.le_of_ble_eq_true rfl) ?_
    refine lv_dup hx hb dX7_init_47 rfl ?_
    refine lv_bipush (v := 24) hx hb dX7_init_48 (by decide) ?_
    refine r_ctor (n := 1) (As := [.int 24]) (c_X2_init (N := 24) (by decide) (by decide) (by decide)) mk_1_36 mk_1_2 mk_1_37 rfl (by decide +kernel) rfl ⟨rfl, rfl⟩ cx hV mk_1_51 ⟨Nat.le_of_ble_eq_true rfl, Nat.le_of_ble_eq_true rfl⟩ ⟨Nat.le_of_ble_eq_true rfl, Nat.le_of_ble_eq_true rfl⟩ hl.1 rfl (Nat.le_of_ble_eq_true rfl) dX7_init_50 (fun u8 H locs hV => ?_)
    have hV : AtW E (((([(h0, .inr (7, [.int 0, .int 0, .int 0, .int 0, .ref q1, .ref q3, .ref q5, .null, .null, .null, .null]))] ++ (bkN E q1 8 u2)) ++ (bkN E q3 96 u4)) ++ (bkN E q5 24 u6)) ++ (bkN E q7 24 u8)) A s H locs := hV
    refine W.widen (k := 8) (n := 156) (Nat.le_of_ble_eq_true rfl) (Nat.le_of_ble_eq_true rfl) ?_
    refine r_putF (V' := (((([(h0, .inr (7, [.int 0, .int 0, .int 0, .int 0, .ref q1, .ref q3, .ref q5, .ref q7, .null, .null, .null]))] ++ (bkN E q1 8 u2)) ++ (bkN E q3 96 u4)) ++ (bkN E q5 24 u6)) ++ (bkN E q7 24 u8))) cx hi hV 0 (ci := 7) rfl rfl iX7 tyX7 tyX7_ok nmX7 7 (by decide) mk_1_77 rfl rfl rfl (ty := .object "FlickedCrates$Numbers") (by decide +kernel) rfl rfl (Nat.le_of_ble_eq_true rfl) rfl dX7_init_53 (fun H locs hV => ?_)
    refine lv_aload_n hx hb dX7_init_56 rfl (lv_at hl 0 rfl) ?_
    refine r_newo (ci := 2) (N := 1) cx hV iX2 tyX2_ok rfl mk_1_50 mk_1_34 mk_1_2 df_X2 ⟨Nat.le_of_ble_eq_true rfl, Nat.le_of_ble_eq_true rfl⟩ dX7_init_57 (fun q9 H hV => ?_)
    have hV : AtW E ((((([(h0, .inr (7, [.int 0, .int 0, .int 0, .int 0, .ref q1, .ref q3, .ref q5, .ref q7, .null, .null, .null]))] ++ (bkN E q1 8 u2)) ++ (bkN E q3 96 u4)) ++ (bkN E q5 24 u6)) ++ (bkN E q7 24 u8)) ++ [(q9, .inr (2, [.null]))]) A s H locs := hV
    refine W.widen (k := 9) (n := 157) (Nat.le_of_ble_eq_true rfl) (Nat.le_of_ble_eq_true rfl) ?_
    refine lv_dup hx hb dX7_init_60 rfl ?_
    refine lv_bipush (v := 36) hx hb dX7_init_61 (by decide) ?_
    refine r_ctor (n := 1) (As := [.int 36]) (c_X2_init (N := 36) (by decide) (by decide) (by decide)) mk_1_36 mk_1_2 mk_1_37 rfl (by decide +kernel) rfl ⟨rfl, rfl⟩ cx hV mk_1_51 ⟨Nat.le_of_ble_eq_true rfl, Nat.le_of_ble_eq_true rfl⟩ ⟨Nat.le_of_ble_eq_true rfl, Nat.le_of_ble_eq_true rfl⟩ hl.1 rfl (Nat.le_of_ble_eq_true rfl) dX7_init_63 (fun u10 H locs hV => ?_)
    have hV : AtW E ((((([(h0, .inr (7, [.int 0, .int 0, .int 0, .int 0, .ref q1, .ref q3, .ref q5, .ref q7, .null, .null, .null]))] ++ (bkN E q1 8 u2)) ++ (bkN E q3 96 u4)) ++ (bkN E q5 24 u6)) ++ (bkN E q7 24 u8)) ++ (bkN E q9 36 u10)) A s H locs := hV
    refine W.widen (k := 10) (n := 193) (Nat.le_of_ble_eq_true rfl) (Nat.le_of_ble_eq_true rfl) ?_
    refine r_putF (V' := ((((([(h0, .inr (7, [.int 0, .int 0, .int 0, .int 0, .ref q1, .ref q3, .ref q5, .ref q7, .ref q9, .null, .null]))] ++ (bkN E q1 8 u2)) ++ (bkN E q3 96 u4)) ++ (bkN E q5 24 u6)) ++ (bkN E q7 24 u8)) ++ (bkN E q9 36 u10))) cx hi hV 0 (ci := 7) rfl rfl iX7 tyX7 tyX7_ok nmX7 8 (by decide) mk_1_80 rfl rfl rfl (ty := .object "FlickedCrates$Numbers") (by decide +kernel) rfl rfl (Nat.le_of_ble_eq_true rfl) rfl dX7_init_66 (fun H locs hV => ?_)
    refine lv_aload_n hx hb dX7_init_69 rfl (lv_at hl 0 rfl) ?_
    refine r_newo (ci := 2) (N := 1) cx hV iX2 tyX2_ok rfl mk_1_50 mk_1_34 mk_1_2 df_X2 ⟨Nat.le_of_ble_eq_true rfl, Nat.le_of_ble_eq_true rfl⟩ dX7_init_70 (fun q11 H hV => ?_)
    have hV : AtW E (((((([(h0, .inr (7, [.int 0, .int 0, .int 0, .int 0, .ref q1, .ref q3, .ref q5, .ref q7, .ref q9, .null, .null]))] ++ (bkN E q1 8 u2)) ++ (bkN E q3 96 u4)) ++ (bkN E q5 24 u6)) ++ (bkN E q7 24 u8)) ++ (bkN E q9 36 u10)) ++ [(q11, .inr (2, [.null]))]) A s H locs := hV
    refine W.widen (k := 11) (n := 194) (Nat.le_of_ble_eq_true rfl) (Nat.le_of_ble_eq_true rfl) ?_
    refine lv_dup hx hb dX7_init_73 rfl ?_
    refine lv_bipush (v := 9) hx hb dX7_init_74 (by decide) ?_
    refine r_ctor (n := 1) (As := [.int 9]) (c_X2_init (N := 9) (by decide) (by decide) (by decide)) mk_1_36 mk_1_2 mk_1_37 rfl (by decide +kernel) rfl ⟨rfl, rfl⟩ cx hV mk_1_51 ⟨Nat.le_of_ble_eq_true rfl, Nat.le_of_ble_eq_true rfl⟩ ⟨Nat.le_of_ble_eq_true rfl, Nat.le_of_ble_eq_true rfl⟩ hl.1 rfl (Nat.le_of_ble_eq_true rfl) dX7_init_76 (fun u12 H locs hV => ?_)
    have hV : AtW E (((((([(h0, .inr (7, [.int 0, .int 0, .int 0, .int 0, .ref q1, .ref q3, .ref q5, .ref q7, .ref q9, .null, .null]))] ++ (bkN E q1 8 u2)) ++ (bkN E q3 96 u4)) ++ (bkN E q5 24 u6)) ++ (bkN E q7 24 u8)) ++ (bkN E q9 36 u10)) ++ (bkN E q11 9 u12)) A s H locs := hV
    refine W.widen (k := 12) (n := 203) (Nat.le_of_ble_eq_true rfl) (Nat.le_of_ble_eq_true rfl) ?_
    refine r_putF (V' := (((((([(h0, .inr (7, [.int 0, .int 0, .int 0, .int 0, .ref q1, .ref q3, .ref q5, .ref q7, .ref q9, .ref q11, .null]))] ++ (bkN E q1 8 u2)) ++ (bkN E q3 96 u4)) ++ (bkN E q5 24 u6)) ++ (bkN E q7 24 u8)) ++ (bkN E q9 36 u10)) ++ (bkN E q11 9 u12))) cx hi hV 0 (ci := 7) rfl rfl iX7 tyX7 tyX7_ok nmX7 9 (by decide) mk_1_81 rfl rfl rfl (ty := .object "FlickedCrates$Numbers") (by decide +kernel) rfl rfl (Nat.le_of_ble_eq_true rfl) rfl dX7_init_79 (fun H locs hV => ?_)
    refine lv_aload_n hx hb dX7_init_82 rfl (lv_at hl 0 rfl) ?_
    refine r_newo (ci := 2) (N := 1) cx hV iX2 tyX2_ok rfl mk_1_50 mk_1_34 mk_1_2 df_X2 ⟨Nat.le_of_ble_eq_true rfl, Nat.le_of_ble_eq_true rfl⟩ dX7_init_83 (fun q13 H hV => ?_)
    have hV : AtW E ((((((([(h0, .inr (7, [.int 0, .int 0, .int 0, .int 0, .ref q1, .ref q3, .ref q5, .ref q7, .ref q9, .ref q11, .null]))] ++ (bkN E q1 8 u2)) ++ (bkN E q3 96 u4)) ++ (bkN E q5 24 u6)) ++ (bkN E q7 24 u8)) ++ (bkN E q9 36 u10)) ++ (bkN E q11 9 u12)) ++ [(q13, .inr (2, [.null]))]) A s H locs := hV
    refine W.widen (k := 13) (n := 204) (Nat.le_of_ble_eq_true rfl) (Nat.le_of_ble_eq_true rfl) ?_
    refine lv_dup hx hb dX7_init_86 rfl ?_
    refine lv_iconst (v := 4) hx hb dX7_init_87 (by decide) ?_
    refine r_ctor (n := 1) (As := [.int 4]) (c_X2_init (N := 4) (by decide) (by decide) (by decide)) mk_1_36 mk_1_2 mk_1_37 rfl (by decide +kernel) rfl ⟨rfl, rfl⟩ cx hV mk_1_51 ⟨Nat.le_of_ble_eq_true rfl, Nat.le_of_ble_eq_true rfl⟩ ⟨Nat.le_of_ble_eq_true rfl, Nat.le_of_ble_eq_true rfl⟩ hl.1 rfl (Nat.le_of_ble_eq_true rfl) dX7_init_88 (fun u14 H locs hV => ?_)
    have hV : AtW E ((((((([(h0, .inr (7, [.int 0, .int 0, .int 0, .int 0, .ref q1, .ref q3, .ref q5, .ref q7, .ref q9, .ref q11, .null]))] ++ (bkN E q1 8 u2)) ++ (bkN E q3 96 u4)) ++ (bkN E q5 24 u6)) ++ (bkN E q7 24 u8)) ++ (bkN E q9 36 u10)) ++ (bkN E q11 9 u12)) ++ (bkN E q13 4 u14)) A s H locs := hV
    refine W.widen (k := 14) (n := 208) (Nat.le_of_ble_eq_true rfl) (Nat.le_of_ble_eq_true rfl) ?_
    refine r_putF (V' := ((((((([(h0, .inr (7, [.int 0, .int 0, .int 0, .int 0, .ref q1, .ref q3, .ref q5, .ref q7, .ref q9, .ref q11, .ref q13]))] ++ (bkN E q1 8 u2)) ++ (bkN E q3 96 u4)) ++ (bkN E q5 24 u6)) ++ (bkN E q7 24 u8)) ++ (bkN E q9 36 u10)) ++ (bkN E q11 9 u12)) ++ (bkN E q13 4 u14))) cx hi hV 0 (ci := 7) rfl rfl iX7 tyX7 tyX7_ok nmX7 10 (by decide) mk_1_85 rfl rfl rfl (ty := .object "FlickedCrates$Numbers") (by decide +kernel) rfl rfl (Nat.le_of_ble_eq_true rfl) rfl dX7_init_91 (fun H locs hV => ?_)
    refine W.widen (k := 14) (n := 208) (Nat.le_of_ble_eq_true rfl) (Nat.le_of_ble_eq_true rfl) ?_
    exact r_cret (V1 := fun u : Nat → Nat => bkT E h0 u) (fun k => [q1, u2, q3, u4, q5, u6, q7, u8, q9, u10, q11, u12, q13, u14].getD k 0) cx hr hlk hV dX7_init_94
  rw [hH, hlocs] at goal
  exact goal
def bkW (E : EV) (h0 r1 r2 : Nat) (u : Nat → Nat) : va_W := ((([(h0, .inr (8, [.long 1, .ref (u 0), .ref r1, .ref r2, .ref (u 2), .ref (u 3)]))] ++ (bkN E (u 0) 8 (u 1))) ++ [((u 2), .inl (eJ E, 8, .inr (.inl (fun _ => 0))))]) ++ [((u 3), .inl (eJ E, 8, .inr (.inl (fun _ => 0))))])
abbrev rm_X8_init : Room := { frames := 2, cells := 4, slots := 25, locals := 49 }
set_option maxHeartbeats 4000000 in
set_option maxRecDepth 100000 in
theorem c_X8_init {l : Launch} {E : EV} {h0 r1 r2 : Nat} : CI l yX8_init cX8_init 3 rm_X8_init [.ref h0, .ref r1, .ref r2] E [(h0, .inr (8, [.long 0, .null, .null, .null, .null, .null]))] (fun u : Nat → Nat => bkW E h0 r1 r2 u) 4 25 := by
  refine CI.start (by decide) (Nat.le_of_ble_eq_true rfl) (fun p e s m a below meth c A ls cx hr hlk hi hV hl => ?_)
  have cx : CallFix p m c cX8_init 3 s a TBL RX8 := cx
  have hx := cx.1
  have hb := cx.2.1
  have hi : meth.name = "<init>" := hi
  have hl : lv_has ls 3 [(0, .ref h0), (1, .ref r1), (2, .ref r2)] := hl
  obtain ⟨H, hH⟩ : ∃ H, H = s.heap := ⟨_, rfl⟩
  obtain ⟨locs, hlocs⟩ : ∃ z, z = ([] : List Loc) := ⟨_, rfl⟩
  have hV : AtW E [(h0, .inr (8, [.long 0, .null, .null, .null, .null, .null]))] A s H locs := by rw [hH, hlocs]; exact hV
  have goal : W p l e rm_X8_init s m a below meth c H locs 0 0 (EC E (fun u : Nat → Nat => bkW E h0 r1 r2 u) A s a below 4 25) (F0 m 0 ls []) := by
    refine lv_aload_n hx hb dX8_init_0 rfl (lv_at hl 0 rfl) ?_
    refine r_obj cx hl.1 mk_2_10 ⟨Nat.le_of_ble_eq_true rfl, Nat.le_of_ble_eq_true rfl⟩ (Nat.le_of_ble_eq_true rfl) dX8_init_1 ?_
    refine lv_aload_n hx hb dX8_init_4 rfl (lv_at hl 0 rfl) ?_
    refine lv_lconst (v := 1) hx hb dX8_init_5 (by decide) ?_
    refine r_putf (V' := [(h0, .inr (8, [.long 1, .null, .null, .null, .null, .null]))]) cx hV 0 (ci := 8) rfl rfl iX8 tyX8 tyX8_ok nmX8 0 (by decide) mk_2_13 rfl rfl (ty := .long) (by decide +kernel) rfl rfl (Nat.le_of_ble_eq_true rfl) rfl dX8_init_6 (fun H locs hV => ?_)
    refine lv_aload_n hx hb dX8_init_9 rfl (lv_at hl 0 rfl) ?_
    refine r_newo (ci := 2) (N := 1) cx hV iX2 tyX2_ok rfl mk_2_11 mk_1_34 mk_1_2 df_X2 ⟨Nat.le_of_ble_eq_true rfl, Nat.le_of_ble_eq_true rfl⟩ dX8_init_10 (fun q1 H hV => ?_)
    have hV : AtW E ([(h0, .inr (8, [.long 1, .null, .null, .null, .null, .null]))] ++ [(q1, .inr (2, [.null]))]) A s H locs := hV
    refine W.widen (k := 1) (n := 1) (Nat.le_of_ble_eq_true rfl) (Nat.le_of_ble_eq_true rfl) ?_
    refine lv_dup hx hb dX8_init_13 rfl ?_
    refine lv_bipush (v := 8) hx hb dX8_init_14 (by decide) ?_
    refine r_ctor (n := 1) (As := [.int 8]) (c_X2_init (N := 8) (by decide) (by decide) (by decide)) mk_1_36 mk_1_2 mk_1_37 rfl (by decide +kernel) rfl ⟨rfl, rfl⟩ cx hV mk_2_12 ⟨Nat.le_of_ble_eq_true rfl, Nat.le_of_ble_eq_true rfl⟩ ⟨Nat.le_of_ble_eq_true rfl, Nat.le_of_ble_eq_true rfl⟩ hl.1 rfl (Nat.le_of_ble_eq_true rfl) dX8_init_16 (fun u2 H locs hV => ?_)
    have hV : AtW E ([(h0, .inr (8, [.long 1, .null, .null, .null, .null, .null]))] ++ (bkN E q1 8 u2)) A s H locs := hV
    refine W.widen (k := 2) (n := 9) (Nat.le_of_ble_eq_true rfl) (Nat.le_of_ble_eq_true rfl) ?_
    refine r_putF (V' := ([(h0, .inr (8, [.long 1, .ref q1, .null, .null, .null, .null]))] ++ (bkN E q1 8 u2))) cx hi hV 0 (ci := 8) rfl rfl iX8 tyX8 tyX8_ok nmX8 1 (by decide) mk_2_15 rfl rfl rfl (ty := .object "FlickedCrates$Numbers") (by decide +kernel) rfl rfl (Nat.le_of_ble_eq_true rfl) rfl dX8_init_19 (fun H locs hV => ?_)
    refine lv_aload_n hx hb dX8_init_22 rfl (lv_at hl 0 rfl) ?_
    refine lv_bipush (v := 8) hx hb dX8_init_23 (by decide) ?_
    refine r_newJ cx hV (N := 8) (by decide) (by decide) (by decide) ⟨Nat.le_of_ble_eq_true rfl, Nat.le_of_ble_eq_true rfl⟩ dX8_init_25 (fun q3 H hV => ?_)
    have hV : AtW E (([(h0, .inr (8, [.long 1, .ref q1, .null, .null, .null, .null]))] ++ (bkN E q1 8 u2)) ++ [(q3, .inl (eJ E, 8, .inr (.inl (fun _ => 0))))]) A s H locs := hV
    refine W.widen (k := 3) (n := 17) (Nat.le_of_ble_eq_true rfl) (Nat.le_of_ble_eq_true rfl) ?_
    refine r_putF (V' := (([(h0, .inr (8, [.long 1, .ref q1, .null, .null, .ref q3, .null]))] ++ (bkN E q1 8 u2)) ++ [(q3, .inl (eJ E, 8, .inr (.inl (fun _ => 0))))])) cx hi hV 0 (ci := 8) rfl rfl iX8 tyX8 tyX8_ok nmX8 4 (by decide) mk_2_19 rfl rfl rfl (ty := .array .long) (by decide +kernel) rfl rfl (Nat.le_of_ble_eq_true rfl) rfl dX8_init_27 (fun H locs hV => ?_)
    refine lv_aload_n hx hb dX8_init_30 rfl (lv_at hl 0 rfl) ?_
    refine lv_bipush (v := 8) hx hb dX8_init_31 (by decide) ?_
    refine r_newJ cx hV (N := 8) (by decide) (by decide) (by decide) ⟨Nat.le_of_ble_eq_true rfl, Nat.le_of_ble_eq_true rfl⟩ dX8_init_33 (fun q4 H hV => ?_)
    have hV : AtW E ((([(h0, .inr (8, [.long 1, .ref q1, .null, .null, .ref q3, .null]))] ++ (bkN E q1 8 u2)) ++ [(q3, .inl (eJ E, 8, .inr (.inl (fun _ => 0))))]) ++ [(q4, .inl (eJ E, 8, .inr (.inl (fun _ => 0))))]) A s H locs := hV
    refine W.widen (k := 4) (n := 25) (Nat.le_of_ble_eq_true rfl) (Nat.le_of_ble_eq_true rfl) ?_
    refine r_putF (V' := ((([(h0, .inr (8, [.long 1, .ref q1, .null, .null, .ref q3, .ref q4]))] ++ (bkN E q1 8 u2)) ++ [(q3, .inl (eJ E, 8, .inr (.inl (fun _ => 0))))]) ++ [(q4, .inl (eJ E, 8, .inr (.inl (fun _ => 0))))])) cx hi hV 0 (ci := 8) rfl rfl iX8 tyX8 tyX8_ok nmX8 5 (by decide) mk_2_20 rfl rfl rfl (ty := .array .long) (by decide +kernel) rfl rfl (Nat.le_of_ble_eq_true rfl) rfl dX8_init_35 (fun H locs hV => ?_)
    refine lv_aload_n hx hb dX8_init_38 rfl (lv_at hl 0 rfl) ?_
    refine lv_aload_n hx hb dX8_init_39 rfl (lv_at hl 1 rfl) ?_
    refine r_putF (V' := ((([(h0, .inr (8, [.long 1, .ref q1, .ref r1, .null, .ref q3, .ref q4]))] ++ (bkN E q1 8 u2)) ++ [(q3, .inl (eJ E, 8, .inr (.inl (fun _ => 0))))]) ++ [(q4, .inl (eJ E, 8, .inr (.inl (fun _ => 0))))])) cx hi hV 0 (ci := 8) rfl rfl iX8 tyX8 tyX8_ok nmX8 2 (by decide) mk_2_17 rfl rfl rfl (ty := .object "FlickedCrates$Told") (by decide +kernel) rfl rfl (Nat.le_of_ble_eq_true rfl) rfl dX8_init_40 (fun H locs hV => ?_)
    refine lv_aload_n hx hb dX8_init_43 rfl (lv_at hl 0 rfl) ?_
    refine lv_aload_n hx hb dX8_init_44 rfl (lv_at hl 2 rfl) ?_
    refine r_putF (V' := ((([(h0, .inr (8, [.long 1, .ref q1, .ref r1, .ref r2, .ref q3, .ref q4]))] ++ (bkN E q1 8 u2)) ++ [(q3, .inl (eJ E, 8, .inr (.inl (fun _ => 0))))]) ++ [(q4, .inl (eJ E, 8, .inr (.inl (fun _ => 0))))])) cx hi hV 0 (ci := 8) rfl rfl iX8 tyX8 tyX8_ok nmX8 3 (by decide) mk_2_18 rfl rfl rfl (ty := .object "FlickedCrates$Stock") (by decide +kernel) rfl rfl (Nat.le_of_ble_eq_true rfl) rfl dX8_init_45 (fun H locs hV => ?_)
    refine W.widen (k := 4) (n := 25) (Nat.le_of_ble_eq_true rfl) (Nat.le_of_ble_eq_true rfl) ?_
    exact r_cret (V1 := fun u : Nat → Nat => bkW E h0 r1 r2 u) (fun k => [q1, u2, q3, q4].getD k 0) cx hr hlk hV dX8_init_48
  rw [hH, hlocs] at goal
  exact goal
def bkB (E : EV) (h0 r1 r2 : Nat) (u : Nat → Nat) : va_W := (([(h0, .inr (0, [.ref (u 0), .ref (u 2), .ref r1, .ref r2]))] ++ (bkN E (u 0) 1000 (u 1))) ++ (bkN E (u 2) 1000 (u 3)))
abbrev rm_X0_init : Room := { frames := 2, cells := 4, slots := 2002, locals := 49 }
set_option maxHeartbeats 4000000 in
set_option maxRecDepth 100000 in
theorem c_X0_init {l : Launch} {E : EV} {h0 r1 r2 : Nat} : CI l yX0_init cX0_init 3 rm_X0_init [.ref h0, .ref r1, .ref r2] E [(h0, .inr (0, [.null, .null, .null, .null]))] (fun u : Nat → Nat => bkB E h0 r1 r2 u) 4 2002 := by
  refine CI.start (by decide) (Nat.le_of_ble_eq_true rfl) (fun p e s m a below meth c A ls cx hr hlk hi hV hl => ?_)
  have cx : CallFix p m c cX0_init 3 s a TBL RX0 := cx
  have hx := cx.1
  have hb := cx.2.1
  have hi : meth.name = "<init>" := hi
  have hl : lv_has ls 3 [(0, .ref h0), (1, .ref r1), (2, .ref r2)] := hl
  obtain ⟨H, hH⟩ : ∃ H, H = s.heap := ⟨_, rfl⟩
  obtain ⟨locs, hlocs⟩ : ∃ z, z = ([] : List Loc) := ⟨_, rfl⟩
  have hV : AtW E [(h0, .inr (0, [.null, .null, .null, .null]))] A s H locs := by rw [hH, hlocs]; exact hV
  have goal : W p l e rm_X0_init s m a below meth c H locs 0 0 (EC E (fun u : Nat → Nat => bkB E h0 r1 r2 u) A s a below 4 2002) (F0 m 0 ls []) := by
    refine lv_aload_n hx hb dX0_init_0 rfl (lv_at hl 0 rfl) ?_
    refine r_obj cx hl.1 mk_2_40 ⟨Nat.le_of_ble_eq_true rfl, Nat.le_of_ble_eq_true rfl⟩ (Nat.le_of_ble_eq_true rfl) dX0_init_1 ?_
    refine lv_aload_n hx hb dX0_init_4 rfl (lv_at hl 0 rfl) ?_
    refine r_newo (ci := 2) (N := 1) cx hV iX2 tyX2_ok rfl mk_2_41 mk_1_34 mk_1_2 df_X2 ⟨Nat.le_of_ble_eq_true rfl, Nat.le_of_ble_eq_true rfl⟩ dX0_init_5 (fun q1 H hV => ?_)
    have hV : AtW E ([(h0, .inr (0, [.null, .null, .null, .null]))] ++ [(q1, .inr (2, [.null]))]) A s H locs := hV
    refine W.widen (k := 1) (n := 1) (Nat.le_of_ble_eq_true rfl) (Nat.le_of_ble_eq_true rfl) ?_
    refine lv_dup hx hb dX0_init_8 rfl ?_
    refine lv_sipush (v := 1000) hx hb dX0_init_9 (by decide) ?_
    refine r_ctor (n := 1) (As := [.int 1000]) (c_X2_init (N := 1000) (by decide) (by decide) (by decide)) mk_1_36 mk_1_2 mk_1_37 rfl (by decide +kernel) rfl ⟨rfl, rfl⟩ cx hV mk_2_42 ⟨Nat.le_of_ble_eq_true rfl, Nat.le_of_ble_eq_true rfl⟩ ⟨Nat.le_of_ble_eq_true rfl, Nat.le_of_ble_eq_true rfl⟩ hl.1 rfl (Nat.le_of_ble_eq_true rfl) dX0_init_12 (fun u2 H locs hV => ?_)
    have hV : AtW E ([(h0, .inr (0, [.null, .null, .null, .null]))] ++ (bkN E q1 1000 u2)) A s H locs := hV
    refine W.widen (k := 2) (n := 1001) (Nat.le_of_ble_eq_true rfl) (Nat.le_of_ble_eq_true rfl) ?_
    refine r_putF (V' := ([(h0, .inr (0, [.ref q1, .null, .null, .null]))] ++ (bkN E q1 1000 u2))) cx hi hV 0 (ci := 0) rfl rfl iX0 tyX0 tyX0_ok nmX0 0 (by decide) mk_2_43 rfl rfl rfl (ty := .object "FlickedCrates$Numbers") (by decide +kernel) rfl rfl (Nat.le_of_ble_eq_true rfl) rfl dX0_init_15 (fun H locs hV => ?_)
    refine lv_aload_n hx hb dX0_init_18 rfl (lv_at hl 0 rfl) ?_
    refine r_newo (ci := 2) (N := 1) cx hV iX2 tyX2_ok rfl mk_2_41 mk_1_34 mk_1_2 df_X2 ⟨Nat.le_of_ble_eq_true rfl, Nat.le_of_ble_eq_true rfl⟩ dX0_init_19 (fun q3 H hV => ?_)
    have hV : AtW E (([(h0, .inr (0, [.ref q1, .null, .null, .null]))] ++ (bkN E q1 1000 u2)) ++ [(q3, .inr (2, [.null]))]) A s H locs := hV
    refine W.widen (k := 3) (n := 1002) (Nat.le_of_ble_eq_true rfl) (Nat.le_of_ble_eq_true rfl) ?_
    refine lv_dup hx hb dX0_init_22 rfl ?_
    refine lv_sipush (v := 1000) hx hb dX0_init_23 (by decide) ?_
    refine r_ctor (n := 1) (As := [.int 1000]) (c_X2_init (N := 1000) (by decide) (by decide) (by decide)) mk_1_36 mk_1_2 mk_1_37 rfl (by decide +kernel) rfl ⟨rfl, rfl⟩ cx hV mk_2_42 ⟨Nat.le_of_ble_eq_true rfl, Nat.le_of_ble_eq_true rfl⟩ ⟨Nat.le_of_ble_eq_true rfl, Nat.le_of_ble_eq_true rfl⟩ hl.1 rfl (Nat.le_of_ble_eq_true rfl) dX0_init_26 (fun u4 H locs hV => ?_)
    have hV : AtW E (([(h0, .inr (0, [.ref q1, .null, .null, .null]))] ++ (bkN E q1 1000 u2)) ++ (bkN E q3 1000 u4)) A s H locs := hV
    refine W.widen (k := 4) (n := 2002) (Nat.le_of_ble_eq_true rfl) (Nat.le_of_ble_eq_true rfl) ?_
    refine r_putF (V' := (([(h0, .inr (0, [.ref q1, .ref q3, .null, .null]))] ++ (bkN E q1 1000 u2)) ++ (bkN E q3 1000 u4))) cx hi hV 0 (ci := 0) rfl rfl iX0 tyX0 tyX0_ok nmX0 1 (by decide) mk_2_45 rfl rfl rfl (ty := .object "FlickedCrates$Numbers") (by decide +kernel) rfl rfl (Nat.le_of_ble_eq_true rfl) rfl dX0_init_29 (fun H locs hV => ?_)
    refine lv_aload_n hx hb dX0_init_32 rfl (lv_at hl 0 rfl) ?_
    refine lv_aload_n hx hb dX0_init_33 rfl (lv_at hl 1 rfl) ?_
    refine r_putF (V' := (([(h0, .inr (0, [.ref q1, .ref q3, .ref r1, .null]))] ++ (bkN E q1 1000 u2)) ++ (bkN E q3 1000 u4))) cx hi hV 0 (ci := 0) rfl rfl iX0 tyX0 tyX0_ok nmX0 2 (by decide) mk_2_47 rfl rfl rfl (ty := .object "FlickedCrates$Told") (by decide +kernel) rfl rfl (Nat.le_of_ble_eq_true rfl) rfl dX0_init_34 (fun H locs hV => ?_)
    refine lv_aload_n hx hb dX0_init_37 rfl (lv_at hl 0 rfl) ?_
    refine lv_aload_n hx hb dX0_init_38 rfl (lv_at hl 2 rfl) ?_
    refine r_putF (V' := (([(h0, .inr (0, [.ref q1, .ref q3, .ref r1, .ref r2]))] ++ (bkN E q1 1000 u2)) ++ (bkN E q3 1000 u4))) cx hi hV 0 (ci := 0) rfl rfl iX0 tyX0 tyX0_ok nmX0 3 (by decide) mk_2_48 rfl rfl rfl (ty := .object "FlickedCrates$Stock") (by decide +kernel) rfl rfl (Nat.le_of_ble_eq_true rfl) rfl dX0_init_39 (fun H locs hV => ?_)
    refine W.widen (k := 4) (n := 2002) (Nat.le_of_ble_eq_true rfl) (Nat.le_of_ble_eq_true rfl) ?_
    exact r_cret (V1 := fun u : Nat → Nat => bkB E h0 r1 r2 u) (fun k => [q1, u2, q3, u4].getD k 0) cx hr hlk hV dX0_init_42
  rw [hH, hlocs] at goal
  exact goal
def bkP (E : EV) (h0 r1 : Nat) (u : Nat → Nat) : va_W := (([(h0, .inr (6, [.ref (u 0), .ref r1, .ref (u 2)]))] ++ (bkN E (u 0) 24 (u 1))) ++ (bkN E (u 2) 24 (u 3)))
abbrev rm_X6_init : Room := { frames := 2, cells := 4, slots := 50, locals := 49 }
set_option maxHeartbeats 4000000 in
set_option maxRecDepth 100000 in
theorem c_X6_init {l : Launch} {E : EV} {h0 r1 : Nat} : CI l yX6_init cX6_init 2 rm_X6_init [.ref h0, .ref r1] E [(h0, .inr (6, [.null, .null, .null]))] (fun u : Nat → Nat => bkP E h0 r1 u) 4 50 := by
  refine CI.start (by decide) (Nat.le_of_ble_eq_true rfl) (fun p e s m a below meth c A ls cx hr hlk hi hV hl => ?_)
  have cx : CallFix p m c cX6_init 2 s a TBL RX6 := cx
  have hx := cx.1
  have hb := cx.2.1
  have hi : meth.name = "<init>" := hi
  have hl : lv_has ls 2 [(0, .ref h0), (1, .ref r1)] := hl
  obtain ⟨H, hH⟩ : ∃ H, H = s.heap := ⟨_, rfl⟩
  obtain ⟨locs, hlocs⟩ : ∃ z, z = ([] : List Loc) := ⟨_, rfl⟩
  have hV : AtW E [(h0, .inr (6, [.null, .null, .null]))] A s H locs := by rw [hH, hlocs]; exact hV
  have goal : W p l e rm_X6_init s m a below meth c H locs 0 0 (EC E (fun u : Nat → Nat => bkP E h0 r1 u) A s a below 4 50) (F0 m 0 ls []) := by
    refine lv_aload_n hx hb dX6_init_0 rfl (lv_at hl 0 rfl) ?_
    refine r_obj cx hl.1 mk_2_63 ⟨Nat.le_of_ble_eq_true rfl, Nat.le_of_ble_eq_true rfl⟩ (Nat.le_of_ble_eq_true rfl) dX6_init_1 ?_
    refine lv_aload_n hx hb dX6_init_4 rfl (lv_at hl 0 rfl) ?_
    refine r_newo (ci := 2) (N := 1) cx hV iX2 tyX2_ok rfl mk_2_64 mk_1_34 mk_1_2 df_X2 ⟨Nat.le_of_ble_eq_true rfl, Nat.le_of_ble_eq_true rfl⟩ dX6_init_5 (fun q1 H hV => ?_)
    have hV : AtW E ([(h0, .inr (6, [.null, .null, .null]))] ++ [(q1, .inr (2, [.null]))]) A s H locs := hV
    refine W.widen (k := 1) (n := 1) (Nat.le_of_ble_eq_true rfl) (Nat.le_of_ble_eq_true rfl) ?_
    refine lv_dup hx hb dX6_init_8 rfl ?_
    refine lv_bipush (v := 24) hx hb dX6_init_9 (by decide) ?_
    refine r_ctor (n := 1) (As := [.int 24]) (c_X2_init (N := 24) (by decide) (by decide) (by decide)) mk_1_36 mk_1_2 mk_1_37 rfl (by decide +kernel) rfl ⟨rfl, rfl⟩ cx hV mk_2_65 ⟨Nat.le_of_ble_eq_true rfl, Nat.le_of_ble_eq_true rfl⟩ ⟨Nat.le_of_ble_eq_true rfl, Nat.le_of_ble_eq_true rfl⟩ hl.1 rfl (Nat.le_of_ble_eq_true rfl) dX6_init_11 (fun u2 H locs hV => ?_)
    have hV : AtW E ([(h0, .inr (6, [.null, .null, .null]))] ++ (bkN E q1 24 u2)) A s H locs := hV
    refine W.widen (k := 2) (n := 25) (Nat.le_of_ble_eq_true rfl) (Nat.le_of_ble_eq_true rfl) ?_
    refine r_putF (V' := ([(h0, .inr (6, [.ref q1, .null, .null]))] ++ (bkN E q1 24 u2))) cx hi hV 0 (ci := 6) rfl rfl iX6 tyX6 tyX6_ok nmX6 0 (by decide) mk_2_66 rfl rfl rfl (ty := .object "FlickedCrates$Numbers") (by decide +kernel) rfl rfl (Nat.le_of_ble_eq_true rfl) rfl dX6_init_14 (fun H locs hV => ?_)
    refine lv_aload_n hx hb dX6_init_17 rfl (lv_at hl 0 rfl) ?_
    refine r_newo (ci := 2) (N := 1) cx hV iX2 tyX2_ok rfl mk_2_64 mk_1_34 mk_1_2 df_X2 ⟨Nat.le_of_ble_eq_true rfl, Nat.le_of_ble_eq_true rfl⟩ dX6_init_18 (fun q3 H hV => ?_)
    have hV : AtW E (([(h0, .inr (6, [.ref q1, .null, .null]))] ++ (bkN E q1 24 u2)) ++ [(q3, .inr (2, [.null]))]) A s H locs := hV
    refine W.widen (k := 3) (n := 26) (Nat.le_of_ble_eq_true rfl) (Nat.le_of_ble_eq_true rfl) ?_
    refine lv_dup hx hb dX6_init_21 rfl ?_
    refine lv_bipush (v := 24) hx hb dX6_init_22 (by decide) ?_
    refine r_ctor (n := 1) (As := [.int 24]) (c_X2_init (N := 24) (by decide) (by decide) (by decide)) mk_1_36 mk_1_2 mk_1_37 rfl (by decide +kernel) rfl ⟨rfl, rfl⟩ cx hV mk_2_65 ⟨Nat.le_of_ble_eq_true rfl, Nat.le_of_ble_eq_true rfl⟩ ⟨Nat.le_of_ble_eq_true rfl, Nat.le_of_ble_eq_true rfl⟩ hl.1 rfl (Nat.le_of_ble_eq_true rfl) dX6_init_24 (fun u4 H locs hV => ?_)
    have hV : AtW E (([(h0, .inr (6, [.ref q1, .null, .null]))] ++ (bkN E q1 24 u2)) ++ (bkN E q3 24 u4)) A s H locs := hV
    refine W.widen (k := 4) (n := 50) (Nat.le_of_ble_eq_true rfl) (Nat.le_of_ble_eq_true rfl) ?_
    refine r_putF (V' := (([(h0, .inr (6, [.ref q1, .null, .ref q3]))] ++ (bkN E q1 24 u2)) ++ (bkN E q3 24 u4))) cx hi hV 0 (ci := 6) rfl rfl iX6 tyX6 tyX6_ok nmX6 2 (by decide) mk_2_69 rfl rfl rfl (ty := .object "FlickedCrates$Numbers") (by decide +kernel) rfl rfl (Nat.le_of_ble_eq_true rfl) rfl dX6_init_27 (fun H locs hV => ?_)
    refine lv_aload_n hx hb dX6_init_30 rfl (lv_at hl 0 rfl) ?_
    refine lv_aload_n hx hb dX6_init_31 rfl (lv_at hl 1 rfl) ?_
    refine r_putF (V' := (([(h0, .inr (6, [.ref q1, .ref r1, .ref q3]))] ++ (bkN E q1 24 u2)) ++ (bkN E q3 24 u4))) cx hi hV 0 (ci := 6) rfl rfl iX6 tyX6 tyX6_ok nmX6 1 (by decide) mk_2_68 rfl rfl rfl (ty := .object "FlickedCrates$Stock") (by decide +kernel) rfl rfl (Nat.le_of_ble_eq_true rfl) rfl dX6_init_32 (fun H locs hV => ?_)
    refine W.widen (k := 4) (n := 50) (Nat.le_of_ble_eq_true rfl) (Nat.le_of_ble_eq_true rfl) ?_
    exact r_cret (V1 := fun u : Nat → Nat => bkP E h0 r1 u) (fun k => [q1, u2, q3, u4].getD k 0) cx hr hlk hV dX6_init_35
  rw [hH, hlocs] at goal
  exact goal
def bkR (E : EV) (h0 : Nat) (u : Nat → Nat) : va_W := ([(h0, .inr (4, [.int 0, .int (-1), .int 0, .int 0, .int 0, .int 0, .ref (u 0)]))] ++ (bkN E (u 0) 4 (u 1)))
abbrev rm_X4_init : Room := { frames := 2, cells := 2, slots := 5, locals := 49 }
set_option maxHeartbeats 4000000 in
set_option maxRecDepth 100000 in
theorem c_X4_init {l : Launch} {E : EV} {h0 : Nat} : CI l yX4_init cX4_init 1 rm_X4_init [.ref h0] E [(h0, .inr (4, [.int 0, .int 0, .int 0, .int 0, .int 0, .int 0, .null]))] (fun u : Nat → Nat => bkR E h0 u) 2 5 := by
  refine CI.start (by decide) (Nat.le_of_ble_eq_true rfl) (fun p e s m a below meth c A ls cx hr hlk hi hV hl => ?_)
  have cx : CallFix p m c cX4_init 1 s a TBL RX4 := cx
  have hx := cx.1
  have hb := cx.2.1
  have hi : meth.name = "<init>" := hi
  have hl : lv_has ls 1 [(0, .ref h0)] := hl
  obtain ⟨H, hH⟩ : ∃ H, H = s.heap := ⟨_, rfl⟩
  obtain ⟨locs, hlocs⟩ : ∃ z, z = ([] : List Loc) := ⟨_, rfl⟩
  have hV : AtW E [(h0, .inr (4, [.int 0, .int 0, .int 0, .int 0, .int 0, .int 0, .null]))] A s H locs := by rw [hH, hlocs]; exact hV
  have goal : W p l e rm_X4_init s m a below meth c H locs 0 0 (EC E (fun u : Nat → Nat => bkR E h0 u) A s a below 2 5) (F0 m 0 ls []) := by
    refine lv_aload_n hx hb dX4_init_0 rfl (lv_at hl 0 rfl) ?_
    refine r_obj cx hl.1 mk_2_82 ⟨Nat.le_of_ble_eq_true rfl, Nat.le_of_ble_eq_true rfl⟩ (Nat.le_of_ble_eq_true rfl) dX4_init_1 ?_
    refine lv_aload_n hx hb dX4_init_4 rfl (lv_at hl 0 rfl) ?_
    refine lv_iconst (v := 0) hx hb dX4_init_5 (by decide) ?_
    refine r_putf (V' := [(h0, .inr (4, [.int 0, .int 0, .int 0, .int 0, .int 0, .int 0, .null]))]) cx hV 0 (ci := 4) rfl rfl iX4 tyX4 tyX4_ok nmX4 0 (by decide) mk_2_85 rfl rfl (ty := .int) (by decide +kernel) rfl rfl (Nat.le_of_ble_eq_true rfl) rfl dX4_init_6 (fun H locs hV => ?_)
    refine lv_aload_n hx hb dX4_init_9 rfl (lv_at hl 0 rfl) ?_
    refine lv_iconst (v := (-1)) hx hb dX4_init_10 (by decide) ?_
    refine r_putf (V' := [(h0, .inr (4, [.int 0, .int (-1), .int 0, .int 0, .int 0, .int 0, .null]))]) cx hV 0 (ci := 4) rfl rfl iX4 tyX4 tyX4_ok nmX4 1 (by decide) mk_2_87 rfl rfl (ty := .int) (by decide +kernel) rfl rfl (Nat.le_of_ble_eq_true rfl) rfl dX4_init_11 (fun H locs hV => ?_)
    refine lv_aload_n hx hb dX4_init_14 rfl (lv_at hl 0 rfl) ?_
    refine lv_iconst (v := 0) hx hb dX4_init_15 (by decide) ?_
    refine r_putf (V' := [(h0, .inr (4, [.int 0, .int (-1), .int 0, .int 0, .int 0, .int 0, .null]))]) cx hV 0 (ci := 4) rfl rfl iX4 tyX4 tyX4_ok nmX4 2 (by decide) mk_2_89 rfl rfl (ty := .int) (by decide +kernel) rfl rfl (Nat.le_of_ble_eq_true rfl) rfl dX4_init_16 (fun H locs hV => ?_)
    refine lv_aload_n hx hb dX4_init_19 rfl (lv_at hl 0 rfl) ?_
    refine lv_iconst (v := 0) hx hb dX4_init_20 (by decide) ?_
    refine r_putf (V' := [(h0, .inr (4, [.int 0, .int (-1), .int 0, .int 0, .int 0, .int 0, .null]))]) cx hV 0 (ci := 4) rfl rfl iX4 tyX4 tyX4_ok nmX4 3 (by decide) mk_2_90 rfl rfl (ty := .int) (by decide +kernel) rfl rfl (Nat.le_of_ble_eq_true rfl) rfl dX4_init_21 (fun H locs hV => ?_)
    refine lv_aload_n hx hb dX4_init_24 rfl (lv_at hl 0 rfl) ?_
    refine lv_iconst (v := 0) hx hb dX4_init_25 (by decide) ?_
    refine r_putf (V' := [(h0, .inr (4, [.int 0, .int (-1), .int 0, .int 0, .int 0, .int 0, .null]))]) cx hV 0 (ci := 4) rfl rfl iX4 tyX4 tyX4_ok nmX4 4 (by decide) mk_2_91 rfl rfl (ty := .int) (by decide +kernel) rfl rfl (Nat.le_of_ble_eq_true rfl) rfl dX4_init_26 (fun H locs hV => ?_)
    refine lv_aload_n hx hb dX4_init_29 rfl (lv_at hl 0 rfl) ?_
    refine lv_iconst (v := 0) hx hb dX4_init_30 (by decide) ?_
    refine r_putf (V' := [(h0, .inr (4, [.int 0, .int (-1), .int 0, .int 0, .int 0, .int 0, .null]))]) cx hV 0 (ci := 4) rfl rfl iX4 tyX4 tyX4_ok nmX4 5 (by decide) mk_2_92 rfl rfl (ty := .int) (by decide +kernel) rfl rfl (Nat.le_of_ble_eq_true rfl) rfl dX4_init_31 (fun H locs hV => ?_)
    refine lv_aload_n hx hb dX4_init_34 rfl (lv_at hl 0 rfl) ?_
    refine r_newo (ci := 2) (N := 1) cx hV iX2 tyX2_ok rfl mk_2_83 mk_1_34 mk_1_2 df_X2 ⟨Nat.le_of_ble_eq_true rfl, Nat.le_of_ble_eq_true rfl⟩ dX4_init_35 (fun q1 H hV => ?_)
    have hV : AtW E ([(h0, .inr (4, [.int 0, .int (-1), .int 0, .int 0, .int 0, .int 0, .null]))] ++ [(q1, .inr (2, [.null]))]) A s H locs := hV
    refine W.widen (k := 1) (n := 1) (Nat.le_of_ble_eq_true rfl) (Nat.le_of_ble_eq_true rfl) ?_
    refine lv_dup hx hb dX4_init_38 rfl ?_
    refine lv_iconst (v := 4) hx hb dX4_init_39 (by decide) ?_
    refine r_ctor (n := 1) (As := [.int 4]) (c_X2_init (N := 4) (by decide) (by decide) (by decide)) mk_1_36 mk_1_2 mk_1_37 rfl (by decide +kernel) rfl ⟨rfl, rfl⟩ cx hV mk_2_84 ⟨Nat.le_of_ble_eq_true rfl, Nat.le_of_ble_eq_true rfl⟩ ⟨Nat.le_of_ble_eq_true rfl, Nat.le_of_ble_eq_true rfl⟩ hl.1 rfl (Nat.le_of_ble_eq_true rfl) dX4_init_40 (fun u2 H locs hV => ?_)
    have hV : AtW E ([(h0, .inr (4, [.int 0, .int (-1), .int 0, .int 0, .int 0, .int 0, .null]))] ++ (bkN E q1 4 u2)) A s H locs := hV
    refine W.widen (k := 2) (n := 5) (Nat.le_of_ble_eq_true rfl) (Nat.le_of_ble_eq_true rfl) ?_
    refine r_putF (V' := ([(h0, .inr (4, [.int 0, .int (-1), .int 0, .int 0, .int 0, .int 0, .ref q1]))] ++ (bkN E q1 4 u2))) cx hi hV 0 (ci := 4) rfl rfl iX4 tyX4 tyX4_ok nmX4 6 (by decide) mk_2_93 rfl rfl rfl (ty := .object "FlickedCrates$Numbers") (by decide +kernel) rfl rfl (Nat.le_of_ble_eq_true rfl) rfl dX4_init_43 (fun H locs hV => ?_)
    refine W.widen (k := 2) (n := 5) (Nat.le_of_ble_eq_true rfl) (Nat.le_of_ble_eq_true rfl) ?_
    exact r_cret (V1 := fun u : Nat → Nat => bkR E h0 u) (fun k => [q1, u2].getD k 0) cx hr hlk hV dX4_init_46
  rw [hH, hlocs] at goal
  exact goal
def bkD (E : EV) (h0 r1 : Nat) (u : Nat → Nat) : va_W := ([(h0, .inr (3, [.ref (u 0), .int (-1), .ref r1, .int 0, .int 0, .int 0, .int 0, .int 0, .int 1]))] ++ (bkT E (u 0) (fun k => u (1 + k))))
abbrev rm_X3_init : Room := { frames := 3, cells := 15, slots := 219, locals := 69 }
set_option maxHeartbeats 4000000 in
set_option maxRecDepth 100000 in
theorem c_X3_init {l : Launch} {E : EV} {h0 r1 : Nat} : CI l yX3_init cX3_init 2 rm_X3_init [.ref h0, .ref r1] E [(h0, .inr (3, [.null, .int 0, .null, .int 0, .int 0, .int 0, .int 0, .int 0, .int 0]))] (fun u : Nat → Nat => bkD E h0 r1 u) 15 219 := by
  refine CI.start (by decide) (Nat.le_of_ble_eq_true rfl) (fun p e s m a below meth c A ls cx hr hlk hi hV hl => ?_)
  have cx : CallFix p m c cX3_init 2 s a TBL RX3 := cx
  have hx := cx.1
  have hb := cx.2.1
  have hi : meth.name = "<init>" := hi
  have hl : lv_has ls 2 [(0, .ref h0), (1, .ref r1)] := hl
  obtain ⟨H, hH⟩ : ∃ H, H = s.heap := ⟨_, rfl⟩
  obtain ⟨locs, hlocs⟩ : ∃ z, z = ([] : List Loc) := ⟨_, rfl⟩
  have hV : AtW E [(h0, .inr (3, [.null, .int 0, .null, .int 0, .int 0, .int 0, .int 0, .int 0, .int 0]))] A s H locs := by rw [hH, hlocs]; exact hV
  have goal : W p l e rm_X3_init s m a below meth c H locs 0 0 (EC E (fun u : Nat → Nat => bkD E h0 r1 u) A s a below 15 219) (F0 m 0 ls []) := by
    refine lv_aload_n hx hb dX3_init_0 rfl (lv_at hl 0 rfl) ?_
    refine r_obj cx hl.1 mk_1_147 ⟨Nat.le_of_ble_eq_true rfl, Nat.le_of_ble_eq_true rfl⟩ (Nat.le_of_ble_eq_true rfl) dX3_init_1 ?_
    refine lv_aload_n hx hb dX3_init_4 rfl (lv_at hl 0 rfl) ?_
    refine r_newo (ci := 7) (N := 11) cx hV iX7 tyX7_ok rfl mk_1_148 mk_1_45 mk_1_3 df_X7 ⟨Nat.le_of_ble_eq_true rfl, Nat.le_of_ble_eq_true rfl⟩ dX3_init_5 (fun q1 H hV => ?_)
    have hV : AtW E ([(h0, .inr (3, [.null, .int 0, .null, .int 0, .int 0, .int 0, .int 0, .int 0, .int 0]))] ++ [(q1, .inr (7, [.int 0, .int 0, .int 0, .int 0, .null, .null, .null, .null, .null, .null, .null]))]) A s H locs := hV
    refine W.widen (k := 1) (n := 11) (Nat.le_of_ble_eq_true rfl) (Nat.le_of_ble_eq_true rfl) ?_
    refine lv_dup hx hb dX3_init_8 rfl ?_
    refine r_ctorN (host := RX9) (n := 0) (As := []) c_X7_init mk_1_47 mk_1_3 mk_1_48 rfl (by decide +kernel) rfl ⟨rfl, rfl⟩ cx hV (List.mem_of_getElem? (i := 2) rfl) ⟨Nat.le_of_ble_eq_true rfl, Nat.le_of_ble_eq_true rfl⟩ ⟨Nat.le_of_ble_eq_true rfl, Nat.le_of_ble_eq_true rfl⟩ hl.1 rfl (Nat.le_of_ble_eq_true rfl) dX3_init_9 (fun u2 H locs hV => ?_)
    have hV : AtW E ([(h0, .inr (3, [.null, .int 0, .null, .int 0, .int 0, .int 0, .int 0, .int 0, .int 0]))] ++ (bkT E q1 u2)) A s H locs := hV
    refine W.widen (k := 15) (n := 219) (Nat.le_of_ble_eq_true rfl) (Nat.le_of_ble_eq_true rfl) ?_
    refine r_putF (V' := ([(h0, .inr (3, [.ref q1, .int 0, .null, .int 0, .int 0, .int 0, .int 0, .int 0, .int 0]))] ++ (bkT E q1 u2))) cx hi hV 0 (ci := 3) rfl rfl iX3 tyX3 tyX3_ok nmX3 0 (by decide) mk_1_150 rfl rfl rfl (ty := .object "FlickedCrates$Told") (by decide +kernel) rfl rfl (Nat.le_of_ble_eq_true rfl) rfl dX3_init_12 (fun H locs hV => ?_)
    refine lv_aload_n hx hb dX3_init_15 rfl (lv_at hl 0 rfl) ?_
    refine lv_iconst (v := (-1)) hx hb dX3_init_16 (by decide) ?_
    refine r_putf (V' := ([(h0, .inr (3, [.ref q1, .int (-1), .null, .int 0, .int 0, .int 0, .int 0, .int 0, .int 0]))] ++ (bkT E q1 u2))) cx hV 0 (ci := 3) rfl rfl iX3 tyX3 tyX3_ok nmX3 1 (by decide) mk_1_152 rfl rfl (ty := .int) (by decide +kernel) rfl rfl (Nat.le_of_ble_eq_true rfl) rfl dX3_init_17 (fun H locs hV => ?_)
    refine lv_aload_n hx hb dX3_init_20 rfl (lv_at hl 0 rfl) ?_
    refine lv_iconst (v := 0) hx hb dX3_init_21 (by decide) ?_
    refine r_putf (V' := ([(h0, .inr (3, [.ref q1, .int (-1), .null, .int 0, .int 0, .int 0, .int 0, .int 0, .int 0]))] ++ (bkT E q1 u2))) cx hV 0 (ci := 3) rfl rfl iX3 tyX3 tyX3_ok nmX3 3 (by decide) mk_1_155 rfl rfl (ty := .int) (by decide +kernel) rfl rfl (Nat.le_of_ble_eq_true rfl) rfl dX3_init_22 (fun H locs hV => ?_)
    refine lv_aload_n hx hb dX3_init_25 rfl (lv_at hl 0 rfl) ?_
    refine lv_iconst (v := 0) hx hb dX3_init_26 (by decide) ?_
    refine r_putf (V' := ([(h0, .inr (3, [.ref q1, .int (-1), .null, .int 0, .int 0, .int 0, .int 0, .int 0, .int 0]))] ++ (bkT E q1 u2))) cx hV 0 (ci := 3) rfl rfl iX3 tyX3 tyX3_ok nmX3 4 (by decide) mk_1_156 rfl rfl (ty := .int) (by decide +kernel) rfl rfl (Nat.le_of_ble_eq_true rfl) rfl dX3_init_27 (fun H locs hV => ?_)
    refine lv_aload_n hx hb dX3_init_30 rfl (lv_at hl 0 rfl) ?_
    refine lv_iconst (v := 0) hx hb dX3_init_31 (by decide) ?_
    refine r_putf (V' := ([(h0, .inr (3, [.ref q1, .int (-1), .null, .int 0, .int 0, .int 0, .int 0, .int 0, .int 0]))] ++ (bkT E q1 u2))) cx hV 0 (ci := 3) rfl rfl iX3 tyX3 tyX3_ok nmX3 5 (by decide) mk_1_157 rfl rfl (ty := .int) (by decide +kernel) rfl rfl (Nat.le_of_ble_eq_true rfl) rfl dX3_init_32 (fun H locs hV => ?_)
    refine lv_aload_n hx hb dX3_init_35 rfl (lv_at hl 0 rfl) ?_
    refine lv_iconst (v := 0) hx hb dX3_init_36 (by decide) ?_
    refine r_putf (V' := ([(h0, .inr (3, [.ref q1, .int (-1), .null, .int 0, .int 0, .int 0, .int 0, .int 0, .int 0]))] ++ (bkT E q1 u2))) cx hV 0 (ci := 3) rfl rfl iX3 tyX3 tyX3_ok nmX3 6 (by decide) mk_1_158 rfl rfl (ty := .int) (by decide +kernel) rfl rfl (Nat.le_of_ble_eq_true rfl) rfl dX3_init_37 (fun H locs hV => ?_)
    refine lv_aload_n hx hb dX3_init_40 rfl (lv_at hl 0 rfl) ?_
    refine lv_iconst (v := 0) hx hb dX3_init_41 (by decide) ?_
    refine r_putf (V' := ([(h0, .inr (3, [.ref q1, .int (-1), .null, .int 0, .int 0, .int 0, .int 0, .int 0, .int 0]))] ++ (bkT E q1 u2))) cx hV 0 (ci := 3) rfl rfl iX3 tyX3 tyX3_ok nmX3 7 (by decide) mk_1_159 rfl rfl (ty := .int) (by decide +kernel) rfl rfl (Nat.le_of_ble_eq_true rfl) rfl dX3_init_42 (fun H locs hV => ?_)
    refine lv_aload_n hx hb dX3_init_45 rfl (lv_at hl 0 rfl) ?_
    refine lv_iconst (v := 1) hx hb dX3_init_46 (by decide) ?_
    refine r_putf (V' := ([(h0, .inr (3, [.ref q1, .int (-1), .null, .int 0, .int 0, .int 0, .int 0, .int 0, .int 1]))] ++ (bkT E q1 u2))) cx hV 0 (ci := 3) rfl rfl iX3 tyX3 tyX3_ok nmX3 8 (by decide) mk_1_160 rfl rfl (ty := .boolean) (by decide +kernel) rfl rfl (Nat.le_of_ble_eq_true rfl) rfl dX3_init_47 (fun H locs hV => ?_)
    refine lv_aload_n hx hb dX3_init_50 rfl (lv_at hl 0 rfl) ?_
    refine lv_aload_n hx hb dX3_init_51 rfl (lv_at hl 1 rfl) ?_
    refine r_putF (V' := ([(h0, .inr (3, [.ref q1, .int (-1), .ref r1, .int 0, .int 0, .int 0, .int 0, .int 0, .int 1]))] ++ (bkT E q1 u2))) cx hi hV 0 (ci := 3) rfl rfl iX3 tyX3 tyX3_ok nmX3 2 (by decide) mk_1_154 rfl rfl rfl (ty := .object "FlickedCrates$Numbers") (by decide +kernel) rfl rfl (Nat.le_of_ble_eq_true rfl) rfl dX3_init_52 (fun H locs hV => ?_)
    refine W.widen (k := 15) (n := 219) (Nat.le_of_ble_eq_true rfl) (Nat.le_of_ble_eq_true rfl) ?_
    exact r_cret (V1 := fun u : Nat → Nat => bkD E h0 r1 u) (fun k => [q1, (u2 0), (u2 1), (u2 2), (u2 3), (u2 4), (u2 5), (u2 6), (u2 7), (u2 8), (u2 9), (u2 10), (u2 11), (u2 12), (u2 13)].getD k 0) cx hr hlk hV dX3_init_55
  rw [hH, hlocs] at goal
  exact goal
def bkY (E : EV) (h0 r1 r2 : Nat) (u : Nat → Nat) : va_W := (((((((([(h0, .inr (1, [.ref (u 0), .ref (u 9), .ref (u 11), .ref (u 13), .ref (u 15), .int 0, .ref r1, .ref r2, .ref (u 17), .ref (u 19), .ref (u 21), .int 0, .int 0, .int 0, .int 0, .int 0]))] ++ (bkS E (u 0) (fun k => u (1 + k)))) ++ (bkN E (u 9) 6 (u 10))) ++ (bkN E (u 11) 6 (u 12))) ++ (bkN E (u 13) 6 (u 14))) ++ (bkN E (u 15) 6 (u 16))) ++ (bkN E (u 17) 6 (u 18))) ++ (bkN E (u 19) 6 (u 20))) ++ (bkN E (u 21) 24 (u 22)))
abbrev rm_X1_init : Room := { frames := 3, cells := 23, slots := 155, locals := 69 }
set_option maxHeartbeats 4000000 in
set_option maxRecDepth 100000 in
theorem c_X1_init {l : Launch} {E : EV} {h0 r1 r2 : Nat} : CI l yX1_init cX1_init 3 rm_X1_init [.ref h0, .ref r1, .ref r2] E [(h0, .inr (1, [.null, .null, .null, .null, .null, .int 0, .null, .null, .null, .null, .null, .int 0, .int 0, .int 0, .int 0, .int 0]))] (fun u : Nat → Nat => bkY E h0 r1 r2 u) 23 155 := by
  refine CI.start (by decide) (Nat.le_of_ble_eq_true rfl) (fun p e s m a below meth c A ls cx hr hlk hi hV hl => ?_)
  have cx : CallFix p m c cX1_init 3 s a TBL RX1 := cx
  have hx := cx.1
  have hb := cx.2.1
  have hi : meth.name = "<init>" := hi
  have hl : lv_has ls 3 [(0, .ref h0), (1, .ref r1), (2, .ref r2)] := hl
  obtain ⟨H, hH⟩ : ∃ H, H = s.heap := ⟨_, rfl⟩
  obtain ⟨locs, hlocs⟩ : ∃ z, z = ([] : List Loc) := ⟨_, rfl⟩
  have hV : AtW E [(h0, .inr (1, [.null, .null, .null, .null, .null, .int 0, .null, .null, .null, .null, .null, .int 0, .int 0, .int 0, .int 0, .int 0]))] A s H locs := by rw [hH, hlocs]; exact hV
  have goal : W p l e rm_X1_init s m a below meth c H locs 0 0 (EC E (fun u : Nat → Nat => bkY E h0 r1 r2 u) A s a below 23 155) (F0 m 0 ls []) := by
    refine lv_aload_n hx hb dX1_init_0 rfl (lv_at hl 0 rfl) ?_
    refine r_obj cx hl.1 mk_1_185 ⟨Nat.le_of_ble_eq_true rfl, Nat.le_of_ble_eq_true rfl⟩ (Nat.le_of_ble_eq_true rfl) dX1_init_1 ?_
    refine lv_aload_n hx hb dX1_init_4 rfl (lv_at hl 0 rfl) ?_
    refine r_newo (ci := 5) (N := 4) cx hV iX5 tyX5_ok rfl mk_1_186 mk_1_114 mk_1_4 df_X5 ⟨Nat.le_of_ble_eq_true rfl, Nat.le_of_ble_eq_true rfl⟩ dX1_init_5 (fun q1 H hV => ?_)
    have hV : AtW E ([(h0, .inr (1, [.null, .null, .null, .null, .null, .int 0, .null, .null, .null, .null, .null, .int 0, .int 0, .int 0, .int 0, .int 0]))] ++ [(q1, .inr (5, [.null, .null, .null, .null]))]) A s H locs := hV
    refine W.widen (k := 1) (n := 4) (Nat.le_of_ble_eq_true rfl) (Nat.le_of_ble_eq_true rfl) ?_
    refine lv_dup hx hb dX1_init_8 rfl ?_
    refine r_ctorN (host := RX9) (n := 0) (As := []) c_X5_init mk_1_116 mk_1_4 mk_1_117 rfl (by decide +kernel) rfl ⟨rfl, rfl⟩ cx hV (List.mem_of_getElem? (i := 3) rfl) ⟨Nat.le_of_ble_eq_true rfl, Nat.le_of_ble_eq_true rfl⟩ ⟨Nat.le_of_ble_eq_true rfl, Nat.le_of_ble_eq_true rfl⟩ hl.1 rfl (Nat.le_of_ble_eq_true rfl) dX1_init_9 (fun u2 H locs hV => ?_)
    have hV : AtW E ([(h0, .inr (1, [.null, .null, .null, .null, .null, .int 0, .null, .null, .null, .null, .null, .int 0, .int 0, .int 0, .int 0, .int 0]))] ++ (bkS E q1 u2)) A s H locs := hV
    refine W.widen (k := 9) (n := 88) (Nat.le_of_ble_eq_true rfl) (Nat.le_of_ble_eq_true rfl) ?_
    refine r_putF (V' := ([(h0, .inr (1, [.ref q1, .null, .null, .null, .null, .int 0, .null, .null, .null, .null, .null, .int 0, .int 0, .int 0, .int 0, .int 0]))] ++ (bkS E q1 u2))) cx hi hV 0 (ci := 1) rfl rfl iX1 tyX1 tyX1_ok nmX1 0 (by decide) mk_1_190 rfl rfl rfl (ty := .object "FlickedCrates$Stock") (by decide +kernel) rfl rfl (Nat.le_of_ble_eq_true rfl) rfl dX1_init_12 (fun H locs hV => ?_)
    refine lv_aload_n hx hb dX1_init_15 rfl (lv_at hl 0 rfl) ?_
    refine r_newo (ci := 2) (N := 1) cx hV iX2 tyX2_ok rfl mk_1_188 mk_1_34 mk_1_2 df_X2 ⟨Nat.le_of_ble_eq_true rfl, Nat.le_of_ble_eq_true rfl⟩ dX1_init_16 (fun q3 H hV => ?_)
    have hV : AtW E (([(h0, .inr (1, [.ref q1, .null, .null, .null, .null, .int 0, .null, .null, .null, .null, .null, .int 0, .int 0, .int 0, .int 0, .int 0]))] ++ (bkS E q1 u2)) ++ [(q3, .inr (2, [.null]))]) A s H locs := hV
    refine W.widen (k := 10) (n := 89) (Nat.le_of_ble_eq_true rfl) (Nat.le_of_ble_eq_true rfl) ?_
    refine lv_dup hx hb dX1_init_19 rfl ?_
    refine lv_bipush (v := 6) hx hb dX1_init_20 (by decide) ?_
    refine r_ctor (n := 1) (As := [.int 6]) (c_X2_init (N := 6) (by decide) (by decide) (by decide)) mk_1_36 mk_1_2 mk_1_37 rfl (by decide +kernel) rfl ⟨rfl, rfl⟩ cx hV mk_1_189 ⟨Nat.le_of_ble_eq_true rfl, Nat.le_of_ble_eq_true rfl⟩ ⟨Nat.le_of_ble_eq_true rfl, Nat.le_of_ble_eq_true rfl⟩ hl.1 rfl (Nat.le_of_ble_eq_true rfl) dX1_init_22 (fun u4 H locs hV => ?_)
    have hV : AtW E (([(h0, .inr (1, [.ref q1, .null, .null, .null, .null, .int 0, .null, .null, .null, .null, .null, .int 0, .int 0, .int 0, .int 0, .int 0]))] ++ (bkS E q1 u2)) ++ (bkN E q3 6 u4)) A s H locs := hV
    refine W.widen (k := 11) (n := 95) (Nat.le_of_ble_eq_true rfl) (Nat.le_of_ble_eq_true rfl) ?_
    refine r_putF (V' := (([(h0, .inr (1, [.ref q1, .ref q3, .null, .null, .null, .int 0, .null, .null, .null, .null, .null, .int 0, .int 0, .int 0, .int 0, .int 0]))] ++ (bkS E q1 u2)) ++ (bkN E q3 6 u4))) cx hi hV 0 (ci := 1) rfl rfl iX1 tyX1 tyX1_ok nmX1 1 (by decide) mk_1_192 rfl rfl rfl (ty := .object "FlickedCrates$Numbers") (by decide +kernel) rfl rfl (Nat.le_of_ble_eq_true rfl) rfl dX1_init_25 (fun H locs hV => ?_)
    refine lv_aload_n hx hb dX1_init_28 rfl (lv_at hl 0 rfl) ?_
    refine r_newo (ci := 2) (N := 1) cx hV iX2 tyX2_ok rfl mk_1_188 mk_1_34 mk_1_2 df_X2 ⟨Nat.le_of_ble_eq_true rfl, Nat.le_of_ble_eq_true rfl⟩ dX1_init_29 (fun q5 H hV => ?_)
    have hV : AtW E ((([(h0, .inr (1, [.ref q1, .ref q3, .null, .null, .null, .int 0, .null, .null, .null, .null, .null, .int 0, .int 0, .int 0, .int 0, .int 0]))] ++ (bkS E q1 u2)) ++ (bkN E q3 6 u4)) ++ [(q5, .inr (2, [.null]))]) A s H locs := hV
    refine W.widen (k := 12) (n := 96) (Nat.le_of_ble_eq_true rfl) (Nat.le_of_ble_eq_true rfl) ?_
    refine lv_dup hx hb dX1_init_32 rfl ?_
    refine lv_bipush (v := 6) hx hb dX1_init_33 (by decide) ?_
    refine r_ctor (n := 1) (As := [.int 6]) (c_X2_init (N := 6) (by decide) (by decide) (by decide)) mk_1_36 mk_1_2 mk_1_37 rfl (by decide +kernel) rfl ⟨rfl, rfl⟩ cx hV mk_1_189 ⟨Nat.le_of_ble_eq_true rfl, Nat.le_of_ble_eq_true rfl⟩ ⟨Nat.le_of_ble_eq_true rfl, Nat.le_of_ble_eq_true rfl⟩ hl.1 rfl (Nat.le_of_ble_eq_true rfl) dX1_init_35 (fun u6 H locs hV => ?_)
    have hV : AtW E ((([(h0, .inr (1, [.ref q1, .ref q3, .null, .null, .null, .int 0, .null, .null, .null, .null, .null, .int 0, .int 0, .int 0, .int 0, .int 0]))] ++ (bkS E q1 u2)) ++ (bkN E q3 6 u4)) ++ (bkN E q5 6 u6)) A s H locs := hV
    refine W.widen (k := 13) (n := 102) (Nat.le_of_ble_eq_true rfl) (Nat.le_of_ble_eq_true rfl) ?_
    refine r_putF (V' := ((([(h0, .inr (1, [.ref q1, .ref q3, .ref q5, .null, .null, .int 0, .null, .null, .null, .null, .null, .int 0, .int 0, .int 0, .int 0, .int 0]))] ++ (bkS E q1 u2)) ++ (bkN E q3 6 u4)) ++ (bkN E q5 6 u6))) cx hi hV 0 (ci := 1) rfl rfl iX1 tyX1 tyX1_ok nmX1 2 (by decide) mk_1_194 rfl rfl rfl (ty := .object "FlickedCrates$Numbers") (by decide +kernel) rfl rfl (Nat.le_of_ble_eq_true rfl) rfl dX1_init_38 (fun H locs hV => ?_)
    refine lv_aload_n hx hb dX1_init_41 rfl (lv_at hl 0 rfl) ?_
    refine r_newo (ci := 2) (N := 1) cx hV iX2 tyX2_ok rfl mk_1_188 mk_1_34 mk_1_2 df_X2 ⟨Nat.le_of_ble_eq_true rfl, Nat.le_of_ble_eq_true rfl⟩ dX1_init_42 (fun q7 H hV => ?_)
    have hV : AtW E (((([(h0, .inr (1, [.ref q1, .ref q3, .ref q5, .null, .null, .int 0, .null, .null, .null, .null, .null, .int 0, .int 0, .int 0, .int 0, .int 0]))] ++ (bkS E q1 u2)) ++ (bkN E q3 6 u4)) ++ (bkN E q5 6 u6)) ++ [(q7, .inr (2, [.null]))]) A s H locs := hV
    refine W.widen (k := 14) (n := 103) (Nat.le_of_ble_eq_true rfl) (Nat.le_of_ble_eq_true rfl) ?_
    refine lv_dup hx hb dX1_init_45 rfl ?_
    refine lv_bipush (v := 6) hx hb dX1_init_46 (by decide) ?_
    refine r_ctor (n := 1) (As := [.int 6]) (c_X2_init (N := 6) (by decide) (by decide) (by decide)) mk_1_36 mk_1_2 mk_1_37 rfl (by decide +kernel) rfl ⟨rfl, rfl⟩ cx hV mk_1_189 ⟨Nat.le_of_ble_eq_true rfl, Nat.le_of_ble_eq_true rfl⟩ ⟨Nat.le_of_ble_eq_true rfl, Nat.le_of_ble_eq_true rfl⟩ hl.1 rfl (Nat.le_of_ble_eq_true rfl) dX1_init_48 (fun u8 H locs hV => ?_)
    have hV : AtW E (((([(h0, .inr (1, [.ref q1, .ref q3, .ref q5, .null, .null, .int 0, .null, .null, .null, .null, .null, .int 0, .int 0, .int 0, .int 0, .int 0]))] ++ (bkS E q1 u2)) ++ (bkN E q3 6 u4)) ++ (bkN E q5 6 u6)) ++ (bkN E q7 6 u8)) A s H locs := hV
    refine W.widen (k := 15) (n := 109) (Nat.le_of_ble_eq_true rfl) (Nat.le_of_ble_eq_true rfl) ?_
    refine r_putF (V' := (((([(h0, .inr (1, [.ref q1, .ref q3, .ref q5, .ref q7, .null, .int 0, .null, .null, .null, .null, .null, .int 0, .int 0, .int 0, .int 0, .int 0]))] ++ (bkS E q1 u2)) ++ (bkN E q3 6 u4)) ++ (bkN E q5 6 u6)) ++ (bkN E q7 6 u8))) cx hi hV 0 (ci := 1) rfl rfl iX1 tyX1 tyX1_ok nmX1 3 (by decide) mk_1_196 rfl rfl rfl (ty := .object "FlickedCrates$Numbers") (by decide +kernel) rfl rfl (Nat.le_of_ble_eq_true rfl) rfl dX1_init_51 (fun H locs hV => ?_)
    refine lv_aload_n hx hb dX1_init_54 rfl (lv_at hl 0 rfl) ?_
    refine r_newo (ci := 2) (N := 1) cx hV iX2 tyX2_ok rfl mk_1_188 mk_1_34 mk_1_2 df_X2 ⟨Nat.le_of_ble_eq_true rfl, Nat.le_of_ble_eq_true rfl⟩ dX1_init_55 (fun q9 H hV => ?_)
    have hV : AtW E ((((([(h0, .inr (1, [.ref q1, .ref q3, .ref q5, .ref q7, .null, .int 0, .null, .null, .null, .null, .null, .int 0, .int 0, .int 0, .int 0, .int 0]))] ++ (bkS E q1 u2)) ++ (bkN E q3 6 u4)) ++ (bkN E q5 6 u6)) ++ (bkN E q7 6 u8)) ++ [(q9, .inr (2, [.null]))]) A s H locs := hV
    refine W.widen (k := 16) (n := 110) (Nat.le_of_ble_eq_true rfl) (Nat.le_of_ble_eq_true rfl) ?_
    refine lv_dup hx hb dX1_init_58 rfl ?_
    refine lv_bipush (v := 6) hx hb dX1_init_59 (by decide) ?_
    refine r_ctor (n := 1) (As := [.int 6]) (c_X2_init (N := 6) (by decide) (by decide) (by decide)) mk_1_36 mk_1_2 mk_1_37 rfl (by decide +kernel) rfl ⟨rfl, rfl⟩ cx hV mk_1_189 ⟨Nat.le_of_ble_eq_true rfl, Nat.le_of_ble_eq_true rfl⟩ ⟨Nat.le_of_ble_eq_true rfl, Nat.le_of_ble_eq_true rfl⟩ hl.1 rfl (Nat.le_of_ble_eq_true rfl) dX1_init_61 (fun u10 H locs hV => ?_)
    have hV : AtW E ((((([(h0, .inr (1, [.ref q1, .ref q3, .ref q5, .ref q7, .null, .int 0, .null, .null, .null, .null, .null, .int 0, .int 0, .int 0, .int 0, .int 0]))] ++ (bkS E q1 u2)) ++ (bkN E q3 6 u4)) ++ (bkN E q5 6 u6)) ++ (bkN E q7 6 u8)) ++ (bkN E q9 6 u10)) A s H locs := hV
    refine W.widen (k := 17) (n := 116) (Nat.le_of_ble_eq_true rfl) (Nat.le_of_ble_eq_true rfl) ?_
    refine r_putF (V' := ((((([(h0, .inr (1, [.ref q1, .ref q3, .ref q5, .ref q7, .ref q9, .int 0, .null, .null, .null, .null, .null, .int 0, .int 0, .int 0, .int 0, .int 0]))] ++ (bkS E q1 u2)) ++ (bkN E q3 6 u4)) ++ (bkN E q5 6 u6)) ++ (bkN E q7 6 u8)) ++ (bkN E q9 6 u10))) cx hi hV 0 (ci := 1) rfl rfl iX1 tyX1 tyX1_ok nmX1 4 (by decide) mk_1_198 rfl rfl rfl (ty := .object "FlickedCrates$Numbers") (by decide +kernel) rfl rfl (Nat.le_of_ble_eq_true rfl) rfl dX1_init_64 (fun H locs hV => ?_)
    refine lv_aload_n hx hb dX1_init_67 rfl (lv_at hl 0 rfl) ?_
    refine lv_iconst (v := 0) hx hb dX1_init_68 (by decide) ?_
    refine r_putf (V' := ((((([(h0, .inr (1, [.ref q1, .ref q3, .ref q5, .ref q7, .ref q9, .int 0, .null, .null, .null, .null, .null, .int 0, .int 0, .int 0, .int 0, .int 0]))] ++ (bkS E q1 u2)) ++ (bkN E q3 6 u4)) ++ (bkN E q5 6 u6)) ++ (bkN E q7 6 u8)) ++ (bkN E q9 6 u10))) cx hV 0 (ci := 1) rfl rfl iX1 tyX1 tyX1_ok nmX1 5 (by decide) mk_1_200 rfl rfl (ty := .int) (by decide +kernel) rfl rfl (Nat.le_of_ble_eq_true rfl) rfl dX1_init_69 (fun H locs hV => ?_)
    refine lv_aload_n hx hb dX1_init_72 rfl (lv_at hl 0 rfl) ?_
    refine r_newo (ci := 2) (N := 1) cx hV iX2 tyX2_ok rfl mk_1_188 mk_1_34 mk_1_2 df_X2 ⟨Nat.le_of_ble_eq_true rfl, Nat.le_of_ble_eq_true rfl⟩ dX1_init_73 (fun q11 H hV => ?_)
    have hV : AtW E (((((([(h0, .inr (1, [.ref q1, .ref q3, .ref q5, .ref q7, .ref q9, .int 0, .null, .null, .null, .null, .null, .int 0, .int 0, .int 0, .int 0, .int 0]))] ++ (bkS E q1 u2)) ++ (bkN E q3 6 u4)) ++ (bkN E q5 6 u6)) ++ (bkN E q7 6 u8)) ++ (bkN E q9 6 u10)) ++ [(q11, .inr (2, [.null]))]) A s H locs := hV
    refine W.widen (k := 18) (n := 117) (Nat.le_of_ble_eq_true rfl) (Nat.le_of_ble_eq_true rfl) ?_
    refine lv_dup hx hb dX1_init_76 rfl ?_
    refine lv_bipush (v := 6) hx hb dX1_init_77 (by decide) ?_
    refine r_ctor (n := 1) (As := [.int 6]) (c_X2_init (N := 6) (by decide) (by decide) (by decide)) mk_1_36 mk_1_2 mk_1_37 rfl (by decide +kernel) rfl ⟨rfl, rfl⟩ cx hV mk_1_189 ⟨Nat.le_of_ble_eq_true rfl, Nat.le_of_ble_eq_true rfl⟩ ⟨Nat.le_of_ble_eq_true rfl, Nat.le_of_ble_eq_true rfl⟩ hl.1 rfl (Nat.le_of_ble_eq_true rfl) dX1_init_79 (fun u12 H locs hV => ?_)
    have hV : AtW E (((((([(h0, .inr (1, [.ref q1, .ref q3, .ref q5, .ref q7, .ref q9, .int 0, .null, .null, .null, .null, .null, .int 0, .int 0, .int 0, .int 0, .int 0]))] ++ (bkS E q1 u2)) ++ (bkN E q3 6 u4)) ++ (bkN E q5 6 u6)) ++ (bkN E q7 6 u8)) ++ (bkN E q9 6 u10)) ++ (bkN E q11 6 u12)) A s H locs := hV
    refine W.widen (k := 19) (n := 123) (Nat.le_of_ble_eq_true rfl) (Nat.le_of_ble_eq_true rfl) ?_
    refine r_putF (V' := (((((([(h0, .inr (1, [.ref q1, .ref q3, .ref q5, .ref q7, .ref q9, .int 0, .null, .null, .ref q11, .null, .null, .int 0, .int 0, .int 0, .int 0, .int 0]))] ++ (bkS E q1 u2)) ++ (bkN E q3 6 u4)) ++ (bkN E q5 6 u6)) ++ (bkN E q7 6 u8)) ++ (bkN E q9 6 u10)) ++ (bkN E q11 6 u12))) cx hi hV 0 (ci := 1) rfl rfl iX1 tyX1 tyX1_ok nmX1 8 (by decide) mk_1_204 rfl rfl rfl (ty := .object "FlickedCrates$Numbers") (by decide +kernel) rfl rfl (Nat.le_of_ble_eq_true rfl) rfl dX1_init_82 (fun H locs hV => ?_)
    refine lv_aload_n hx hb dX1_init_85 rfl (lv_at hl 0 rfl) ?_
    refine r_newo (ci := 2) (N := 1) cx hV iX2 tyX2_ok rfl mk_1_188 mk_1_34 mk_1_2 df_X2 ⟨Nat.le_of_ble_eq_true rfl, Nat.le_of_ble_eq_true rfl⟩ dX1_init_86 (fun q13 H hV => ?_)
    have hV : AtW E ((((((([(h0, .inr (1, [.ref q1, .ref q3, .ref q5, .ref q7, .ref q9, .int 0, .null, .null, .ref q11, .null, .null, .int 0, .int 0, .int 0, .int 0, .int 0]))] ++ (bkS E q1 u2)) ++ (bkN E q3 6 u4)) ++ (bkN E q5 6 u6)) ++ (bkN E q7 6 u8)) ++ (bkN E q9 6 u10)) ++ (bkN E q11 6 u12)) ++ [(q13, .inr (2, [.null]))]) A s H locs := hV
    refine W.widen (k := 20) (n := 124) (Nat.le_of_ble_eq_true rfl) (Nat.le_of_ble_eq_true rfl) ?_
    refine lv_dup hx hb dX1_init_89 rfl ?_
    refine lv_bipush (v := 6) hx hb dX1_init_90 (by decide) ?_
    refine r_ctor (n := 1) (As := [.int 6]) (c_X2_init (N := 6) (by decide) (by decide) (by decide)) mk_1_36 mk_1_2 mk_1_37 rfl (by decide +kernel) rfl ⟨rfl, rfl⟩ cx hV mk_1_189 ⟨Nat.le_of_ble_eq_true rfl, Nat.le_of_ble_eq_true rfl⟩ ⟨Nat.le_of_ble_eq_true rfl, Nat.le_of_ble_eq_true rfl⟩ hl.1 rfl (Nat.le_of_ble_eq_true rfl) dX1_init_92 (fun u14 H locs hV => ?_)
    have hV : AtW E ((((((([(h0, .inr (1, [.ref q1, .ref q3, .ref q5, .ref q7, .ref q9, .int 0, .null, .null, .ref q11, .null, .null, .int 0, .int 0, .int 0, .int 0, .int 0]))] ++ (bkS E q1 u2)) ++ (bkN E q3 6 u4)) ++ (bkN E q5 6 u6)) ++ (bkN E q7 6 u8)) ++ (bkN E q9 6 u10)) ++ (bkN E q11 6 u12)) ++ (bkN E q13 6 u14)) A s H locs := hV
    refine W.widen (k := 21) (n := 130) (Nat.le_of_ble_eq_true rfl) (Nat.le_of_ble_eq_true rfl) ?_
    refine r_putF (V' := ((((((([(h0, .inr (1, [.ref q1, .ref q3, .ref q5, .ref q7, .ref q9, .int 0, .null, .null, .ref q11, .ref q13, .null, .int 0, .int 0, .int 0, .int 0, .int 0]))] ++ (bkS E q1 u2)) ++ (bkN E q3 6 u4)) ++ (bkN E q5 6 u6)) ++ (bkN E q7 6 u8)) ++ (bkN E q9 6 u10)) ++ (bkN E q11 6 u12)) ++ (bkN E q13 6 u14))) cx hi hV 0 (ci := 1) rfl rfl iX1 tyX1 tyX1_ok nmX1 9 (by decide) mk_1_205 rfl rfl rfl (ty := .object "FlickedCrates$Numbers") (by decide +kernel) rfl rfl (Nat.le_of_ble_eq_true rfl) rfl dX1_init_95 (fun H locs hV => ?_)
    refine lv_aload_n hx hb dX1_init_98 rfl (lv_at hl 0 rfl) ?_
    refine r_newo (ci := 2) (N := 1) cx hV iX2 tyX2_ok rfl mk_1_188 mk_1_34 mk_1_2 df_X2 ⟨Nat.le_of_ble_eq_true rfl, Nat.le_of_ble_eq_true rfl⟩ dX1_init_99 (fun q15 H hV => ?_)
    have hV : AtW E (((((((([(h0, .inr (1, [.ref q1, .ref q3, .ref q5, .ref q7, .ref q9, .int 0, .null, .null, .ref q11, .ref q13, .null, .int 0, .int 0, .int 0, .int 0, .int 0]))] ++ (bkS E q1 u2)) ++ (bkN E q3 6 u4)) ++ (bkN E q5 6 u6)) ++ (bkN E q7 6 u8)) ++ (bkN E q9 6 u10)) ++ (bkN E q11 6 u12)) ++ (bkN E q13 6 u14)) ++ [(q15, .inr (2, [.null]))]) A s H locs := hV
    refine W.widen (k := 22) (n := 131) (Nat.le_of_ble_eq_true rfl) (Nat.le_of_ble_eq_true rfl) ?_
    refine lv_dup hx hb dX1_init_102 rfl ?_
    refine lv_bipush (v := 24) hx hb dX1_init_103 (by decide) ?_
    refine r_ctor (n := 1) (As := [.int 24]) (c_X2_init (N := 24) (by decide) (by decide) (by decide)) mk_1_36 mk_1_2 mk_1_37 rfl (by decide +kernel) rfl ⟨rfl, rfl⟩ cx hV mk_1_189 ⟨Nat.le_of_ble_eq_true rfl, Nat.le_of_ble_eq_true rfl⟩ ⟨Nat.le_of_ble_eq_true rfl, Nat.le_of_ble_eq_true rfl⟩ hl.1 rfl (Nat.le_of_ble_eq_true rfl) dX1_init_105 (fun u16 H locs hV => ?_)
    have hV : AtW E (((((((([(h0, .inr (1, [.ref q1, .ref q3, .ref q5, .ref q7, .ref q9, .int 0, .null, .null, .ref q11, .ref q13, .null, .int 0, .int 0, .int 0, .int 0, .int 0]))] ++ (bkS E q1 u2)) ++ (bkN E q3 6 u4)) ++ (bkN E q5 6 u6)) ++ (bkN E q7 6 u8)) ++ (bkN E q9 6 u10)) ++ (bkN E q11 6 u12)) ++ (bkN E q13 6 u14)) ++ (bkN E q15 24 u16)) A s H locs := hV
    refine W.widen (k := 23) (n := 155) (Nat.le_of_ble_eq_true rfl) (Nat.le_of_ble_eq_true rfl) ?_
    refine r_putF (V' := (((((((([(h0, .inr (1, [.ref q1, .ref q3, .ref q5, .ref q7, .ref q9, .int 0, .null, .null, .ref q11, .ref q13, .ref q15, .int 0, .int 0, .int 0, .int 0, .int 0]))] ++ (bkS E q1 u2)) ++ (bkN E q3 6 u4)) ++ (bkN E q5 6 u6)) ++ (bkN E q7 6 u8)) ++ (bkN E q9 6 u10)) ++ (bkN E q11 6 u12)) ++ (bkN E q13 6 u14)) ++ (bkN E q15 24 u16))) cx hi hV 0 (ci := 1) rfl rfl iX1 tyX1 tyX1_ok nmX1 10 (by decide) mk_1_206 rfl rfl rfl (ty := .object "FlickedCrates$Numbers") (by decide +kernel) rfl rfl (Nat.le_of_ble_eq_true rfl) rfl dX1_init_108 (fun H locs hV => ?_)
    refine lv_aload_n hx hb dX1_init_111 rfl (lv_at hl 0 rfl) ?_
    refine lv_iconst (v := 0) hx hb dX1_init_112 (by decide) ?_
    refine r_putf (V' := (((((((([(h0, .inr (1, [.ref q1, .ref q3, .ref q5, .ref q7, .ref q9, .int 0, .null, .null, .ref q11, .ref q13, .ref q15, .int 0, .int 0, .int 0, .int 0, .int 0]))] ++ (bkS E q1 u2)) ++ (bkN E q3 6 u4)) ++ (bkN E q5 6 u6)) ++ (bkN E q7 6 u8)) ++ (bkN E q9 6 u10)) ++ (bkN E q11 6 u12)) ++ (bkN E q13 6 u14)) ++ (bkN E q15 24 u16))) cx hV 0 (ci := 1) rfl rfl iX1 tyX1 tyX1_ok nmX1 11 (by decide) mk_1_207 rfl rfl (ty := .int) (by decide +kernel) rfl rfl (Nat.le_of_ble_eq_true rfl) rfl dX1_init_113 (fun H locs hV => ?_)
    refine lv_aload_n hx hb dX1_init_116 rfl (lv_at hl 0 rfl) ?_
    refine lv_iconst (v := 0) hx hb dX1_init_117 (by decide) ?_
    refine r_putf (V' := (((((((([(h0, .inr (1, [.ref q1, .ref q3, .ref q5, .ref q7, .ref q9, .int 0, .null, .null, .ref q11, .ref q13, .ref q15, .int 0, .int 0, .int 0, .int 0, .int 0]))] ++ (bkS E q1 u2)) ++ (bkN E q3 6 u4)) ++ (bkN E q5 6 u6)) ++ (bkN E q7 6 u8)) ++ (bkN E q9 6 u10)) ++ (bkN E q11 6 u12)) ++ (bkN E q13 6 u14)) ++ (bkN E q15 24 u16))) cx hV 0 (ci := 1) rfl rfl iX1 tyX1 tyX1_ok nmX1 12 (by decide) mk_1_208 rfl rfl (ty := .int) (by decide +kernel) rfl rfl (Nat.le_of_ble_eq_true rfl) rfl dX1_init_118 (fun H locs hV => ?_)
    refine lv_aload_n hx hb dX1_init_121 rfl (lv_at hl 0 rfl) ?_
    refine lv_iconst (v := 0) hx hb dX1_init_122 (by decide) ?_
    refine r_putf (V' := (((((((([(h0, .inr (1, [.ref q1, .ref q3, .ref q5, .ref q7, .ref q9, .int 0, .null, .null, .ref q11, .ref q13, .ref q15, .int 0, .int 0, .int 0, .int 0, .int 0]))] ++ (bkS E q1 u2)) ++ (bkN E q3 6 u4)) ++ (bkN E q5 6 u6)) ++ (bkN E q7 6 u8)) ++ (bkN E q9 6 u10)) ++ (bkN E q11 6 u12)) ++ (bkN E q13 6 u14)) ++ (bkN E q15 24 u16))) cx hV 0 (ci := 1) rfl rfl iX1 tyX1 tyX1_ok nmX1 13 (by decide) mk_1_209 rfl rfl (ty := .int) (by decide +kernel) rfl rfl (Nat.le_of_ble_eq_true rfl) rfl dX1_init_123 (fun H locs hV => ?_)
    refine lv_aload_n hx hb dX1_init_126 rfl (lv_at hl 0 rfl) ?_
    refine lv_iconst (v := 0) hx hb dX1_init_127 (by decide) ?_
    refine r_putf (V' := (((((((([(h0, .inr (1, [.ref q1, .ref q3, .ref q5, .ref q7, .ref q9, .int 0, .null, .null, .ref q11, .ref q13, .ref q15, .int 0, .int 0, .int 0, .int 0, .int 0]))] ++ (bkS E q1 u2)) ++ (bkN E q3 6 u4)) ++ (bkN E q5 6 u6)) ++ (bkN E q7 6 u8)) ++ (bkN E q9 6 u10)) ++ (bkN E q11 6 u12)) ++ (bkN E q13 6 u14)) ++ (bkN E q15 24 u16))) cx hV 0 (ci := 1) rfl rfl iX1 tyX1 tyX1_ok nmX1 14 (by decide) mk_1_210 rfl rfl (ty := .boolean) (by decide +kernel) rfl rfl (Nat.le_of_ble_eq_true rfl) rfl dX1_init_128 (fun H locs hV => ?_)
    refine lv_aload_n hx hb dX1_init_131 rfl (lv_at hl 0 rfl) ?_
    refine lv_iconst (v := 0) hx hb dX1_init_132 (by decide) ?_
    refine r_putf (V' := (((((((([(h0, .inr (1, [.ref q1, .ref q3, .ref q5, .ref q7, .ref q9, .int 0, .null, .null, .ref q11, .ref q13, .ref q15, .int 0, .int 0, .int 0, .int 0, .int 0]))] ++ (bkS E q1 u2)) ++ (bkN E q3 6 u4)) ++ (bkN E q5 6 u6)) ++ (bkN E q7 6 u8)) ++ (bkN E q9 6 u10)) ++ (bkN E q11 6 u12)) ++ (bkN E q13 6 u14)) ++ (bkN E q15 24 u16))) cx hV 0 (ci := 1) rfl rfl iX1 tyX1 tyX1_ok nmX1 15 (by decide) mk_1_211 rfl rfl (ty := .boolean) (by decide +kernel) rfl rfl (Nat.le_of_ble_eq_true rfl) rfl dX1_init_133 (fun H locs hV => ?_)
    refine lv_aload_n hx hb dX1_init_136 rfl (lv_at hl 0 rfl) ?_
    refine lv_aload_n hx hb dX1_init_137 rfl (lv_at hl 1 rfl) ?_
    refine r_putF (V' := (((((((([(h0, .inr (1, [.ref q1, .ref q3, .ref q5, .ref q7, .ref q9, .int 0, .ref r1, .null, .ref q11, .ref q13, .ref q15, .int 0, .int 0, .int 0, .int 0, .int 0]))] ++ (bkS E q1 u2)) ++ (bkN E q3 6 u4)) ++ (bkN E q5 6 u6)) ++ (bkN E q7 6 u8)) ++ (bkN E q9 6 u10)) ++ (bkN E q11 6 u12)) ++ (bkN E q13 6 u14)) ++ (bkN E q15 24 u16))) cx hi hV 0 (ci := 1) rfl rfl iX1 tyX1 tyX1_ok nmX1 6 (by decide) mk_1_202 rfl rfl rfl (ty := .object "FlickedCrates$Told") (by decide +kernel) rfl rfl (Nat.le_of_ble_eq_true rfl) rfl dX1_init_138 (fun H locs hV => ?_)
    refine lv_aload_n hx hb dX1_init_141 rfl (lv_at hl 0 rfl) ?_
    refine lv_aload_n hx hb dX1_init_142 rfl (lv_at hl 2 rfl) ?_
    refine r_putF (V' := (((((((([(h0, .inr (1, [.ref q1, .ref q3, .ref q5, .ref q7, .ref q9, .int 0, .ref r1, .ref r2, .ref q11, .ref q13, .ref q15, .int 0, .int 0, .int 0, .int 0, .int 0]))] ++ (bkS E q1 u2)) ++ (bkN E q3 6 u4)) ++ (bkN E q5 6 u6)) ++ (bkN E q7 6 u8)) ++ (bkN E q9 6 u10)) ++ (bkN E q11 6 u12)) ++ (bkN E q13 6 u14)) ++ (bkN E q15 24 u16))) cx hi hV 0 (ci := 1) rfl rfl iX1 tyX1 tyX1_ok nmX1 7 (by decide) mk_1_203 rfl rfl rfl (ty := .object "FlickedCrates$Stock") (by decide +kernel) rfl rfl (Nat.le_of_ble_eq_true rfl) rfl dX1_init_143 (fun H locs hV => ?_)
    refine W.widen (k := 23) (n := 155) (Nat.le_of_ble_eq_true rfl) (Nat.le_of_ble_eq_true rfl) ?_
    exact r_cret (V1 := fun u : Nat → Nat => bkY E h0 r1 r2 u) (fun k => [q1, (u2 0), (u2 1), (u2 2), (u2 3), (u2 4), (u2 5), (u2 6), (u2 7), q3, u4, q5, u6, q7, u8, q9, u10, q11, u12, q13, u14, q15, u16].getD k 0) cx hr hlk hV dX1_init_146
  rw [hH, hlocs] at goal
  exact goal
