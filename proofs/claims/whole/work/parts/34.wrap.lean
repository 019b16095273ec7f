theorem NC_at {s : State} (h : NCs s) (i j : Nat) (hi : i < 4) (hj : j < 4) (hn : i ≠ j) : va_Nc (exN (i + 1)) (exN (j + 1)) s := h i j hi hj hn
abbrev rm_L_basket : Room := { frames := 8, cells := 0, slots := 0, locals := 126 }
abbrev rmx_L_basket : Room := { frames := 8, cells := 1, slots := 6, locals := 126 }
set_option maxHeartbeats 4000000 in
set_option maxRecDepth 100000 in
theorem w_L_basket {l : Launch} {E : EV} {X : va_W} {σ σf : St} {o : Nat} {f : Nat → Int64} {p1 p2 : Int32} {rv : Int32} (h : x_X9_basket p1 p2 σ = some (.inl (rv, σf))) : CW l yL_basket cL_basket 5 (some .int) [(0, 10, 13, 13)] rm_L_basket [.ref (eA E 0), .int p1, .int p2, .ref o] E (wC E σ ++ ((o, .inl (eJ E, 1, .inr (.inl f))) :: X)) (wC E σf ++ (o, .inl (eJ E, 1, .inr (.inl (vp_updL f 0 (Int32.toInt64 rv))))) :: X) (qI 0) 0 0 := by
  refine CW.start (by decide) (Nat.le_of_ble_eq_true rfl) (fun p e s m a below meth c A ls cx hr hlk htab hV hF hN hl => ?_)
  have cx : CallFix p m c cL_basket 5 s a TBL RL := cx
  have hx := cx.1
  have hb := cx.2.1
  have hl : lv_has ls 5 [(0, .ref (eA E 0)), (1, .int p1), (2, .int p2), (3, .ref o)] := hl
  obtain ⟨H, hH⟩ : ∃ H, H = s.heap := ⟨_, rfl⟩
  obtain ⟨locs, hlocs⟩ : ∃ z, z = ([] : List Loc) := ⟨_, rfl⟩
  have hV : AtW E (wC E σ ++ ((o, .inl (eJ E, 1, .inr (.inl f))) :: X)) A s H locs := by rw [hH, hlocs]; exact hV
  have goal : W p l e rm_L_basket s m a below meth c H locs 0 0 (EQW E (wC E σf ++ (o, .inl (eJ E, 1, .inr (.inl (vp_updL f 0 (Int32.toInt64 rv))))) :: X) (qI 0) A s a below 0 0) (F0 m 0 ls []) := by
    refine lv_aload_n hx hb dL_basket_0 rfl (lv_at hl 3 rfl) ?_
    refine lv_iconst (v := 0) hx hb dL_basket_1 (by decide) ?_
    refine lv_aload_n hx hb dL_basket_2 rfl (lv_at hl 0 rfl) ?_
    refine lv_iload_n hx hb dL_basket_3 rfl (lv_at hl 1 rfl) ?_
    refine lv_iload_n hx hb dL_basket_4 rfl (lv_at hl 2 rfl) ?_
    refine k_X9_basket h cx hV hF mk_5_231 ⟨Nat.le_of_ble_eq_true rfl, Nat.le_of_ble_eq_true rfl⟩ ⟨Nat.zero_le _, Nat.zero_le _⟩ hl.1 (Nat.le_of_ble_eq_true rfl) dL_basket_5 (fun H locs hV => ?_)
    refine lv_i2l (v := Int32.toInt64 rv) hx hb dL_basket_8 rfl ?_
    refine r_last (V' := (wC E σf ++ (o, .inl (eJ E, 1, .inr (.inl (vp_updL f 0 (Int32.toInt64 rv))))) :: X)) cx hV 115 rfl (n := 1) (f := f) (by unfold vp_in; decide) rfl dL_basket_9 (fun H locs hV => ?_)
    refine lv_goto (tgt := 17) hx hb dL_basket_10 (by decide) ?_
    refine lv_iconst (v := 0) hx hb dL_basket_17 (by decide) ?_
    exact r_wret cx hr hlk hV dL_basket_18
  rw [hH, hlocs] at goal
  exact goal
set_option maxHeartbeats 4000000 in
set_option maxRecDepth 100000 in
theorem wt_L_basket_3 {l : Launch} (hT : l.stackTraces = false) {E : EV} {X : va_W} {σ σf : St} {o : Nat} {f : Nat → Int64} {p1 p2 : Int32} (h : x_X9_basket p1 p2 σ = some (.inr (3, σf))) : CW l yL_basket cL_basket 5 (some .int) [(0, 10, 13, 13)] rmx_L_basket [.ref (eA E 0), .int p1, .int p2, .ref o] E (wC E σ ++ ((o, .inl (eJ E, 1, .inr (.inl f))) :: X)) (wC E σf ++ ((o, .inl (eJ E, 1, .inr (.inl f))) :: X)) (qI 1) 1 6 := by
  refine CW.start (by decide) (Nat.le_of_ble_eq_true rfl) (fun p e s m a below meth c A ls cx hr hlk htab hV hF hN hl => ?_)
  have cx : CallFix p m c cL_basket 5 s a TBL RL := cx
  have hx := cx.1
  have hb := cx.2.1
  have hl : lv_has ls 5 [(0, .ref (eA E 0)), (1, .int p1), (2, .int p2), (3, .ref o)] := hl
  obtain ⟨H, hH⟩ : ∃ H, H = s.heap := ⟨_, rfl⟩
  obtain ⟨locs, hlocs⟩ : ∃ z, z = ([] : List Loc) := ⟨_, rfl⟩
  have hV : AtW E (wC E σ ++ ((o, .inl (eJ E, 1, .inr (.inl f))) :: X)) A s H locs := by rw [hH, hlocs]; exact hV
  have goal : W p l e rmx_L_basket s m a below meth c H locs 0 0 (EQW E (wC E σf ++ ((o, .inl (eJ E, 1, .inr (.inl f))) :: X)) (qI 1) A s a below 1 6) (F0 m 0 ls []) := by
    refine lv_aload_n hx hb dL_basket_0 rfl (lv_at hl 3 rfl) ?_
    refine lv_iconst (v := 0) hx hb dL_basket_1 (by decide) ?_
    refine lv_aload_n hx hb dL_basket_2 rfl (lv_at hl 0 rfl) ?_
    refine lv_iload_n hx hb dL_basket_3 rfl (lv_at hl 1 rfl) ?_
    refine lv_iload_n hx hb dL_basket_4 rfl (lv_at hl 2 rfl) ?_
    refine r_wcatch (n := 2) (As := [.int p1, .int p2]) (q0 := 0) (ci := 9) (qq := (RX9, TX9, 14)) (Ex := exN 3) (t_X9_basket hT h) wC_fst rfl rfl mk_5_232 mk_5_233 mk_1_1 mk_5_234 (by decide +kernel) rfl ⟨rfl, rfl⟩ cx hV hF mk_5_231 ⟨Nat.le_of_ble_eq_true rfl, Nat.le_of_ble_eq_true rfl⟩ ⟨Nat.le_of_ble_eq_true rfl, Nat.le_of_ble_eq_true rfl⟩ hl.1 rfl (Nat.le_of_ble_eq_true rfl) dL_basket_5 [] ⟨0, 10, 13, 13⟩ [] htab (fun z hz => by cases hz) (by decide) (by decide) mk_3_173 (List.mem_of_getElem? (i := 2) rfl) (fun q9 H locs hV => ?_)
    refine lv_astore (lv' := [(4, .ref q9), (0, .ref (eA E 0)), (1, .int p1), (2, .int p2), (3, .ref o)]) hx hb dL_basket_13 hl (by decide) rfl (fun ls hl => ?_)
    refine lv_iconst (v := 1) hx hb dL_basket_15 (by decide) ?_
    exact r_wret cx hr hlk hV dL_basket_16
  rw [hH, hlocs] at goal
  exact goal
abbrev rm_L_buys : Room := { frames := 8, cells := 0, slots := 0, locals := 191 }
abbrev rmx_L_buys : Room := { frames := 8, cells := 1, slots := 6, locals := 191 }
set_option maxHeartbeats 4000000 in
set_option maxRecDepth 100000 in
theorem w_L_buys {l : Launch} {E : EV} {X : va_W} {σ σf : St} {o : Nat} {f : Nat → Int64} {p1 p2 p3 : Int32} {rv : Int32} (h : x_X9_buys p1 p2 p3 σ = some (.inl (rv, σf))) : CW l yL_buys cL_buys 6 (some .int) [(0, 12, 15, 30), (0, 12, 19, 13)] rm_L_buys [.ref (eA E 0), .int p1, .int p2, .int p3, .ref o] E (wC E σ ++ ((o, .inl (eJ E, 1, .inr (.inl f))) :: X)) (wC E σf ++ (o, .inl (eJ E, 1, .inr (.inl (vp_updL f 0 (Int32.toInt64 rv))))) :: X) (qI 0) 0 0 := by
  refine CW.start (by decide) (Nat.le_of_ble_eq_true rfl) (fun p e s m a below meth c A ls cx hr hlk htab hV hF hN hl => ?_)
  have cx : CallFix p m c cL_buys 6 s a TBL RL := cx
  have hx := cx.1
  have hb := cx.2.1
  have hl : lv_has ls 6 [(0, .ref (eA E 0)), (1, .int p1), (2, .int p2), (3, .int p3), (4, .ref o)] := hl
  obtain ⟨H, hH⟩ : ∃ H, H = s.heap := ⟨_, rfl⟩
  obtain ⟨locs, hlocs⟩ : ∃ z, z = ([] : List Loc) := ⟨_, rfl⟩
  have hV : AtW E (wC E σ ++ ((o, .inl (eJ E, 1, .inr (.inl f))) :: X)) A s H locs := by rw [hH, hlocs]; exact hV
  have goal : W p l e rm_L_buys s m a below meth c H locs 0 0 (EQW E (wC E σf ++ (o, .inl (eJ E, 1, .inr (.inl (vp_updL f 0 (Int32.toInt64 rv))))) :: X) (qI 0) A s a below 0 0) (F0 m 0 ls []) := by
    refine lv_aload hx hb dL_buys_0 (lv_at hl 4 rfl) ?_
    refine lv_iconst (v := 0) hx hb dL_buys_2 (by decide) ?_
    refine lv_aload_n hx hb dL_buys_3 rfl (lv_at hl 0 rfl) ?_
    refine lv_iload_n hx hb dL_buys_4 rfl (lv_at hl 1 rfl) ?_
    refine lv_iload_n hx hb dL_buys_5 rfl (lv_at hl 2 rfl) ?_
    refine lv_iload_n hx hb dL_buys_6 rfl (lv_at hl 3 rfl) ?_
    refine k_X9_buys h cx hV hF mk_5_105 ⟨Nat.le_of_ble_eq_true rfl, Nat.le_of_ble_eq_true rfl⟩ ⟨Nat.zero_le _, Nat.zero_le _⟩ hl.1 (Nat.le_of_ble_eq_true rfl) dL_buys_7 (fun H locs hV => ?_)
    refine lv_i2l (v := Int32.toInt64 rv) hx hb dL_buys_10 rfl ?_
    refine r_last (V' := (wC E σf ++ (o, .inl (eJ E, 1, .inr (.inl (vp_updL f 0 (Int32.toInt64 rv))))) :: X)) cx hV 115 rfl (n := 1) (f := f) (by unfold vp_in; decide) rfl dL_buys_11 (fun H locs hV => ?_)
    refine lv_goto (tgt := 23) hx hb dL_buys_12 (by decide) ?_
    refine lv_iconst (v := 0) hx hb dL_buys_23 (by decide) ?_
    exact r_wret cx hr hlk hV dL_buys_24
  rw [hH, hlocs] at goal
  exact goal
set_option maxHeartbeats 4000000 in
set_option maxRecDepth 100000 in
theorem wt_L_buys_2 {l : Launch} (hT : l.stackTraces = false) {E : EV} {X : va_W} {σ σf : St} {o : Nat} {f : Nat → Int64} {p1 p2 p3 : Int32} (h : x_X9_buys p1 p2 p3 σ = some (.inr (2, σf))) : CW l yL_buys cL_buys 6 (some .int) [(0, 12, 15, 30), (0, 12, 19, 13)] rmx_L_buys [.ref (eA E 0), .int p1, .int p2, .int p3, .ref o] E (wC E σ ++ ((o, .inl (eJ E, 1, .inr (.inl f))) :: X)) (wC E σf ++ ((o, .inl (eJ E, 1, .inr (.inl f))) :: X)) (qI 1) 1 6 := by
  refine CW.start (by decide) (Nat.le_of_ble_eq_true rfl) (fun p e s m a below meth c A ls cx hr hlk htab hV hF hN hl => ?_)
  have cx : CallFix p m c cL_buys 6 s a TBL RL := cx
  have hx := cx.1
  have hb := cx.2.1
  have hl : lv_has ls 6 [(0, .ref (eA E 0)), (1, .int p1), (2, .int p2), (3, .int p3), (4, .ref o)] := hl
  obtain ⟨H, hH⟩ : ∃ H, H = s.heap := ⟨_, rfl⟩
  obtain ⟨locs, hlocs⟩ : ∃ z, z = ([] : List Loc) := ⟨_, rfl⟩
  have hV : AtW E (wC E σ ++ ((o, .inl (eJ E, 1, .inr (.inl f))) :: X)) A s H locs := by rw [hH, hlocs]; exact hV
  have goal : W p l e rmx_L_buys s m a below meth c H locs 0 0 (EQW E (wC E σf ++ ((o, .inl (eJ E, 1, .inr (.inl f))) :: X)) (qI 1) A s a below 1 6) (F0 m 0 ls []) := by
    refine lv_aload hx hb dL_buys_0 (lv_at hl 4 rfl) ?_
    refine lv_iconst (v := 0) hx hb dL_buys_2 (by decide) ?_
    refine lv_aload_n hx hb dL_buys_3 rfl (lv_at hl 0 rfl) ?_
    refine lv_iload_n hx hb dL_buys_4 rfl (lv_at hl 1 rfl) ?_
    refine lv_iload_n hx hb dL_buys_5 rfl (lv_at hl 2 rfl) ?_
    refine lv_iload_n hx hb dL_buys_6 rfl (lv_at hl 3 rfl) ?_
    refine r_wcatch (n := 3) (As := [.int p1, .int p2, .int p3]) (q0 := 0) (ci := 9) (qq := (RX9, TX9, 14)) (Ex := exN 2) (t_X9_buys hT h) wC_fst rfl rfl mk_5_106 mk_5_107 mk_1_1 mk_5_108 (by decide +kernel) rfl ⟨rfl, rfl⟩ cx hV hF mk_5_105 ⟨Nat.le_of_ble_eq_true rfl, Nat.le_of_ble_eq_true rfl⟩ ⟨Nat.le_of_ble_eq_true rfl, Nat.le_of_ble_eq_true rfl⟩ hl.1 rfl (Nat.le_of_ble_eq_true rfl) dL_buys_7 [] ⟨0, 12, 15, 30⟩ [⟨0, 12, 19, 13⟩] htab (fun z hz => by cases hz) (by decide) (by decide) mk_4_232 (List.mem_of_getElem? (i := 1) rfl) (fun q9 H locs hV => ?_)
    refine lv_astore (lv' := [(5, .ref q9), (0, .ref (eA E 0)), (1, .int p1), (2, .int p2), (3, .int p3), (4, .ref o)]) hx hb dL_buys_15 hl (by decide) rfl (fun ls hl => ?_)
    refine lv_iconst (v := 1) hx hb dL_buys_17 (by decide) ?_
    exact r_wret cx hr hlk hV dL_buys_18
  rw [hH, hlocs] at goal
  exact goal
set_option maxHeartbeats 4000000 in
set_option maxRecDepth 100000 in
theorem wt_L_buys_3 {l : Launch} (hT : l.stackTraces = false) {E : EV} {X : va_W} {σ σf : St} {o : Nat} {f : Nat → Int64} {p1 p2 p3 : Int32} (h : x_X9_buys p1 p2 p3 σ = some (.inr (3, σf))) : CW l yL_buys cL_buys 6 (some .int) [(0, 12, 15, 30), (0, 12, 19, 13)] rmx_L_buys [.ref (eA E 0), .int p1, .int p2, .int p3, .ref o] E (wC E σ ++ ((o, .inl (eJ E, 1, .inr (.inl f))) :: X)) (wC E σf ++ ((o, .inl (eJ E, 1, .inr (.inl f))) :: X)) (qI 2) 1 6 := by
  refine CW.start (by decide) (Nat.le_of_ble_eq_true rfl) (fun p e s m a below meth c A ls cx hr hlk htab hV hF hN hl => ?_)
  have cx : CallFix p m c cL_buys 6 s a TBL RL := cx
  have hx := cx.1
  have hb := cx.2.1
  have hl : lv_has ls 6 [(0, .ref (eA E 0)), (1, .int p1), (2, .int p2), (3, .int p3), (4, .ref o)] := hl
  obtain ⟨H, hH⟩ : ∃ H, H = s.heap := ⟨_, rfl⟩
  obtain ⟨locs, hlocs⟩ : ∃ z, z = ([] : List Loc) := ⟨_, rfl⟩
  have hV : AtW E (wC E σ ++ ((o, .inl (eJ E, 1, .inr (.inl f))) :: X)) A s H locs := by rw [hH, hlocs]; exact hV
  have goal : W p l e rmx_L_buys s m a below meth c H locs 0 0 (EQW E (wC E σf ++ ((o, .inl (eJ E, 1, .inr (.inl f))) :: X)) (qI 2) A s a below 1 6) (F0 m 0 ls []) := by
    refine lv_aload hx hb dL_buys_0 (lv_at hl 4 rfl) ?_
    refine lv_iconst (v := 0) hx hb dL_buys_2 (by decide) ?_
    refine lv_aload_n hx hb dL_buys_3 rfl (lv_at hl 0 rfl) ?_
    refine lv_iload_n hx hb dL_buys_4 rfl (lv_at hl 1 rfl) ?_
    refine lv_iload_n hx hb dL_buys_5 rfl (lv_at hl 2 rfl) ?_
    refine lv_iload_n hx hb dL_buys_6 rfl (lv_at hl 3 rfl) ?_
    refine r_wcatch (n := 3) (As := [.int p1, .int p2, .int p3]) (q0 := 0) (ci := 9) (qq := (RX9, TX9, 14)) (Ex := exN 3) (t_X9_buys hT h) wC_fst rfl rfl mk_5_106 mk_5_107 mk_1_1 mk_5_108 (by decide +kernel) rfl ⟨rfl, rfl⟩ cx hV hF mk_5_105 ⟨Nat.le_of_ble_eq_true rfl, Nat.le_of_ble_eq_true rfl⟩ ⟨Nat.le_of_ble_eq_true rfl, Nat.le_of_ble_eq_true rfl⟩ hl.1 rfl (Nat.le_of_ble_eq_true rfl) dL_buys_7 [⟨0, 12, 15, 30⟩] ⟨0, 12, 19, 13⟩ [] htab (fun z hz => by
      simp only [List.mem_cons, List.not_mem_nil, or_false] at hz
      rcases hz with rfl
      · exact Or.inr ⟨(by decide), _, mk_4_232, NC_at hN 2 1 (by decide) (by decide) (by decide)⟩) (by decide) (by decide) mk_3_173 (List.mem_of_getElem? (i := 2) rfl) (fun q9 H locs hV => ?_)
    refine lv_astore (lv' := [(5, .ref q9), (0, .ref (eA E 0)), (1, .int p1), (2, .int p2), (3, .int p3), (4, .ref o)]) hx hb dL_buys_19 hl (by decide) rfl (fun ls hl => ?_)
    refine lv_iconst (v := 2) hx hb dL_buys_21 (by decide) ?_
    exact r_wret cx hr hlk hV dL_buys_22
  rw [hH, hlocs] at goal
  exact goal
abbrev rm_L_change : Room := { frames := 8, cells := 0, slots := 0, locals := 125 }
abbrev rmx_L_change : Room := { frames := 8, cells := 1, slots := 6, locals := 125 }
set_option maxHeartbeats 4000000 in
set_option maxRecDepth 100000 in
theorem w_L_change {l : Launch} {E : EV} {X : va_W} {σ σf : St} {o : Nat} {f : Nat → Int64} {p1 p2 : Int32} {rv : Int32} (h : x_X9_change p1 p2 σ = some (.inl (rv, σf))) : CW l yL_change cL_change 5 (some .int) [(0, 10, 13, 30), (0, 10, 17, 13)] rm_L_change [.ref (eA E 0), .int p1, .int p2, .ref o] E (wC E σ ++ ((o, .inl (eJ E, 1, .inr (.inl f))) :: X)) (wC E σf ++ (o, .inl (eJ E, 1, .inr (.inl (vp_updL f 0 (Int32.toInt64 rv))))) :: X) (qI 0) 0 0 := by
  refine CW.start (by decide) (Nat.le_of_ble_eq_true rfl) (fun p e s m a below meth c A ls cx hr hlk htab hV hF hN hl => ?_)
  have cx : CallFix p m c cL_change 5 s a TBL RL := cx
  have hx := cx.1
  have hb := cx.2.1
  have hl : lv_has ls 5 [(0, .ref (eA E 0)), (1, .int p1), (2, .int p2), (3, .ref o)] := hl
  obtain ⟨H, hH⟩ : ∃ H, H = s.heap := ⟨_, rfl⟩
  obtain ⟨locs, hlocs⟩ : ∃ z, z = ([] : List Loc) := ⟨_, rfl⟩
  have hV : AtW E (wC E σ ++ ((o, .inl (eJ E, 1, .inr (.inl f))) :: X)) A s H locs := by rw [hH, hlocs]; exact hV
  have goal : W p l e rm_L_change s m a below meth c H locs 0 0 (EQW E (wC E σf ++ (o, .inl (eJ E, 1, .inr (.inl (vp_updL f 0 (Int32.toInt64 rv))))) :: X) (qI 0) A s a below 0 0) (F0 m 0 ls []) := by
    refine lv_aload_n hx hb dL_change_0 rfl (lv_at hl 3 rfl) ?_
    refine lv_iconst (v := 0) hx hb dL_change_1 (by decide) ?_
    refine lv_aload_n hx hb dL_change_2 rfl (lv_at hl 0 rfl) ?_
    refine lv_iload_n hx hb dL_change_3 rfl (lv_at hl 1 rfl) ?_
    refine lv_iload_n hx hb dL_change_4 rfl (lv_at hl 2 rfl) ?_
    refine k_X9_change h cx hV hF mk_5_77 ⟨Nat.le_of_ble_eq_true rfl, Nat.le_of_ble_eq_true rfl⟩ ⟨Nat.zero_le _, Nat.zero_le _⟩ hl.1 (Nat.le_of_ble_eq_true rfl) dL_change_5 (fun H locs hV => ?_)
    refine lv_i2l (v := Int32.toInt64 rv) hx hb dL_change_8 rfl ?_
    refine r_last (V' := (wC E σf ++ (o, .inl (eJ E, 1, .inr (.inl (vp_updL f 0 (Int32.toInt64 rv))))) :: X)) cx hV 115 rfl (n := 1) (f := f) (by unfold vp_in; decide) rfl dL_change_9 (fun H locs hV => ?_)
    refine lv_goto (tgt := 21) hx hb dL_change_10 (by decide) ?_
    refine lv_iconst (v := 0) hx hb dL_change_21 (by decide) ?_
    exact r_wret cx hr hlk hV dL_change_22
  rw [hH, hlocs] at goal
  exact goal
set_option maxHeartbeats 4000000 in
set_option maxRecDepth 100000 in
theorem wt_L_change_2 {l : Launch} (hT : l.stackTraces = false) {E : EV} {X : va_W} {σ σf : St} {o : Nat} {f : Nat → Int64} {p1 p2 : Int32} (h : x_X9_change p1 p2 σ = some (.inr (2, σf))) : CW l yL_change cL_change 5 (some .int) [(0, 10, 13, 30), (0, 10, 17, 13)] rmx_L_change [.ref (eA E 0), .int p1, .int p2, .ref o] E (wC E σ ++ ((o, .inl (eJ E, 1, .inr (.inl f))) :: X)) (wC E σf ++ ((o, .inl (eJ E, 1, .inr (.inl f))) :: X)) (qI 1) 1 6 := by
  refine CW.start (by decide) (Nat.le_of_ble_eq_true rfl) (fun p e s m a below meth c A ls cx hr hlk htab hV hF hN hl => ?_)
  have cx : CallFix p m c cL_change 5 s a TBL RL := cx
  have hx := cx.1
  have hb := cx.2.1
  have hl : lv_has ls 5 [(0, .ref (eA E 0)), (1, .int p1), (2, .int p2), (3, .ref o)] := hl
  obtain ⟨H, hH⟩ : ∃ H, H = s.heap := ⟨_, rfl⟩
  obtain ⟨locs, hlocs⟩ : ∃ z, z = ([] : List Loc) := ⟨_, rfl⟩
  have hV : AtW E (wC E σ ++ ((o, .inl (eJ E, 1, .inr (.inl f))) :: X)) A s H locs := by rw [hH, hlocs]; exact hV
  have goal : W p l e rmx_L_change s m a below meth c H locs 0 0 (EQW E (wC E σf ++ ((o, .inl (eJ E, 1, .inr (.inl f))) :: X)) (qI 1) A s a below 1 6) (F0 m 0 ls []) := by
    refine lv_aload_n hx hb dL_change_0 rfl (lv_at hl 3 rfl) ?_
    refine lv_iconst (v := 0) hx hb dL_change_1 (by decide) ?_
    refine lv_aload_n hx hb dL_change_2 rfl (lv_at hl 0 rfl) ?_
    refine lv_iload_n hx hb dL_change_3 rfl (lv_at hl 1 rfl) ?_
    refine lv_iload_n hx hb dL_change_4 rfl (lv_at hl 2 rfl) ?_
    refine r_wcatch (n := 2) (As := [.int p1, .int p2]) (q0 := 0) (ci := 9) (qq := (RX9, TX9, 14)) (Ex := exN 2) (t_X9_change hT h) wC_fst rfl rfl mk_5_78 mk_5_79 mk_1_1 mk_5_80 (by decide +kernel) rfl ⟨rfl, rfl⟩ cx hV hF mk_5_77 ⟨Nat.le_of_ble_eq_true rfl, Nat.le_of_ble_eq_true rfl⟩ ⟨Nat.le_of_ble_eq_true rfl, Nat.le_of_ble_eq_true rfl⟩ hl.1 rfl (Nat.le_of_ble_eq_true rfl) dL_change_5 [] ⟨0, 10, 13, 30⟩ [⟨0, 10, 17, 13⟩] htab (fun z hz => by cases hz) (by decide) (by decide) mk_4_232 (List.mem_of_getElem? (i := 1) rfl) (fun q9 H locs hV => ?_)
    refine lv_astore (lv' := [(4, .ref q9), (0, .ref (eA E 0)), (1, .int p1), (2, .int p2), (3, .ref o)]) hx hb dL_change_13 hl (by decide) rfl (fun ls hl => ?_)
    refine lv_iconst (v := 1) hx hb dL_change_15 (by decide) ?_
    exact r_wret cx hr hlk hV dL_change_16
  rw [hH, hlocs] at goal
  exact goal
set_option maxHeartbeats 4000000 in
set_option maxRecDepth 100000 in
theorem wt_L_change_3 {l : Launch} (hT : l.stackTraces = false) {E : EV} {X : va_W} {σ σf : St} {o : Nat} {f : Nat → Int64} {p1 p2 : Int32} (h : x_X9_change p1 p2 σ = some (.inr (3, σf))) : CW l yL_change cL_change 5 (some .int) [(0, 10, 13, 30), (0, 10, 17, 13)] rmx_L_change [.ref (eA E 0), .int p1, .int p2, .ref o] E (wC E σ ++ ((o, .inl (eJ E, 1, .inr (.inl f))) :: X)) (wC E σf ++ ((o, .inl (eJ E, 1, .inr (.inl f))) :: X)) (qI 2) 1 6 := by
  refine CW.start (by decide) (Nat.le_of_ble_eq_true rfl) (fun p e s m a below meth c A ls cx hr hlk htab hV hF hN hl => ?_)
  have cx : CallFix p m c cL_change 5 s a TBL RL := cx
  have hx := cx.1
  have hb := cx.2.1
  have hl : lv_has ls 5 [(0, .ref (eA E 0)), (1, .int p1), (2, .int p2), (3, .ref o)] := hl
  obtain ⟨H, hH⟩ : ∃ H, H = s.heap := ⟨_, rfl⟩
  obtain ⟨locs, hlocs⟩ : ∃ z, z = ([] : List Loc) := ⟨_, rfl⟩
  have hV : AtW E (wC E σ ++ ((o, .inl (eJ E, 1, .inr (.inl f))) :: X)) A s H locs := by rw [hH, hlocs]; exact hV
  have goal : W p l e rmx_L_change s m a below meth c H locs 0 0 (EQW E (wC E σf ++ ((o, .inl (eJ E, 1, .inr (.inl f))) :: X)) (qI 2) A s a below 1 6) (F0 m 0 ls []) := by
    refine lv_aload_n hx hb dL_change_0 rfl (lv_at hl 3 rfl) ?_
    refine lv_iconst (v := 0) hx hb dL_change_1 (by decide) ?_
    refine lv_aload_n hx hb dL_change_2 rfl (lv_at hl 0 rfl) ?_
    refine lv_iload_n hx hb dL_change_3 rfl (lv_at hl 1 rfl) ?_
    refine lv_iload_n hx hb dL_change_4 rfl (lv_at hl 2 rfl) ?_
    refine r_wcatch (n := 2) (As := [.int p1, .int p2]) (q0 := 0) (ci := 9) (qq := (RX9, TX9, 14)) (Ex := exN 3) (t_X9_change hT h) wC_fst rfl rfl mk_5_78 mk_5_79 mk_1_1 mk_5_80 (by decide +kernel) rfl ⟨rfl, rfl⟩ cx hV hF mk_5_77 ⟨Nat.le_of_ble_eq_true rfl, Nat.le_of_ble_eq_true rfl⟩ ⟨Nat.le_of_ble_eq_true rfl, Nat.le_of_ble_eq_true rfl⟩ hl.1 rfl (Nat.le_of_ble_eq_true rfl) dL_change_5 [⟨0, 10, 13, 30⟩] ⟨0, 10, 17, 13⟩ [] htab (fun z hz => by
      simp only [List.mem_cons, List.not_mem_nil, or_false] at hz
      rcases hz with rfl
      · exact Or.inr ⟨(by decide), _, mk_4_232, NC_at hN 2 1 (by decide) (by decide) (by decide)⟩) (by decide) (by decide) mk_3_173 (List.mem_of_getElem? (i := 2) rfl) (fun q9 H locs hV => ?_)
    refine lv_astore (lv' := [(4, .ref q9), (0, .ref (eA E 0)), (1, .int p1), (2, .int p2), (3, .ref o)]) hx hb dL_change_17 hl (by decide) rfl (fun ls hl => ?_)
    refine lv_iconst (v := 2) hx hb dL_change_19 (by decide) ?_
    exact r_wret cx hr hlk hV dL_change_20
  rw [hH, hlocs] at goal
  exact goal
abbrev rm_L_crate : Room := { frames := 8, cells := 0, slots := 0, locals := 125 }
abbrev rmx_L_crate : Room := { frames := 8, cells := 1, slots := 6, locals := 125 }
set_option maxHeartbeats 4000000 in
set_option maxRecDepth 100000 in
theorem w_L_crate {l : Launch} {E : EV} {X : va_W} {σ σf : St} {o : Nat} {f : Nat → Int64} {p1 p2 : Int32} {rv : Int32} (h : x_X9_crate p1 p2 σ = some (.inl (rv, σf))) : CW l yL_crate cL_crate 5 (some .int) [(0, 10, 13, 22), (0, 10, 17, 13)] rm_L_crate [.ref (eA E 0), .int p1, .int p2, .ref o] E (wC E σ ++ ((o, .inl (eJ E, 1, .inr (.inl f))) :: X)) (wC E σf ++ (o, .inl (eJ E, 1, .inr (.inl (vp_updL f 0 (Int32.toInt64 rv))))) :: X) (qI 0) 0 0 := by
  refine CW.start (by decide) (Nat.le_of_ble_eq_true rfl) (fun p e s m a below meth c A ls cx hr hlk htab hV hF hN hl => ?_)
  have cx : CallFix p m c cL_crate 5 s a TBL RL := cx
  have hx := cx.1
  have hb := cx.2.1
  have hl : lv_has ls 5 [(0, .ref (eA E 0)), (1, .int p1), (2, .int p2), (3, .ref o)] := hl
  obtain ⟨H, hH⟩ : ∃ H, H = s.heap := ⟨_, rfl⟩
  obtain ⟨locs, hlocs⟩ : ∃ z, z = ([] : List Loc) := ⟨_, rfl⟩
  have hV : AtW E (wC E σ ++ ((o, .inl (eJ E, 1, .inr (.inl f))) :: X)) A s H locs := by rw [hH, hlocs]; exact hV
  have goal : W p l e rm_L_crate s m a below meth c H locs 0 0 (EQW E (wC E σf ++ (o, .inl (eJ E, 1, .inr (.inl (vp_updL f 0 (Int32.toInt64 rv))))) :: X) (qI 0) A s a below 0 0) (F0 m 0 ls []) := by
    refine lv_aload_n hx hb dL_crate_0 rfl (lv_at hl 3 rfl) ?_
    refine lv_iconst (v := 0) hx hb dL_crate_1 (by decide) ?_
    refine lv_aload_n hx hb dL_crate_2 rfl (lv_at hl 0 rfl) ?_
    refine lv_iload_n hx hb dL_crate_3 rfl (lv_at hl 1 rfl) ?_
    refine lv_iload_n hx hb dL_crate_4 rfl (lv_at hl 2 rfl) ?_
    refine k_X9_crate h cx hV hF mk_4_193 ⟨Nat.le_of_ble_eq_true rfl, Nat.le_of_ble_eq_true rfl⟩ ⟨Nat.zero_le _, Nat.zero_le _⟩ hl.1 (Nat.le_of_ble_eq_true rfl) dL_crate_5 (fun H locs hV => ?_)
    refine lv_i2l (v := Int32.toInt64 rv) hx hb dL_crate_8 rfl ?_
    refine r_last (V' := (wC E σf ++ (o, .inl (eJ E, 1, .inr (.inl (vp_updL f 0 (Int32.toInt64 rv))))) :: X)) cx hV 115 rfl (n := 1) (f := f) (by unfold vp_in; decide) rfl dL_crate_9 (fun H locs hV => ?_)
    refine lv_goto (tgt := 21) hx hb dL_crate_10 (by decide) ?_
    refine lv_iconst (v := 0) hx hb dL_crate_21 (by decide) ?_
    exact r_wret cx hr hlk hV dL_crate_22
  rw [hH, hlocs] at goal
  exact goal
set_option maxHeartbeats 4000000 in
set_option maxRecDepth 100000 in
theorem wt_L_crate_1 {l : Launch} (hT : l.stackTraces = false) {E : EV} {X : va_W} {σ σf : St} {o : Nat} {f : Nat → Int64} {p1 p2 : Int32} (h : x_X9_crate p1 p2 σ = some (.inr (1, σf))) : CW l yL_crate cL_crate 5 (some .int) [(0, 10, 13, 22), (0, 10, 17, 13)] rmx_L_crate [.ref (eA E 0), .int p1, .int p2, .ref o] E (wC E σ ++ ((o, .inl (eJ E, 1, .inr (.inl f))) :: X)) (wC E σf ++ ((o, .inl (eJ E, 1, .inr (.inl f))) :: X)) (qI 1) 1 6 := by
  refine CW.start (by decide) (Nat.le_of_ble_eq_true rfl) (fun p e s m a below meth c A ls cx hr hlk htab hV hF hN hl => ?_)
  have cx : CallFix p m c cL_crate 5 s a TBL RL := cx
  have hx := cx.1
  have hb := cx.2.1
  have hl : lv_has ls 5 [(0, .ref (eA E 0)), (1, .int p1), (2, .int p2), (3, .ref o)] := hl
  obtain ⟨H, hH⟩ : ∃ H, H = s.heap := ⟨_, rfl⟩
  obtain ⟨locs, hlocs⟩ : ∃ z, z = ([] : List Loc) := ⟨_, rfl⟩
  have hV : AtW E (wC E σ ++ ((o, .inl (eJ E, 1, .inr (.inl f))) :: X)) A s H locs := by rw [hH, hlocs]; exact hV
  have goal : W p l e rmx_L_crate s m a below meth c H locs 0 0 (EQW E (wC E σf ++ ((o, .inl (eJ E, 1, .inr (.inl f))) :: X)) (qI 1) A s a below 1 6) (F0 m 0 ls []) := by
    refine lv_aload_n hx hb dL_crate_0 rfl (lv_at hl 3 rfl) ?_
    refine lv_iconst (v := 0) hx hb dL_crate_1 (by decide) ?_
    refine lv_aload_n hx hb dL_crate_2 rfl (lv_at hl 0 rfl) ?_
    refine lv_iload_n hx hb dL_crate_3 rfl (lv_at hl 1 rfl) ?_
    refine lv_iload_n hx hb dL_crate_4 rfl (lv_at hl 2 rfl) ?_
    refine r_wcatch (n := 2) (As := [.int p1, .int p2]) (q0 := 0) (ci := 9) (qq := (RX9, TX9, 14)) (Ex := exN 1) (t_X9_crate hT h) wC_fst rfl rfl mk_4_194 mk_4_195 mk_1_1 mk_4_196 (by decide +kernel) rfl ⟨rfl, rfl⟩ cx hV hF mk_4_193 ⟨Nat.le_of_ble_eq_true rfl, Nat.le_of_ble_eq_true rfl⟩ ⟨Nat.le_of_ble_eq_true rfl, Nat.le_of_ble_eq_true rfl⟩ hl.1 rfl (Nat.le_of_ble_eq_true rfl) dL_crate_5 [] ⟨0, 10, 13, 22⟩ [⟨0, 10, 17, 13⟩] htab (fun z hz => by cases hz) (by decide) (by decide) mk_4_192 (List.mem_of_getElem? (i := 0) rfl) (fun q9 H locs hV => ?_)
    refine lv_astore (lv' := [(4, .ref q9), (0, .ref (eA E 0)), (1, .int p1), (2, .int p2), (3, .ref o)]) hx hb dL_crate_13 hl (by decide) rfl (fun ls hl => ?_)
    refine lv_iconst (v := 1) hx hb dL_crate_15 (by decide) ?_
    exact r_wret cx hr hlk hV dL_crate_16
  rw [hH, hlocs] at goal
  exact goal
set_option maxHeartbeats 4000000 in
set_option maxRecDepth 100000 in
theorem wt_L_crate_3 {l : Launch} (hT : l.stackTraces = false) {E : EV} {X : va_W} {σ σf : St} {o : Nat} {f : Nat → Int64} {p1 p2 : Int32} (h : x_X9_crate p1 p2 σ = some (.inr (3, σf))) : CW l yL_crate cL_crate 5 (some .int) [(0, 10, 13, 22), (0, 10, 17, 13)] rmx_L_crate [.ref (eA E 0), .int p1, .int p2, .ref o] E (wC E σ ++ ((o, .inl (eJ E, 1, .inr (.inl f))) :: X)) (wC E σf ++ ((o, .inl (eJ E, 1, .inr (.inl f))) :: X)) (qI 2) 1 6 := by
  refine CW.start (by decide) (Nat.le_of_ble_eq_true rfl) (fun p e s m a below meth c A ls cx hr hlk htab hV hF hN hl => ?_)
  have cx : CallFix p m c cL_crate 5 s a TBL RL := cx
  have hx := cx.1
  have hb := cx.2.1
  have hl : lv_has ls 5 [(0, .ref (eA E 0)), (1, .int p1), (2, .int p2), (3, .ref o)] := hl
  obtain ⟨H, hH⟩ : ∃ H, H = s.heap := ⟨_, rfl⟩
  obtain ⟨locs, hlocs⟩ : ∃ z, z = ([] : List Loc) := ⟨_, rfl⟩
  have hV : AtW E (wC E σ ++ ((o, .inl (eJ E, 1, .inr (.inl f))) :: X)) A s H locs := by rw [hH, hlocs]; exact hV
  have goal : W p l e rmx_L_crate s m a below meth c H locs 0 0 (EQW E (wC E σf ++ ((o, .inl (eJ E, 1, .inr (.inl f))) :: X)) (qI 2) A s a below 1 6) (F0 m 0 ls []) := by
    refine lv_aload_n hx hb dL_crate_0 rfl (lv_at hl 3 rfl) ?_
    refine lv_iconst (v := 0) hx hb dL_crate_1 (by decide) ?_
    refine lv_aload_n hx hb dL_crate_2 rfl (lv_at hl 0 rfl) ?_
    refine lv_iload_n hx hb dL_crate_3 rfl (lv_at hl 1 rfl) ?_
    refine lv_iload_n hx hb dL_crate_4 rfl (lv_at hl 2 rfl) ?_
    refine r_wcatch (n := 2) (As := [.int p1, .int p2]) (q0 := 0) (ci := 9) (qq := (RX9, TX9, 14)) (Ex := exN 3) (t_X9_crate hT h) wC_fst rfl rfl mk_4_194 mk_4_195 mk_1_1 mk_4_196 (by decide +kernel) rfl ⟨rfl, rfl⟩ cx hV hF mk_4_193 ⟨Nat.le_of_ble_eq_true rfl, Nat.le_of_ble_eq_true rfl⟩ ⟨Nat.le_of_ble_eq_true rfl, Nat.le_of_ble_eq_true rfl⟩ hl.1 rfl (Nat.le_of_ble_eq_true rfl) dL_crate_5 [⟨0, 10, 13, 22⟩] ⟨0, 10, 17, 13⟩ [] htab (fun z hz => by
      simp only [List.mem_cons, List.not_mem_nil, or_false] at hz
      rcases hz with rfl
      · exact Or.inr ⟨(by decide), _, mk_4_192, NC_at hN 2 0 (by decide) (by decide) (by decide)⟩) (by decide) (by decide) mk_3_173 (List.mem_of_getElem? (i := 2) rfl) (fun q9 H locs hV => ?_)
    refine lv_astore (lv' := [(4, .ref q9), (0, .ref (eA E 0)), (1, .int p1), (2, .int p2), (3, .ref o)]) hx hb dL_crate_17 hl (by decide) rfl (fun ls hl => ?_)
    refine lv_iconst (v := 2) hx hb dL_crate_19 (by decide) ?_
    exact r_wret cx hr hlk hV dL_crate_20
  rw [hH, hlocs] at goal
  exact goal
abbrev rm_L_hidden : Room := { frames := 8, cells := 0, slots := 0, locals := 126 }
abbrev rmx_L_hidden : Room := { frames := 8, cells := 1, slots := 6, locals := 126 }
set_option maxHeartbeats 4000000 in
set_option maxRecDepth 100000 in
theorem w_L_hidden {l : Launch} {E : EV} {X : va_W} {σ σf : St} {o : Nat} {f : Nat → Int64} {p1 : Int32} {rv : Int32} (h : x_X9_hidden p1 σ = some (.inl (rv, σf))) : CW l yL_hidden cL_hidden 4 (some .int) [(0, 9, 12, 13)] rm_L_hidden [.ref (eA E 0), .int p1, .ref o] E (wC E σ ++ ((o, .inl (eJ E, 1, .inr (.inl f))) :: X)) (wC E σf ++ (o, .inl (eJ E, 1, .inr (.inl (vp_updL f 0 (Int32.toInt64 rv))))) :: X) (qI 0) 0 0 := by
  refine CW.start (by decide) (Nat.le_of_ble_eq_true rfl) (fun p e s m a below meth c A ls cx hr hlk htab hV hF hN hl => ?_)
  have cx : CallFix p m c cL_hidden 4 s a TBL RL := cx
  have hx := cx.1
  have hb := cx.2.1
  have hl : lv_has ls 4 [(0, .ref (eA E 0)), (1, .int p1), (2, .ref o)] := hl
  obtain ⟨H, hH⟩ : ∃ H, H = s.heap := ⟨_, rfl⟩
  obtain ⟨locs, hlocs⟩ : ∃ z, z = ([] : List Loc) := ⟨_, rfl⟩
  have hV : AtW E (wC E σ ++ ((o, .inl (eJ E, 1, .inr (.inl f))) :: X)) A s H locs := by rw [hH, hlocs]; exact hV
  have goal : W p l e rm_L_hidden s m a below meth c H locs 0 0 (EQW E (wC E σf ++ (o, .inl (eJ E, 1, .inr (.inl (vp_updL f 0 (Int32.toInt64 rv))))) :: X) (qI 0) A s a below 0 0) (F0 m 0 ls []) := by
    refine lv_aload_n hx hb dL_hidden_0 rfl (lv_at hl 2 rfl) ?_
    refine lv_iconst (v := 0) hx hb dL_hidden_1 (by decide) ?_
    refine lv_aload_n hx hb dL_hidden_2 rfl (lv_at hl 0 rfl) ?_
    refine lv_iload_n hx hb dL_hidden_3 rfl (lv_at hl 1 rfl) ?_
    refine k_X9_hidden h cx hV hF mk_5_166 ⟨Nat.le_of_ble_eq_true rfl, Nat.le_of_ble_eq_true rfl⟩ ⟨Nat.zero_le _, Nat.zero_le _⟩ hl.1 (Nat.le_of_ble_eq_true rfl) dL_hidden_4 (fun H locs hV => ?_)
    refine lv_i2l (v := Int32.toInt64 rv) hx hb dL_hidden_7 rfl ?_
    refine r_last (V' := (wC E σf ++ (o, .inl (eJ E, 1, .inr (.inl (vp_updL f 0 (Int32.toInt64 rv))))) :: X)) cx hV 115 rfl (n := 1) (f := f) (by unfold vp_in; decide) rfl dL_hidden_8 (fun H locs hV => ?_)
    refine lv_goto (tgt := 15) hx hb dL_hidden_9 (by decide) ?_
    refine lv_iconst (v := 0) hx hb dL_hidden_15 (by decide) ?_
    exact r_wret cx hr hlk hV dL_hidden_16
  rw [hH, hlocs] at goal
  exact goal
set_option maxHeartbeats 4000000 in
set_option maxRecDepth 100000 in
theorem wt_L_hidden_3 {l : Launch} (hT : l.stackTraces = false) {E : EV} {X : va_W} {σ σf : St} {o : Nat} {f : Nat → Int64} {p1 : Int32} (h : x_X9_hidden p1 σ = some (.inr (3, σf))) : CW l yL_hidden cL_hidden 4 (some .int) [(0, 9, 12, 13)] rmx_L_hidden [.ref (eA E 0), .int p1, .ref o] E (wC E σ ++ ((o, .inl (eJ E, 1, .inr (.inl f))) :: X)) (wC E σf ++ ((o, .inl (eJ E, 1, .inr (.inl f))) :: X)) (qI 1) 1 6 := by
  refine CW.start (by decide) (Nat.le_of_ble_eq_true rfl) (fun p e s m a below meth c A ls cx hr hlk htab hV hF hN hl => ?_)
  have cx : CallFix p m c cL_hidden 4 s a TBL RL := cx
  have hx := cx.1
  have hb := cx.2.1
  have hl : lv_has ls 4 [(0, .ref (eA E 0)), (1, .int p1), (2, .ref o)] := hl
  obtain ⟨H, hH⟩ : ∃ H, H = s.heap := ⟨_, rfl⟩
  obtain ⟨locs, hlocs⟩ : ∃ z, z = ([] : List Loc) := ⟨_, rfl⟩
  have hV : AtW E (wC E σ ++ ((o, .inl (eJ E, 1, .inr (.inl f))) :: X)) A s H locs := by rw [hH, hlocs]; exact hV
  have goal : W p l e rmx_L_hidden s m a below meth c H locs 0 0 (EQW E (wC E σf ++ ((o, .inl (eJ E, 1, .inr (.inl f))) :: X)) (qI 1) A s a below 1 6) (F0 m 0 ls []) := by
    refine lv_aload_n hx hb dL_hidden_0 rfl (lv_at hl 2 rfl) ?_
    refine lv_iconst (v := 0) hx hb dL_hidden_1 (by decide) ?_
    refine lv_aload_n hx hb dL_hidden_2 rfl (lv_at hl 0 rfl) ?_
    refine lv_iload_n hx hb dL_hidden_3 rfl (lv_at hl 1 rfl) ?_
    refine r_wcatch (n := 1) (As := [.int p1]) (q0 := 0) (ci := 9) (qq := (RX9, TX9, 14)) (Ex := exN 3) (t_X9_hidden hT h) wC_fst rfl rfl mk_5_167 mk_5_168 mk_1_1 mk_5_169 (by decide +kernel) rfl ⟨rfl, rfl⟩ cx hV hF mk_5_166 ⟨Nat.le_of_ble_eq_true rfl, Nat.le_of_ble_eq_true rfl⟩ ⟨Nat.le_of_ble_eq_true rfl, Nat.le_of_ble_eq_true rfl⟩ hl.1 rfl (Nat.le_of_ble_eq_true rfl) dL_hidden_4 [] ⟨0, 9, 12, 13⟩ [] htab (fun z hz => by cases hz) (by decide) (by decide) mk_3_173 (List.mem_of_getElem? (i := 2) rfl) (fun q9 H locs hV => ?_)
    refine lv_astore_n (lv' := [(3, .ref q9), (0, .ref (eA E 0)), (1, .int p1), (2, .ref o)]) hx hb dL_hidden_12 rfl hl (by decide) rfl (fun ls hl => ?_)
    refine lv_iconst (v := 1) hx hb dL_hidden_13 (by decide) ?_
    exact r_wret cx hr hlk hV dL_hidden_14
  rw [hH, hlocs] at goal
  exact goal
abbrev rm_L_lay : Room := { frames := 8, cells := 0, slots := 0, locals := 126 }
abbrev rmx_L_lay : Room := { frames := 8, cells := 1, slots := 6, locals := 126 }
set_option maxHeartbeats 4000000 in
set_option maxRecDepth 100000 in
theorem w_L_lay {l : Launch} {E : EV} {X : va_W} {σ σf : St} {o : Nat} {f : Nat → Int64} {p1 p2 : Int32} {rv : Int32} (h : x_X9_lay p1 p2 σ = some (.inl (rv, σf))) : CW l yL_lay cL_lay 5 (some .int) [(0, 10, 13, 22), (0, 10, 17, 30), (0, 10, 21, 41)] rm_L_lay [.ref (eA E 0), .int p1, .int p2, .ref o] E (wC E σ ++ ((o, .inl (eJ E, 1, .inr (.inl f))) :: X)) (wC E σf ++ (o, .inl (eJ E, 1, .inr (.inl (vp_updL f 0 (Int32.toInt64 rv))))) :: X) (qI 0) 0 0 := by
  refine CW.start (by decide) (Nat.le_of_ble_eq_true rfl) (fun p e s m a below meth c A ls cx hr hlk htab hV hF hN hl => ?_)
  have cx : CallFix p m c cL_lay 5 s a TBL RL := cx
  have hx := cx.1
  have hb := cx.2.1
  have hl : lv_has ls 5 [(0, .ref (eA E 0)), (1, .int p1), (2, .int p2), (3, .ref o)] := hl
  obtain ⟨H, hH⟩ : ∃ H, H = s.heap := ⟨_, rfl⟩
  obtain ⟨locs, hlocs⟩ : ∃ z, z = ([] : List Loc) := ⟨_, rfl⟩
  have hV : AtW E (wC E σ ++ ((o, .inl (eJ E, 1, .inr (.inl f))) :: X)) A s H locs := by rw [hH, hlocs]; exact hV
  have goal : W p l e rm_L_lay s m a below meth c H locs 0 0 (EQW E (wC E σf ++ (o, .inl (eJ E, 1, .inr (.inl (vp_updL f 0 (Int32.toInt64 rv))))) :: X) (qI 0) A s a below 0 0) (F0 m 0 ls []) := by
    refine lv_aload_n hx hb dL_lay_0 rfl (lv_at hl 3 rfl) ?_
    refine lv_iconst (v := 0) hx hb dL_lay_1 (by decide) ?_
    refine lv_aload_n hx hb dL_lay_2 rfl (lv_at hl 0 rfl) ?_
    refine lv_iload_n hx hb dL_lay_3 rfl (lv_at hl 1 rfl) ?_
    refine lv_iload_n hx hb dL_lay_4 rfl (lv_at hl 2 rfl) ?_
    refine k_X9_lay h cx hV hF mk_5_50 ⟨Nat.le_of_ble_eq_true rfl, Nat.le_of_ble_eq_true rfl⟩ ⟨Nat.zero_le _, Nat.zero_le _⟩ hl.1 (Nat.le_of_ble_eq_true rfl) dL_lay_5 (fun H locs hV => ?_)
    refine lv_i2l (v := Int32.toInt64 rv) hx hb dL_lay_8 rfl ?_
    refine r_last (V' := (wC E σf ++ (o, .inl (eJ E, 1, .inr (.inl (vp_updL f 0 (Int32.toInt64 rv))))) :: X)) cx hV 115 rfl (n := 1) (f := f) (by unfold vp_in; decide) rfl dL_lay_9 (fun H locs hV => ?_)
    refine lv_goto (tgt := 25) hx hb dL_lay_10 (by decide) ?_
    refine lv_iconst (v := 0) hx hb dL_lay_25 (by decide) ?_
    exact r_wret cx hr hlk hV dL_lay_26
  rw [hH, hlocs] at goal
  exact goal
set_option maxHeartbeats 4000000 in
set_option maxRecDepth 100000 in
theorem wt_L_lay_1 {l : Launch} (hT : l.stackTraces = false) {E : EV} {X : va_W} {σ σf : St} {o : Nat} {f : Nat → Int64} {p1 p2 : Int32} (h : x_X9_lay p1 p2 σ = some (.inr (1, σf))) : CW l yL_lay cL_lay 5 (some .int) [(0, 10, 13, 22), (0, 10, 17, 30), (0, 10, 21, 41)] rmx_L_lay [.ref (eA E 0), .int p1, .int p2, .ref o] E (wC E σ ++ ((o, .inl (eJ E, 1, .inr (.inl f))) :: X)) (wC E σf ++ ((o, .inl (eJ E, 1, .inr (.inl f))) :: X)) (qI 1) 1 6 := by
  refine CW.start (by decide) (Nat.le_of_ble_eq_true rfl) (fun p e s m a below meth c A ls cx hr hlk htab hV hF hN hl => ?_)
  have cx : CallFix p m c cL_lay 5 s a TBL RL := cx
  have hx := cx.1
  have hb := cx.2.1
  have hl : lv_has ls 5 [(0, .ref (eA E 0)), (1, .int p1), (2, .int p2), (3, .ref o)] := hl
  obtain ⟨H, hH⟩ : ∃ H, H = s.heap := ⟨_, rfl⟩
  obtain ⟨locs, hlocs⟩ : ∃ z, z = ([] : List Loc) := ⟨_, rfl⟩
  have hV : AtW E (wC E σ ++ ((o, .inl (eJ E, 1, .inr (.inl f))) :: X)) A s H locs := by rw [hH, hlocs]; exact hV
  have goal : W p l e rmx_L_lay s m a below meth c H locs 0 0 (EQW E (wC E σf ++ ((o, .inl (eJ E, 1, .inr (.inl f))) :: X)) (qI 1) A s a below 1 6) (F0 m 0 ls []) := by
    refine lv_aload_n hx hb dL_lay_0 rfl (lv_at hl 3 rfl) ?_
    refine lv_iconst (v := 0) hx hb dL_lay_1 (by decide) ?_
    refine lv_aload_n hx hb dL_lay_2 rfl (lv_at hl 0 rfl) ?_
    refine lv_iload_n hx hb dL_lay_3 rfl (lv_at hl 1 rfl) ?_
    refine lv_iload_n hx hb dL_lay_4 rfl (lv_at hl 2 rfl) ?_
    refine r_wcatch (n := 2) (As := [.int p1, .int p2]) (q0 := 0) (ci := 9) (qq := (RX9, TX9, 14)) (Ex := exN 1) (t_X9_lay hT h) wC_fst rfl rfl mk_5_51 mk_5_52 mk_1_1 mk_5_53 (by decide +kernel) rfl ⟨rfl, rfl⟩ cx hV hF mk_5_50 ⟨Nat.le_of_ble_eq_true rfl, Nat.le_of_ble_eq_true rfl⟩ ⟨Nat.le_of_ble_eq_true rfl, Nat.le_of_ble_eq_true rfl⟩ hl.1 rfl (Nat.le_of_ble_eq_true rfl) dL_lay_5 [] ⟨0, 10, 13, 22⟩ [⟨0, 10, 17, 30⟩, ⟨0, 10, 21, 41⟩] htab (fun z hz => by cases hz) (by decide) (by decide) mk_4_192 (List.mem_of_getElem? (i := 0) rfl) (fun q9 H locs hV => ?_)
    refine lv_astore (lv' := [(4, .ref q9), (0, .ref (eA E 0)), (1, .int p1), (2, .int p2), (3, .ref o)]) hx hb dL_lay_13 hl (by decide) rfl (fun ls hl => ?_)
    refine lv_iconst (v := 1) hx hb dL_lay_15 (by decide) ?_
    exact r_wret cx hr hlk hV dL_lay_16
  rw [hH, hlocs] at goal
  exact goal
set_option maxHeartbeats 4000000 in
set_option maxRecDepth 100000 in
theorem wt_L_lay_2 {l : Launch} (hT : l.stackTraces = false) {E : EV} {X : va_W} {σ σf : St} {o : Nat} {f : Nat → Int64} {p1 p2 : Int32} (h : x_X9_lay p1 p2 σ = some (.inr (2, σf))) : CW l yL_lay cL_lay 5 (some .int) [(0, 10, 13, 22), (0, 10, 17, 30), (0, 10, 21, 41)] rmx_L_lay [.ref (eA E 0), .int p1, .int p2, .ref o] E (wC E σ ++ ((o, .inl (eJ E, 1, .inr (.inl f))) :: X)) (wC E σf ++ ((o, .inl (eJ E, 1, .inr (.inl f))) :: X)) (qI 2) 1 6 := by
  refine CW.start (by decide) (Nat.le_of_ble_eq_true rfl) (fun p e s m a below meth c A ls cx hr hlk htab hV hF hN hl => ?_)
  have cx : CallFix p m c cL_lay 5 s a TBL RL := cx
  have hx := cx.1
  have hb := cx.2.1
  have hl : lv_has ls 5 [(0, .ref (eA E 0)), (1, .int p1), (2, .int p2), (3, .ref o)] := hl
  obtain ⟨H, hH⟩ : ∃ H, H = s.heap := ⟨_, rfl⟩
  obtain ⟨locs, hlocs⟩ : ∃ z, z = ([] : List Loc) := ⟨_, rfl⟩
  have hV : AtW E (wC E σ ++ ((o, .inl (eJ E, 1, .inr (.inl f))) :: X)) A s H locs := by rw [hH, hlocs]; exact hV
  have goal : W p l e rmx_L_lay s m a below meth c H locs 0 0 (EQW E (wC E σf ++ ((o, .inl (eJ E, 1, .inr (.inl f))) :: X)) (qI 2) A s a below 1 6) (F0 m 0 ls []) := by
    refine lv_aload_n hx hb dL_lay_0 rfl (lv_at hl 3 rfl) ?_
    refine lv_iconst (v := 0) hx hb dL_lay_1 (by decide) ?_
    refine lv_aload_n hx hb dL_lay_2 rfl (lv_at hl 0 rfl) ?_
    refine lv_iload_n hx hb dL_lay_3 rfl (lv_at hl 1 rfl) ?_
    refine lv_iload_n hx hb dL_lay_4 rfl (lv_at hl 2 rfl) ?_
    refine r_wcatch (n := 2) (As := [.int p1, .int p2]) (q0 := 0) (ci := 9) (qq := (RX9, TX9, 14)) (Ex := exN 2) (t_X9_lay hT h) wC_fst rfl rfl mk_5_51 mk_5_52 mk_1_1 mk_5_53 (by decide +kernel) rfl ⟨rfl, rfl⟩ cx hV hF mk_5_50 ⟨Nat.le_of_ble_eq_true rfl, Nat.le_of_ble_eq_true rfl⟩ ⟨Nat.le_of_ble_eq_true rfl, Nat.le_of_ble_eq_true rfl⟩ hl.1 rfl (Nat.le_of_ble_eq_true rfl) dL_lay_5 [⟨0, 10, 13, 22⟩] ⟨0, 10, 17, 30⟩ [⟨0, 10, 21, 41⟩] htab (fun z hz => by
      simp only [List.mem_cons, List.not_mem_nil, or_false] at hz
      rcases hz with rfl
      · exact Or.inr ⟨(by decide), _, mk_4_192, NC_at hN 1 0 (by decide) (by decide) (by decide)⟩) (by decide) (by decide) mk_4_232 (List.mem_of_getElem? (i := 1) rfl) (fun q9 H locs hV => ?_)
    refine lv_astore (lv' := [(4, .ref q9), (0, .ref (eA E 0)), (1, .int p1), (2, .int p2), (3, .ref o)]) hx hb dL_lay_17 hl (by decide) rfl (fun ls hl => ?_)
    refine lv_iconst (v := 2) hx hb dL_lay_19 (by decide) ?_
    exact r_wret cx hr hlk hV dL_lay_20
  rw [hH, hlocs] at goal
  exact goal
set_option maxHeartbeats 4000000 in
set_option maxRecDepth 100000 in
theorem wt_L_lay_4 {l : Launch} (hT : l.stackTraces = false) {E : EV} {X : va_W} {σ σf : St} {o : Nat} {f : Nat → Int64} {p1 p2 : Int32} (h : x_X9_lay p1 p2 σ = some (.inr (4, σf))) : CW l yL_lay cL_lay 5 (some .int) [(0, 10, 13, 22), (0, 10, 17, 30), (0, 10, 21, 41)] rmx_L_lay [.ref (eA E 0), .int p1, .int p2, .ref o] E (wC E σ ++ ((o, .inl (eJ E, 1, .inr (.inl f))) :: X)) (wC E σf ++ ((o, .inl (eJ E, 1, .inr (.inl f))) :: X)) (qI 3) 1 6 := by
  refine CW.start (by decide) (Nat.le_of_ble_eq_true rfl) (fun p e s m a below meth c A ls cx hr hlk htab hV hF hN hl => ?_)
  have cx : CallFix p m c cL_lay 5 s a TBL RL := cx
  have hx := cx.1
  have hb := cx.2.1
  have hl : lv_has ls 5 [(0, .ref (eA E 0)), (1, .int p1), (2, .int p2), (3, .ref o)] := hl
  obtain ⟨H, hH⟩ : ∃ H, H = s.heap := ⟨_, rfl⟩
  obtain ⟨locs, hlocs⟩ : ∃ z, z = ([] : List Loc) := ⟨_, rfl⟩
  have hV : AtW E (wC E σ ++ ((o, .inl (eJ E, 1, .inr (.inl f))) :: X)) A s H locs := by rw [hH, hlocs]; exact hV
  have goal : W p l e rmx_L_lay s m a below meth c H locs 0 0 (EQW E (wC E σf ++ ((o, .inl (eJ E, 1, .inr (.inl f))) :: X)) (qI 3) A s a below 1 6) (F0 m 0 ls []) := by
    refine lv_aload_n hx hb dL_lay_0 rfl (lv_at hl 3 rfl) ?_
    refine lv_iconst (v := 0) hx hb dL_lay_1 (by decide) ?_
    refine lv_aload_n hx hb dL_lay_2 rfl (lv_at hl 0 rfl) ?_
    refine lv_iload_n hx hb dL_lay_3 rfl (lv_at hl 1 rfl) ?_
    refine lv_iload_n hx hb dL_lay_4 rfl (lv_at hl 2 rfl) ?_
    refine r_wcatch (n := 2) (As := [.int p1, .int p2]) (q0 := 0) (ci := 9) (qq := (RX9, TX9, 14)) (Ex := exN 4) (t_X9_lay hT h) wC_fst rfl rfl mk_5_51 mk_5_52 mk_1_1 mk_5_53 (by decide +kernel) rfl ⟨rfl, rfl⟩ cx hV hF mk_5_50 ⟨Nat.le_of_ble_eq_true rfl, Nat.le_of_ble_eq_true rfl⟩ ⟨Nat.le_of_ble_eq_true rfl, Nat.le_of_ble_eq_true rfl⟩ hl.1 rfl (Nat.le_of_ble_eq_true rfl) dL_lay_5 [⟨0, 10, 13, 22⟩, ⟨0, 10, 17, 30⟩] ⟨0, 10, 21, 41⟩ [] htab (fun z hz => by
      simp only [List.mem_cons, List.not_mem_nil, or_false] at hz
      rcases hz with rfl | rfl
      · exact Or.inr ⟨(by decide), _, mk_4_192, NC_at hN 3 0 (by decide) (by decide) (by decide)⟩
      · exact Or.inr ⟨(by decide), _, mk_4_232, NC_at hN 3 1 (by decide) (by decide) (by decide)⟩) (by decide) (by decide) mk_5_49 (List.mem_of_getElem? (i := 3) rfl) (fun q9 H locs hV => ?_)
    refine lv_astore (lv' := [(4, .ref q9), (0, .ref (eA E 0)), (1, .int p1), (2, .int p2), (3, .ref o)]) hx hb dL_lay_21 hl (by decide) rfl (fun ls hl => ?_)
    refine lv_iconst (v := 3) hx hb dL_lay_23 (by decide) ?_
    exact r_wret cx hr hlk hV dL_lay_24
  rw [hH, hlocs] at goal
  exact goal
abbrev rm_L_looker : Room := { frames := 8, cells := 0, slots := 0, locals := 125 }
abbrev rmx_L_looker : Room := { frames := 8, cells := 1, slots := 6, locals := 125 }
set_option maxHeartbeats 4000000 in
set_option maxRecDepth 100000 in
theorem w_L_looker {l : Launch} {E : EV} {X : va_W} {σ σf : St} {o : Nat} {f : Nat → Int64} {p1 p2 : Int32} {rv : Int32} (h : x_X9_looker p1 p2 σ = some (.inl (rv, σf))) : CW l yL_looker cL_looker 5 (some .int) [(0, 10, 13, 30), (0, 10, 17, 13)] rm_L_looker [.ref (eA E 0), .int p1, .int p2, .ref o] E (wC E σ ++ ((o, .inl (eJ E, 1, .inr (.inl f))) :: X)) (wC E σf ++ (o, .inl (eJ E, 1, .inr (.inl (vp_updL f 0 (Int32.toInt64 rv))))) :: X) (qI 0) 0 0 := by
  refine CW.start (by decide) (Nat.le_of_ble_eq_true rfl) (fun p e s m a below meth c A ls cx hr hlk htab hV hF hN hl => ?_)
  have cx : CallFix p m c cL_looker 5 s a TBL RL := cx
  have hx := cx.1
  have hb := cx.2.1
  have hl : lv_has ls 5 [(0, .ref (eA E 0)), (1, .int p1), (2, .int p2), (3, .ref o)] := hl
  obtain ⟨H, hH⟩ : ∃ H, H = s.heap := ⟨_, rfl⟩
  obtain ⟨locs, hlocs⟩ : ∃ z, z = ([] : List Loc) := ⟨_, rfl⟩
  have hV : AtW E (wC E σ ++ ((o, .inl (eJ E, 1, .inr (.inl f))) :: X)) A s H locs := by rw [hH, hlocs]; exact hV
  have goal : W p l e rm_L_looker s m a below meth c H locs 0 0 (EQW E (wC E σf ++ (o, .inl (eJ E, 1, .inr (.inl (vp_updL f 0 (Int32.toInt64 rv))))) :: X) (qI 0) A s a below 0 0) (F0 m 0 ls []) := by
    refine lv_aload_n hx hb dL_looker_0 rfl (lv_at hl 3 rfl) ?_
    refine lv_iconst (v := 0) hx hb dL_looker_1 (by decide) ?_
    refine lv_aload_n hx hb dL_looker_2 rfl (lv_at hl 0 rfl) ?_
    refine lv_iload_n hx hb dL_looker_3 rfl (lv_at hl 1 rfl) ?_
    refine lv_iload_n hx hb dL_looker_4 rfl (lv_at hl 2 rfl) ?_
    refine k_X9_looker h cx hV hF mk_5_26 ⟨Nat.le_of_ble_eq_true rfl, Nat.le_of_ble_eq_true rfl⟩ ⟨Nat.zero_le _, Nat.zero_le _⟩ hl.1 (Nat.le_of_ble_eq_true rfl) dL_looker_5 (fun H locs hV => ?_)
    refine lv_i2l (v := Int32.toInt64 rv) hx hb dL_looker_8 rfl ?_
    refine r_last (V' := (wC E σf ++ (o, .inl (eJ E, 1, .inr (.inl (vp_updL f 0 (Int32.toInt64 rv))))) :: X)) cx hV 115 rfl (n := 1) (f := f) (by unfold vp_in; decide) rfl dL_looker_9 (fun H locs hV => ?_)
    refine lv_goto (tgt := 21) hx hb dL_looker_10 (by decide) ?_
    refine lv_iconst (v := 0) hx hb dL_looker_21 (by decide) ?_
    exact r_wret cx hr hlk hV dL_looker_22
  rw [hH, hlocs] at goal
  exact goal
set_option maxHeartbeats 4000000 in
set_option maxRecDepth 100000 in
theorem wt_L_looker_2 {l : Launch} (hT : l.stackTraces = false) {E : EV} {X : va_W} {σ σf : St} {o : Nat} {f : Nat → Int64} {p1 p2 : Int32} (h : x_X9_looker p1 p2 σ = some (.inr (2, σf))) : CW l yL_looker cL_looker 5 (some .int) [(0, 10, 13, 30), (0, 10, 17, 13)] rmx_L_looker [.ref (eA E 0), .int p1, .int p2, .ref o] E (wC E σ ++ ((o, .inl (eJ E, 1, .inr (.inl f))) :: X)) (wC E σf ++ ((o, .inl (eJ E, 1, .inr (.inl f))) :: X)) (qI 1) 1 6 := by
  refine CW.start (by decide) (Nat.le_of_ble_eq_true rfl) (fun p e s m a below meth c A ls cx hr hlk htab hV hF hN hl => ?_)
  have cx : CallFix p m c cL_looker 5 s a TBL RL := cx
  have hx := cx.1
  have hb := cx.2.1
  have hl : lv_has ls 5 [(0, .ref (eA E 0)), (1, .int p1), (2, .int p2), (3, .ref o)] := hl
  obtain ⟨H, hH⟩ : ∃ H, H = s.heap := ⟨_, rfl⟩
  obtain ⟨locs, hlocs⟩ : ∃ z, z = ([] : List Loc) := ⟨_, rfl⟩
  have hV : AtW E (wC E σ ++ ((o, .inl (eJ E, 1, .inr (.inl f))) :: X)) A s H locs := by rw [hH, hlocs]; exact hV
  have goal : W p l e rmx_L_looker s m a below meth c H locs 0 0 (EQW E (wC E σf ++ ((o, .inl (eJ E, 1, .inr (.inl f))) :: X)) (qI 1) A s a below 1 6) (F0 m 0 ls []) := by
    refine lv_aload_n hx hb dL_looker_0 rfl (lv_at hl 3 rfl) ?_
    refine lv_iconst (v := 0) hx hb dL_looker_1 (by decide) ?_
    refine lv_aload_n hx hb dL_looker_2 rfl (lv_at hl 0 rfl) ?_
    refine lv_iload_n hx hb dL_looker_3 rfl (lv_at hl 1 rfl) ?_
    refine lv_iload_n hx hb dL_looker_4 rfl (lv_at hl 2 rfl) ?_
    refine r_wcatch (n := 2) (As := [.int p1, .int p2]) (q0 := 0) (ci := 9) (qq := (RX9, TX9, 14)) (Ex := exN 2) (t_X9_looker hT h) wC_fst rfl rfl mk_5_27 mk_5_28 mk_1_1 mk_5_29 (by decide +kernel) rfl ⟨rfl, rfl⟩ cx hV hF mk_5_26 ⟨Nat.le_of_ble_eq_true rfl, Nat.le_of_ble_eq_true rfl⟩ ⟨Nat.le_of_ble_eq_true rfl, Nat.le_of_ble_eq_true rfl⟩ hl.1 rfl (Nat.le_of_ble_eq_true rfl) dL_looker_5 [] ⟨0, 10, 13, 30⟩ [⟨0, 10, 17, 13⟩] htab (fun z hz => by cases hz) (by decide) (by decide) mk_4_232 (List.mem_of_getElem? (i := 1) rfl) (fun q9 H locs hV => ?_)
    refine lv_astore (lv' := [(4, .ref q9), (0, .ref (eA E 0)), (1, .int p1), (2, .int p2), (3, .ref o)]) hx hb dL_looker_13 hl (by decide) rfl (fun ls hl => ?_)
    refine lv_iconst (v := 1) hx hb dL_looker_15 (by decide) ?_
    exact r_wret cx hr hlk hV dL_looker_16
  rw [hH, hlocs] at goal
  exact goal
set_option maxHeartbeats 4000000 in
set_option maxRecDepth 100000 in
theorem wt_L_looker_3 {l : Launch} (hT : l.stackTraces = false) {E : EV} {X : va_W} {σ σf : St} {o : Nat} {f : Nat → Int64} {p1 p2 : Int32} (h : x_X9_looker p1 p2 σ = some (.inr (3, σf))) : CW l yL_looker cL_looker 5 (some .int) [(0, 10, 13, 30), (0, 10, 17, 13)] rmx_L_looker [.ref (eA E 0), .int p1, .int p2, .ref o] E (wC E σ ++ ((o, .inl (eJ E, 1, .inr (.inl f))) :: X)) (wC E σf ++ ((o, .inl (eJ E, 1, .inr (.inl f))) :: X)) (qI 2) 1 6 := by
  refine CW.start (by decide) (Nat.le_of_ble_eq_true rfl) (fun p e s m a below meth c A ls cx hr hlk htab hV hF hN hl => ?_)
  have cx : CallFix p m c cL_looker 5 s a TBL RL := cx
  have hx := cx.1
  have hb := cx.2.1
  have hl : lv_has ls 5 [(0, .ref (eA E 0)), (1, .int p1), (2, .int p2), (3, .ref o)] := hl
  obtain ⟨H, hH⟩ : ∃ H, H = s.heap := ⟨_, rfl⟩
  obtain ⟨locs, hlocs⟩ : ∃ z, z = ([] : List Loc) := ⟨_, rfl⟩
  have hV : AtW E (wC E σ ++ ((o, .inl (eJ E, 1, .inr (.inl f))) :: X)) A s H locs := by rw [hH, hlocs]; exact hV
  have goal : W p l e rmx_L_looker s m a below meth c H locs 0 0 (EQW E (wC E σf ++ ((o, .inl (eJ E, 1, .inr (.inl f))) :: X)) (qI 2) A s a below 1 6) (F0 m 0 ls []) := by
    refine lv_aload_n hx hb dL_looker_0 rfl (lv_at hl 3 rfl) ?_
    refine lv_iconst (v := 0) hx hb dL_looker_1 (by decide) ?_
    refine lv_aload_n hx hb dL_looker_2 rfl (lv_at hl 0 rfl) ?_
    refine lv_iload_n hx hb dL_looker_3 rfl (lv_at hl 1 rfl) ?_
    refine lv_iload_n hx hb dL_looker_4 rfl (lv_at hl 2 rfl) ?_
    refine r_wcatch (n := 2) (As := [.int p1, .int p2]) (q0 := 0) (ci := 9) (qq := (RX9, TX9, 14)) (Ex := exN 3) (t_X9_looker hT h) wC_fst rfl rfl mk_5_27 mk_5_28 mk_1_1 mk_5_29 (by decide +kernel) rfl ⟨rfl, rfl⟩ cx hV hF mk_5_26 ⟨Nat.le_of_ble_eq_true rfl, Nat.le_of_ble_eq_true rfl⟩ ⟨Nat.le_of_ble_eq_true rfl, Nat.le_of_ble_eq_true rfl⟩ hl.1 rfl (Nat.le_of_ble_eq_true rfl) dL_looker_5 [⟨0, 10, 13, 30⟩] ⟨0, 10, 17, 13⟩ [] htab (fun z hz => by
      simp only [List.mem_cons, List.not_mem_nil, or_false] at hz
      rcases hz with rfl
      · exact Or.inr ⟨(by decide), _, mk_4_232, NC_at hN 2 1 (by decide) (by decide) (by decide)⟩) (by decide) (by decide) mk_3_173 (List.mem_of_getElem? (i := 2) rfl) (fun q9 H locs hV => ?_)
    refine lv_astore (lv' := [(4, .ref q9), (0, .ref (eA E 0)), (1, .int p1), (2, .int p2), (3, .ref o)]) hx hb dL_looker_17 hl (by decide) rfl (fun ls hl => ?_)
    refine lv_iconst (v := 2) hx hb dL_looker_19 (by decide) ?_
    exact r_wret cx hr hlk hV dL_looker_20
  rw [hH, hlocs] at goal
  exact goal
abbrev rm_L_mean : Room := { frames := 9, cells := 0, slots := 0, locals := 165 }
abbrev rmx_L_mean : Room := { frames := 9, cells := 1, slots := 6, locals := 165 }
set_option maxHeartbeats 4000000 in
set_option maxRecDepth 100000 in
theorem w_L_mean {l : Launch} {E : EV} {X : va_W} {σ σf : St} {o : Nat} {f : Nat → Int64} {p1 p2 p3 p4 : Int32} {rv : Int64} (h : x_X9_mean p1 p2 p3 p4 σ = some (.inl (rv, σf))) : CW l yL_mean cL_mean 7 (some .int) [(0, 13, 16, 30), (0, 13, 20, 13), (0, 13, 24, 41)] rm_L_mean [.ref (eA E 0), .int p1, .int p2, .int p3, .int p4, .ref o] E (wC E σ ++ ((o, .inl (eJ E, 1, .inr (.inl f))) :: X)) (wC E σf ++ (o, .inl (eJ E, 1, .inr (.inl (vp_updL f 0 rv)))) :: X) (qI 0) 0 0 := by
  refine CW.start (by decide) (Nat.le_of_ble_eq_true rfl) (fun p e s m a below meth c A ls cx hr hlk htab hV hF hN hl => ?_)
  have cx : CallFix p m c cL_mean 7 s a TBL RL := cx
  have hx := cx.1
  have hb := cx.2.1
  have hl : lv_has ls 7 [(0, .ref (eA E 0)), (1, .int p1), (2, .int p2), (3, .int p3), (4, .int p4), (5, .ref o)] := hl
  obtain ⟨H, hH⟩ : ∃ H, H = s.heap := ⟨_, rfl⟩
  obtain ⟨locs, hlocs⟩ : ∃ z, z = ([] : List Loc) := ⟨_, rfl⟩
  have hV : AtW E (wC E σ ++ ((o, .inl (eJ E, 1, .inr (.inl f))) :: X)) A s H locs := by rw [hH, hlocs]; exact hV
  have goal : W p l e rm_L_mean s m a below meth c H locs 0 0 (EQW E (wC E σf ++ (o, .inl (eJ E, 1, .inr (.inl (vp_updL f 0 rv)))) :: X) (qI 0) A s a below 0 0) (F0 m 0 ls []) := by
    refine lv_aload hx hb dL_mean_0 (lv_at hl 5 rfl) ?_
    refine lv_iconst (v := 0) hx hb dL_mean_2 (by decide) ?_
    refine lv_aload_n hx hb dL_mean_3 rfl (lv_at hl 0 rfl) ?_
    refine lv_iload_n hx hb dL_mean_4 rfl (lv_at hl 1 rfl) ?_
    refine lv_iload_n hx hb dL_mean_5 rfl (lv_at hl 2 rfl) ?_
    refine lv_iload_n hx hb dL_mean_6 rfl (lv_at hl 3 rfl) ?_
    refine lv_iload hx hb dL_mean_7 (lv_at hl 4 rfl) ?_
    refine k_X9_mean h cx hV hF mk_5_213 ⟨Nat.le_of_ble_eq_true rfl, Nat.le_of_ble_eq_true rfl⟩ ⟨Nat.zero_le _, Nat.zero_le _⟩ hl.1 (Nat.le_of_ble_eq_true rfl) dL_mean_9 (fun H locs hV => ?_)
    refine r_last (V' := (wC E σf ++ (o, .inl (eJ E, 1, .inr (.inl (vp_updL f 0 rv)))) :: X)) cx hV 115 rfl (n := 1) (f := f) (by unfold vp_in; decide) rfl dL_mean_12 (fun H locs hV => ?_)
    refine lv_goto (tgt := 28) hx hb dL_mean_13 (by decide) ?_
    refine lv_iconst (v := 0) hx hb dL_mean_28 (by decide) ?_
    exact r_wret cx hr hlk hV dL_mean_29
  rw [hH, hlocs] at goal
  exact goal
set_option maxHeartbeats 4000000 in
set_option maxRecDepth 100000 in
theorem wt_L_mean_2 {l : Launch} (hT : l.stackTraces = false) {E : EV} {X : va_W} {σ σf : St} {o : Nat} {f : Nat → Int64} {p1 p2 p3 p4 : Int32} (h : x_X9_mean p1 p2 p3 p4 σ = some (.inr (2, σf))) : CW l yL_mean cL_mean 7 (some .int) [(0, 13, 16, 30), (0, 13, 20, 13), (0, 13, 24, 41)] rmx_L_mean [.ref (eA E 0), .int p1, .int p2, .int p3, .int p4, .ref o] E (wC E σ ++ ((o, .inl (eJ E, 1, .inr (.inl f))) :: X)) (wC E σf ++ ((o, .inl (eJ E, 1, .inr (.inl f))) :: X)) (qI 1) 1 6 := by
  refine CW.start (by decide) (Nat.le_of_ble_eq_true rfl) (fun p e s m a below meth c A ls cx hr hlk htab hV hF hN hl => ?_)
  have cx : CallFix p m c cL_mean 7 s a TBL RL := cx
  have hx := cx.1
  have hb := cx.2.1
  have hl : lv_has ls 7 [(0, .ref (eA E 0)), (1, .int p1), (2, .int p2), (3, .int p3), (4, .int p4), (5, .ref o)] := hl
  obtain ⟨H, hH⟩ : ∃ H, H = s.heap := ⟨_, rfl⟩
  obtain ⟨locs, hlocs⟩ : ∃ z, z = ([] : List Loc) := ⟨_, rfl⟩
  have hV : AtW E (wC E σ ++ ((o, .inl (eJ E, 1, .inr (.inl f))) :: X)) A s H locs := by rw [hH, hlocs]; exact hV
  have goal : W p l e rmx_L_mean s m a below meth c H locs 0 0 (EQW E (wC E σf ++ ((o, .inl (eJ E, 1, .inr (.inl f))) :: X)) (qI 1) A s a below 1 6) (F0 m 0 ls []) := by
    refine lv_aload hx hb dL_mean_0 (lv_at hl 5 rfl) ?_
    refine lv_iconst (v := 0) hx hb dL_mean_2 (by decide) ?_
    refine lv_aload_n hx hb dL_mean_3 rfl (lv_at hl 0 rfl) ?_
    refine lv_iload_n hx hb dL_mean_4 rfl (lv_at hl 1 rfl) ?_
    refine lv_iload_n hx hb dL_mean_5 rfl (lv_at hl 2 rfl) ?_
    refine lv_iload_n hx hb dL_mean_6 rfl (lv_at hl 3 rfl) ?_
    refine lv_iload hx hb dL_mean_7 (lv_at hl 4 rfl) ?_
    refine r_wcatch (n := 4) (As := [.int p1, .int p2, .int p3, .int p4]) (q0 := 0) (ci := 9) (qq := (RX9, TX9, 14)) (Ex := exN 2) (t_X9_mean hT h) wC_fst rfl rfl mk_5_214 mk_5_215 mk_1_1 mk_5_216 (by decide +kernel) rfl ⟨rfl, rfl⟩ cx hV hF mk_5_213 ⟨Nat.le_of_ble_eq_true rfl, Nat.le_of_ble_eq_true rfl⟩ ⟨Nat.le_of_ble_eq_true rfl, Nat.le_of_ble_eq_true rfl⟩ hl.1 rfl (Nat.le_of_ble_eq_true rfl) dL_mean_9 [] ⟨0, 13, 16, 30⟩ [⟨0, 13, 20, 13⟩, ⟨0, 13, 24, 41⟩] htab (fun z hz => by cases hz) (by decide) (by decide) mk_4_232 (List.mem_of_getElem? (i := 1) rfl) (fun q9 H locs hV => ?_)
    refine lv_astore (lv' := [(6, .ref q9), (0, .ref (eA E 0)), (1, .int p1), (2, .int p2), (3, .int p3), (4, .int p4), (5, .ref o)]) hx hb dL_mean_16 hl (by decide) rfl (fun ls hl => ?_)
    refine lv_iconst (v := 1) hx hb dL_mean_18 (by decide) ?_
    exact r_wret cx hr hlk hV dL_mean_19
  rw [hH, hlocs] at goal
  exact goal
set_option maxHeartbeats 4000000 in
set_option maxRecDepth 100000 in
theorem wt_L_mean_3 {l : Launch} (hT : l.stackTraces = false) {E : EV} {X : va_W} {σ σf : St} {o : Nat} {f : Nat → Int64} {p1 p2 p3 p4 : Int32} (h : x_X9_mean p1 p2 p3 p4 σ = some (.inr (3, σf))) : CW l yL_mean cL_mean 7 (some .int) [(0, 13, 16, 30), (0, 13, 20, 13), (0, 13, 24, 41)] rmx_L_mean [.ref (eA E 0), .int p1, .int p2, .int p3, .int p4, .ref o] E (wC E σ ++ ((o, .inl (eJ E, 1, .inr (.inl f))) :: X)) (wC E σf ++ ((o, .inl (eJ E, 1, .inr (.inl f))) :: X)) (qI 2) 1 6 := by
  refine CW.start (by decide) (Nat.le_of_ble_eq_true rfl) (fun p e s m a below meth c A ls cx hr hlk htab hV hF hN hl => ?_)
  have cx : CallFix p m c cL_mean 7 s a TBL RL := cx
  have hx := cx.1
  have hb := cx.2.1
  have hl : lv_has ls 7 [(0, .ref (eA E 0)), (1, .int p1), (2, .int p2), (3, .int p3), (4, .int p4), (5, .ref o)] := hl
  obtain ⟨H, hH⟩ : ∃ H, H = s.heap := ⟨_, rfl⟩
  obtain ⟨locs, hlocs⟩ : ∃ z, z = ([] : List Loc) := ⟨_, rfl⟩
  have hV : AtW E (wC E σ ++ ((o, .inl (eJ E, 1, .inr (.inl f))) :: X)) A s H locs := by rw [hH, hlocs]; exact hV
  have goal : W p l e rmx_L_mean s m a below meth c H locs 0 0 (EQW E (wC E σf ++ ((o, .inl (eJ E, 1, .inr (.inl f))) :: X)) (qI 2) A s a below 1 6) (F0 m 0 ls []) := by
    refine lv_aload hx hb dL_mean_0 (lv_at hl 5 rfl) ?_
    refine lv_iconst (v := 0) hx hb dL_mean_2 (by decide) ?_
    refine lv_aload_n hx hb dL_mean_3 rfl (lv_at hl 0 rfl) ?_
    refine lv_iload_n hx hb dL_mean_4 rfl (lv_at hl 1 rfl) ?_
    refine lv_iload_n hx hb dL_mean_5 rfl (lv_at hl 2 rfl) ?_
    refine lv_iload_n hx hb dL_mean_6 rfl (lv_at hl 3 rfl) ?_
    refine lv_iload hx hb dL_mean_7 (lv_at hl 4 rfl) ?_
    refine r_wcatch (n := 4) (As := [.int p1, .int p2, .int p3, .int p4]) (q0 := 0) (ci := 9) (qq := (RX9, TX9, 14)) (Ex := exN 3) (t_X9_mean hT h) wC_fst rfl rfl mk_5_214 mk_5_215 mk_1_1 mk_5_216 (by decide +kernel) rfl ⟨rfl, rfl⟩ cx hV hF mk_5_213 ⟨Nat.le_of_ble_eq_true rfl, Nat.le_of_ble_eq_true rfl⟩ ⟨Nat.le_of_ble_eq_true rfl, Nat.le_of_ble_eq_true rfl⟩ hl.1 rfl (Nat.le_of_ble_eq_true rfl) dL_mean_9 [⟨0, 13, 16, 30⟩] ⟨0, 13, 20, 13⟩ [⟨0, 13, 24, 41⟩] htab (fun z hz => by
      simp only [List.mem_cons, List.not_mem_nil, or_false] at hz
      rcases hz with rfl
      · exact Or.inr ⟨(by decide), _, mk_4_232, NC_at hN 2 1 (by decide) (by decide) (by decide)⟩) (by decide) (by decide) mk_3_173 (List.mem_of_getElem? (i := 2) rfl) (fun q9 H locs hV => ?_)
    refine lv_astore (lv' := [(6, .ref q9), (0, .ref (eA E 0)), (1, .int p1), (2, .int p2), (3, .int p3), (4, .int p4), (5, .ref o)]) hx hb dL_mean_20 hl (by decide) rfl (fun ls hl => ?_)
    refine lv_iconst (v := 2) hx hb dL_mean_22 (by decide) ?_
    exact r_wret cx hr hlk hV dL_mean_23
  rw [hH, hlocs] at goal
  exact goal
set_option maxHeartbeats 4000000 in
set_option maxRecDepth 100000 in
theorem wt_L_mean_4 {l : Launch} (hT : l.stackTraces = false) {E : EV} {X : va_W} {σ σf : St} {o : Nat} {f : Nat → Int64} {p1 p2 p3 p4 : Int32} (h : x_X9_mean p1 p2 p3 p4 σ = some (.inr (4, σf))) : CW l yL_mean cL_mean 7 (some .int) [(0, 13, 16, 30), (0, 13, 20, 13), (0, 13, 24, 41)] rmx_L_mean [.ref (eA E 0), .int p1, .int p2, .int p3, .int p4, .ref o] E (wC E σ ++ ((o, .inl (eJ E, 1, .inr (.inl f))) :: X)) (wC E σf ++ ((o, .inl (eJ E, 1, .inr (.inl f))) :: X)) (qI 3) 1 6 := by
  refine CW.start (by decide) (Nat.le_of_ble_eq_true rfl) (fun p e s m a below meth c A ls cx hr hlk htab hV hF hN hl => ?_)
  have cx : CallFix p m c cL_mean 7 s a TBL RL := cx
  have hx := cx.1
  have hb := cx.2.1
  have hl : lv_has ls 7 [(0, .ref (eA E 0)), (1, .int p1), (2, .int p2), (3, .int p3), (4, .int p4), (5, .ref o)] := hl
  obtain ⟨H, hH⟩ : ∃ H, H = s.heap := ⟨_, rfl⟩
  obtain ⟨locs, hlocs⟩ : ∃ z, z = ([] : List Loc) := ⟨_, rfl⟩
  have hV : AtW E (wC E σ ++ ((o, .inl (eJ E, 1, .inr (.inl f))) :: X)) A s H locs := by rw [hH, hlocs]; exact hV
  have goal : W p l e rmx_L_mean s m a below meth c H locs 0 0 (EQW E (wC E σf ++ ((o, .inl (eJ E, 1, .inr (.inl f))) :: X)) (qI 3) A s a below 1 6) (F0 m 0 ls []) := by
    refine lv_aload hx hb dL_mean_0 (lv_at hl 5 rfl) ?_
    refine lv_iconst (v := 0) hx hb dL_mean_2 (by decide) ?_
    refine lv_aload_n hx hb dL_mean_3 rfl (lv_at hl 0 rfl) ?_
    refine lv_iload_n hx hb dL_mean_4 rfl (lv_at hl 1 rfl) ?_
    refine lv_iload_n hx hb dL_mean_5 rfl (lv_at hl 2 rfl) ?_
    refine lv_iload_n hx hb dL_mean_6 rfl (lv_at hl 3 rfl) ?_
    refine lv_iload hx hb dL_mean_7 (lv_at hl 4 rfl) ?_
    refine r_wcatch (n := 4) (As := [.int p1, .int p2, .int p3, .int p4]) (q0 := 0) (ci := 9) (qq := (RX9, TX9, 14)) (Ex := exN 4) (t_X9_mean hT h) wC_fst rfl rfl mk_5_214 mk_5_215 mk_1_1 mk_5_216 (by decide +kernel) rfl ⟨rfl, rfl⟩ cx hV hF mk_5_213 ⟨Nat.le_of_ble_eq_true rfl, Nat.le_of_ble_eq_true rfl⟩ ⟨Nat.le_of_ble_eq_true rfl, Nat.le_of_ble_eq_true rfl⟩ hl.1 rfl (Nat.le_of_ble_eq_true rfl) dL_mean_9 [⟨0, 13, 16, 30⟩, ⟨0, 13, 20, 13⟩] ⟨0, 13, 24, 41⟩ [] htab (fun z hz => by
      simp only [List.mem_cons, List.not_mem_nil, or_false] at hz
      rcases hz with rfl | rfl
      · exact Or.inr ⟨(by decide), _, mk_4_232, NC_at hN 3 1 (by decide) (by decide) (by decide)⟩
      · exact Or.inr ⟨(by decide), _, mk_3_173, NC_at hN 3 2 (by decide) (by decide) (by decide)⟩) (by decide) (by decide) mk_5_49 (List.mem_of_getElem? (i := 3) rfl) (fun q9 H locs hV => ?_)
    refine lv_astore (lv' := [(6, .ref q9), (0, .ref (eA E 0)), (1, .int p1), (2, .int p2), (3, .int p3), (4, .int p4), (5, .ref o)]) hx hb dL_mean_24 hl (by decide) rfl (fun ls hl => ?_)
    refine lv_iconst (v := 3) hx hb dL_mean_26 (by decide) ?_
    exact r_wret cx hr hlk hV dL_mean_27
  rw [hH, hlocs] at goal
  exact goal
abbrev rm_L_missed : Room := { frames := 8, cells := 0, slots := 0, locals := 124 }
abbrev rmx_L_missed : Room := { frames := 8, cells := 1, slots := 6, locals := 124 }
set_option maxHeartbeats 4000000 in
set_option maxRecDepth 100000 in
theorem w_L_missed {l : Launch} {E : EV} {X : va_W} {σ σf : St} {o : Nat} {f : Nat → Int64} {p1 : Int32} {rv : Int32} (h : x_X9_missed p1 σ = some (.inl (rv, σf))) : CW l yL_missed cL_missed 4 (some .int) [(0, 9, 12, 13)] rm_L_missed [.ref (eA E 0), .int p1, .ref o] E (wC E σ ++ ((o, .inl (eJ E, 1, .inr (.inl f))) :: X)) (wC E σf ++ (o, .inl (eJ E, 1, .inr (.inl (vp_updL f 0 (Int32.toInt64 rv))))) :: X) (qI 0) 0 0 := by
  refine CW.start (by decide) (Nat.le_of_ble_eq_true rfl) (fun p e s m a below meth c A ls cx hr hlk htab hV hF hN hl => ?_)
  have cx : CallFix p m c cL_missed 4 s a TBL RL := cx
  have hx := cx.1
  have hb := cx.2.1
  have hl : lv_has ls 4 [(0, .ref (eA E 0)), (1, .int p1), (2, .ref o)] := hl
  obtain ⟨H, hH⟩ : ∃ H, H = s.heap := ⟨_, rfl⟩
  obtain ⟨locs, hlocs⟩ : ∃ z, z = ([] : List Loc) := ⟨_, rfl⟩
  have hV : AtW E (wC E σ ++ ((o, .inl (eJ E, 1, .inr (.inl f))) :: X)) A s H locs := by rw [hH, hlocs]; exact hV
  have goal : W p l e rm_L_missed s m a below meth c H locs 0 0 (EQW E (wC E σf ++ (o, .inl (eJ E, 1, .inr (.inl (vp_updL f 0 (Int32.toInt64 rv))))) :: X) (qI 0) A s a below 0 0) (F0 m 0 ls []) := by
    refine lv_aload_n hx hb dL_missed_0 rfl (lv_at hl 2 rfl) ?_
    refine lv_iconst (v := 0) hx hb dL_missed_1 (by decide) ?_
    refine lv_aload_n hx hb dL_missed_2 rfl (lv_at hl 0 rfl) ?_
    refine lv_iload_n hx hb dL_missed_3 rfl (lv_at hl 1 rfl) ?_
    refine k_X9_missed h cx hV hF mk_5_39 ⟨Nat.le_of_ble_eq_true rfl, Nat.le_of_ble_eq_true rfl⟩ ⟨Nat.zero_le _, Nat.zero_le _⟩ hl.1 (Nat.le_of_ble_eq_true rfl) dL_missed_4 (fun H locs hV => ?_)
    refine lv_i2l (v := Int32.toInt64 rv) hx hb dL_missed_7 rfl ?_
    refine r_last (V' := (wC E σf ++ (o, .inl (eJ E, 1, .inr (.inl (vp_updL f 0 (Int32.toInt64 rv))))) :: X)) cx hV 115 rfl (n := 1) (f := f) (by unfold vp_in; decide) rfl dL_missed_8 (fun H locs hV => ?_)
    refine lv_goto (tgt := 15) hx hb dL_missed_9 (by decide) ?_
    refine lv_iconst (v := 0) hx hb dL_missed_15 (by decide) ?_
    exact r_wret cx hr hlk hV dL_missed_16
  rw [hH, hlocs] at goal
  exact goal
set_option maxHeartbeats 4000000 in
set_option maxRecDepth 100000 in
theorem wt_L_missed_3 {l : Launch} (hT : l.stackTraces = false) {E : EV} {X : va_W} {σ σf : St} {o : Nat} {f : Nat → Int64} {p1 : Int32} (h : x_X9_missed p1 σ = some (.inr (3, σf))) : CW l yL_missed cL_missed 4 (some .int) [(0, 9, 12, 13)] rmx_L_missed [.ref (eA E 0), .int p1, .ref o] E (wC E σ ++ ((o, .inl (eJ E, 1, .inr (.inl f))) :: X)) (wC E σf ++ ((o, .inl (eJ E, 1, .inr (.inl f))) :: X)) (qI 1) 1 6 := by
  refine CW.start (by decide) (Nat.le_of_ble_eq_true rfl) (fun p e s m a below meth c A ls cx hr hlk htab hV hF hN hl => ?_)
  have cx : CallFix p m c cL_missed 4 s a TBL RL := cx
  have hx := cx.1
  have hb := cx.2.1
  have hl : lv_has ls 4 [(0, .ref (eA E 0)), (1, .int p1), (2, .ref o)] := hl
  obtain ⟨H, hH⟩ : ∃ H, H = s.heap := ⟨_, rfl⟩
  obtain ⟨locs, hlocs⟩ : ∃ z, z = ([] : List Loc) := ⟨_, rfl⟩
  have hV : AtW E (wC E σ ++ ((o, .inl (eJ E, 1, .inr (.inl f))) :: X)) A s H locs := by rw [hH, hlocs]; exact hV
  have goal : W p l e rmx_L_missed s m a below meth c H locs 0 0 (EQW E (wC E σf ++ ((o, .inl (eJ E, 1, .inr (.inl f))) :: X)) (qI 1) A s a below 1 6) (F0 m 0 ls []) := by
    refine lv_aload_n hx hb dL_missed_0 rfl (lv_at hl 2 rfl) ?_
    refine lv_iconst (v := 0) hx hb dL_missed_1 (by decide) ?_
    refine lv_aload_n hx hb dL_missed_2 rfl (lv_at hl 0 rfl) ?_
    refine lv_iload_n hx hb dL_missed_3 rfl (lv_at hl 1 rfl) ?_
    refine r_wcatch (n := 1) (As := [.int p1]) (q0 := 0) (ci := 9) (qq := (RX9, TX9, 14)) (Ex := exN 3) (t_X9_missed hT h) wC_fst rfl rfl mk_5_40 mk_5_41 mk_1_1 mk_5_42 (by decide +kernel) rfl ⟨rfl, rfl⟩ cx hV hF mk_5_39 ⟨Nat.le_of_ble_eq_true rfl, Nat.le_of_ble_eq_true rfl⟩ ⟨Nat.le_of_ble_eq_true rfl, Nat.le_of_ble_eq_true rfl⟩ hl.1 rfl (Nat.le_of_ble_eq_true rfl) dL_missed_4 [] ⟨0, 9, 12, 13⟩ [] htab (fun z hz => by cases hz) (by decide) (by decide) mk_3_173 (List.mem_of_getElem? (i := 2) rfl) (fun q9 H locs hV => ?_)
    refine lv_astore_n (lv' := [(3, .ref q9), (0, .ref (eA E 0)), (1, .int p1), (2, .ref o)]) hx hb dL_missed_12 rfl hl (by decide) rfl (fun ls hl => ?_)
    refine lv_iconst (v := 1) hx hb dL_missed_13 (by decide) ?_
    exact r_wret cx hr hlk hV dL_missed_14
  rw [hH, hlocs] at goal
  exact goal
abbrev rm_L_moves : Room := { frames := 8, cells := 0, slots := 0, locals := 126 }
abbrev rmx_L_moves : Room := { frames := 8, cells := 1, slots := 6, locals := 126 }
set_option maxHeartbeats 4000000 in
set_option maxRecDepth 100000 in
theorem w_L_moves {l : Launch} {E : EV} {X : va_W} {σ σf : St} {o : Nat} {f : Nat → Int64} {p1 : Int32} {rv : Int32} (h : x_X9_moves p1 σ = some (.inl (rv, σf))) : CW l yL_moves cL_moves 4 (some .int) [(0, 9, 12, 13)] rm_L_moves [.ref (eA E 0), .int p1, .ref o] E (wC E σ ++ ((o, .inl (eJ E, 1, .inr (.inl f))) :: X)) (wC E σf ++ (o, .inl (eJ E, 1, .inr (.inl (vp_updL f 0 (Int32.toInt64 rv))))) :: X) (qI 0) 0 0 := by
  refine CW.start (by decide) (Nat.le_of_ble_eq_true rfl) (fun p e s m a below meth c A ls cx hr hlk htab hV hF hN hl => ?_)
  have cx : CallFix p m c cL_moves 4 s a TBL RL := cx
  have hx := cx.1
  have hb := cx.2.1
  have hl : lv_has ls 4 [(0, .ref (eA E 0)), (1, .int p1), (2, .ref o)] := hl
  obtain ⟨H, hH⟩ : ∃ H, H = s.heap := ⟨_, rfl⟩
  obtain ⟨locs, hlocs⟩ : ∃ z, z = ([] : List Loc) := ⟨_, rfl⟩
  have hV : AtW E (wC E σ ++ ((o, .inl (eJ E, 1, .inr (.inl f))) :: X)) A s H locs := by rw [hH, hlocs]; exact hV
  have goal : W p l e rm_L_moves s m a below meth c H locs 0 0 (EQW E (wC E σf ++ (o, .inl (eJ E, 1, .inr (.inl (vp_updL f 0 (Int32.toInt64 rv))))) :: X) (qI 0) A s a below 0 0) (F0 m 0 ls []) := by
    refine lv_aload_n hx hb dL_moves_0 rfl (lv_at hl 2 rfl) ?_
    refine lv_iconst (v := 0) hx hb dL_moves_1 (by decide) ?_
    refine lv_aload_n hx hb dL_moves_2 rfl (lv_at hl 0 rfl) ?_
    refine lv_iload_n hx hb dL_moves_3 rfl (lv_at hl 1 rfl) ?_
    refine k_X9_moves h cx hV hF mk_6_23 ⟨Nat.le_of_ble_eq_true rfl, Nat.le_of_ble_eq_true rfl⟩ ⟨Nat.zero_le _, Nat.zero_le _⟩ hl.1 (Nat.le_of_ble_eq_true rfl) dL_moves_4 (fun H locs hV => ?_)
    refine lv_i2l (v := Int32.toInt64 rv) hx hb dL_moves_7 rfl ?_
    refine r_last (V' := (wC E σf ++ (o, .inl (eJ E, 1, .inr (.inl (vp_updL f 0 (Int32.toInt64 rv))))) :: X)) cx hV 115 rfl (n := 1) (f := f) (by unfold vp_in; decide) rfl dL_moves_8 (fun H locs hV => ?_)
    refine lv_goto (tgt := 15) hx hb dL_moves_9 (by decide) ?_
    refine lv_iconst (v := 0) hx hb dL_moves_15 (by decide) ?_
    exact r_wret cx hr hlk hV dL_moves_16
  rw [hH, hlocs] at goal
  exact goal
set_option maxHeartbeats 4000000 in
set_option maxRecDepth 100000 in
theorem wt_L_moves_3 {l : Launch} (hT : l.stackTraces = false) {E : EV} {X : va_W} {σ σf : St} {o : Nat} {f : Nat → Int64} {p1 : Int32} (h : x_X9_moves p1 σ = some (.inr (3, σf))) : CW l yL_moves cL_moves 4 (some .int) [(0, 9, 12, 13)] rmx_L_moves [.ref (eA E 0), .int p1, .ref o] E (wC E σ ++ ((o, .inl (eJ E, 1, .inr (.inl f))) :: X)) (wC E σf ++ ((o, .inl (eJ E, 1, .inr (.inl f))) :: X)) (qI 1) 1 6 := by
  refine CW.start (by decide) (Nat.le_of_ble_eq_true rfl) (fun p e s m a below meth c A ls cx hr hlk htab hV hF hN hl => ?_)
  have cx : CallFix p m c cL_moves 4 s a TBL RL := cx
  have hx := cx.1
  have hb := cx.2.1
  have hl : lv_has ls 4 [(0, .ref (eA E 0)), (1, .int p1), (2, .ref o)] := hl
  obtain ⟨H, hH⟩ : ∃ H, H = s.heap := ⟨_, rfl⟩
  obtain ⟨locs, hlocs⟩ : ∃ z, z = ([] : List Loc) := ⟨_, rfl⟩
  have hV : AtW E (wC E σ ++ ((o, .inl (eJ E, 1, .inr (.inl f))) :: X)) A s H locs := by rw [hH, hlocs]; exact hV
  have goal : W p l e rmx_L_moves s m a below meth c H locs 0 0 (EQW E (wC E σf ++ ((o, .inl (eJ E, 1, .inr (.inl f))) :: X)) (qI 1) A s a below 1 6) (F0 m 0 ls []) := by
    refine lv_aload_n hx hb dL_moves_0 rfl (lv_at hl 2 rfl) ?_
    refine lv_iconst (v := 0) hx hb dL_moves_1 (by decide) ?_
    refine lv_aload_n hx hb dL_moves_2 rfl (lv_at hl 0 rfl) ?_
    refine lv_iload_n hx hb dL_moves_3 rfl (lv_at hl 1 rfl) ?_
    refine r_wcatch (n := 1) (As := [.int p1]) (q0 := 0) (ci := 9) (qq := (RX9, TX9, 14)) (Ex := exN 3) (t_X9_moves hT h) wC_fst rfl rfl mk_6_24 mk_6_25 mk_1_1 mk_6_26 (by decide +kernel) rfl ⟨rfl, rfl⟩ cx hV hF mk_6_23 ⟨Nat.le_of_ble_eq_true rfl, Nat.le_of_ble_eq_true rfl⟩ ⟨Nat.le_of_ble_eq_true rfl, Nat.le_of_ble_eq_true rfl⟩ hl.1 rfl (Nat.le_of_ble_eq_true rfl) dL_moves_4 [] ⟨0, 9, 12, 13⟩ [] htab (fun z hz => by cases hz) (by decide) (by decide) mk_3_173 (List.mem_of_getElem? (i := 2) rfl) (fun q9 H locs hV => ?_)
    refine lv_astore_n (lv' := [(3, .ref q9), (0, .ref (eA E 0)), (1, .int p1), (2, .ref o)]) hx hb dL_moves_12 rfl hl (by decide) rfl (fun ls hl => ?_)
    refine lv_iconst (v := 1) hx hb dL_moves_13 (by decide) ?_
    exact r_wret cx hr hlk hV dL_moves_14
  rw [hH, hlocs] at goal
  exact goal
abbrev rm_L_odds : Room := { frames := 8, cells := 0, slots := 0, locals := 139 }
abbrev rmx_L_odds : Room := { frames := 8, cells := 1, slots := 6, locals := 139 }
set_option maxHeartbeats 4000000 in
set_option maxRecDepth 100000 in
theorem w_L_odds {l : Launch} {E : EV} {X : va_W} {σ σf : St} {o : Nat} {f : Nat → Int64} {p1 p2 p3 p4 : Int32} {rv : Int64} (h : x_X9_odds p1 p2 p3 p4 σ = some (.inl (rv, σf))) : CW l yL_odds cL_odds 7 (some .int) [(0, 13, 16, 22), (0, 13, 20, 30), (0, 13, 24, 13), (0, 13, 28, 41)] rm_L_odds [.ref (eA E 0), .int p1, .int p2, .int p3, .int p4, .ref o] E (wC E σ ++ ((o, .inl (eJ E, 1, .inr (.inl f))) :: X)) (wC E σf ++ (o, .inl (eJ E, 1, .inr (.inl (vp_updL f 0 rv)))) :: X) (qI 0) 0 0 := by
  refine CW.start (by decide) (Nat.le_of_ble_eq_true rfl) (fun p e s m a below meth c A ls cx hr hlk htab hV hF hN hl => ?_)
  have cx : CallFix p m c cL_odds 7 s a TBL RL := cx
  have hx := cx.1
  have hb := cx.2.1
  have hl : lv_has ls 7 [(0, .ref (eA E 0)), (1, .int p1), (2, .int p2), (3, .int p3), (4, .int p4), (5, .ref o)] := hl
  obtain ⟨H, hH⟩ : ∃ H, H = s.heap := ⟨_, rfl⟩
  obtain ⟨locs, hlocs⟩ : ∃ z, z = ([] : List Loc) := ⟨_, rfl⟩
  have hV : AtW E (wC E σ ++ ((o, .inl (eJ E, 1, .inr (.inl f))) :: X)) A s H locs := by rw [hH, hlocs]; exact hV
  have goal : W p l e rm_L_odds s m a below meth c H locs 0 0 (EQW E (wC E σf ++ (o, .inl (eJ E, 1, .inr (.inl (vp_updL f 0 rv)))) :: X) (qI 0) A s a below 0 0) (F0 m 0 ls []) := by
    refine lv_aload hx hb dL_odds_0 (lv_at hl 5 rfl) ?_
    refine lv_iconst (v := 0) hx hb dL_odds_2 (by decide) ?_
    refine lv_aload_n hx hb dL_odds_3 rfl (lv_at hl 0 rfl) ?_
    refine lv_iload_n hx hb dL_odds_4 rfl (lv_at hl 1 rfl) ?_
    refine lv_iload_n hx hb dL_odds_5 rfl (lv_at hl 2 rfl) ?_
    refine lv_iload_n hx hb dL_odds_6 rfl (lv_at hl 3 rfl) ?_
    refine lv_iload hx hb dL_odds_7 (lv_at hl 4 rfl) ?_
    refine k_X9_odds h cx hV hF mk_5_119 ⟨Nat.le_of_ble_eq_true rfl, Nat.le_of_ble_eq_true rfl⟩ ⟨Nat.zero_le _, Nat.zero_le _⟩ hl.1 (Nat.le_of_ble_eq_true rfl) dL_odds_9 (fun H locs hV => ?_)
    refine r_last (V' := (wC E σf ++ (o, .inl (eJ E, 1, .inr (.inl (vp_updL f 0 rv)))) :: X)) cx hV 115 rfl (n := 1) (f := f) (by unfold vp_in; decide) rfl dL_odds_12 (fun H locs hV => ?_)
    refine lv_goto (tgt := 32) hx hb dL_odds_13 (by decide) ?_
    refine lv_iconst (v := 0) hx hb dL_odds_32 (by decide) ?_
    exact r_wret cx hr hlk hV dL_odds_33
  rw [hH, hlocs] at goal
  exact goal
set_option maxHeartbeats 4000000 in
set_option maxRecDepth 100000 in
theorem wt_L_odds_1 {l : Launch} (hT : l.stackTraces = false) {E : EV} {X : va_W} {σ σf : St} {o : Nat} {f : Nat → Int64} {p1 p2 p3 p4 : Int32} (h : x_X9_odds p1 p2 p3 p4 σ = some (.inr (1, σf))) : CW l yL_odds cL_odds 7 (some .int) [(0, 13, 16, 22), (0, 13, 20, 30), (0, 13, 24, 13), (0, 13, 28, 41)] rmx_L_odds [.ref (eA E 0), .int p1, .int p2, .int p3, .int p4, .ref o] E (wC E σ ++ ((o, .inl (eJ E, 1, .inr (.inl f))) :: X)) (wC E σf ++ ((o, .inl (eJ E, 1, .inr (.inl f))) :: X)) (qI 1) 1 6 := by
  refine CW.start (by decide) (Nat.le_of_ble_eq_true rfl) (fun p e s m a below meth c A ls cx hr hlk htab hV hF hN hl => ?_)
  have cx : CallFix p m c cL_odds 7 s a TBL RL := cx
  have hx := cx.1
  have hb := cx.2.1
  have hl : lv_has ls 7 [(0, .ref (eA E 0)), (1, .int p1), (2, .int p2), (3, .int p3), (4, .int p4), (5, .ref o)] := hl
  obtain ⟨H, hH⟩ : ∃ H, H = s.heap := ⟨_, rfl⟩
  obtain ⟨locs, hlocs⟩ : ∃ z, z = ([] : List Loc) := ⟨_, rfl⟩
  have hV : AtW E (wC E σ ++ ((o, .inl (eJ E, 1, .inr (.inl f))) :: X)) A s H locs := by rw [hH, hlocs]; exact hV
  have goal : W p l e rmx_L_odds s m a below meth c H locs 0 0 (EQW E (wC E σf ++ ((o, .inl (eJ E, 1, .inr (.inl f))) :: X)) (qI 1) A s a below 1 6) (F0 m 0 ls []) := by
    refine lv_aload hx hb dL_odds_0 (lv_at hl 5 rfl) ?_
    refine lv_iconst (v := 0) hx hb dL_odds_2 (by decide) ?_
    refine lv_aload_n hx hb dL_odds_3 rfl (lv_at hl 0 rfl) ?_
    refine lv_iload_n hx hb dL_odds_4 rfl (lv_at hl 1 rfl) ?_
    refine lv_iload_n hx hb dL_odds_5 rfl (lv_at hl 2 rfl) ?_
    refine lv_iload_n hx hb dL_odds_6 rfl (lv_at hl 3 rfl) ?_
    refine lv_iload hx hb dL_odds_7 (lv_at hl 4 rfl) ?_
    refine r_wcatch (n := 4) (As := [.int p1, .int p2, .int p3, .int p4]) (q0 := 0) (ci := 9) (qq := (RX9, TX9, 14)) (Ex := exN 1) (t_X9_odds hT h) wC_fst rfl rfl mk_5_120 mk_5_121 mk_1_1 mk_5_122 (by decide +kernel) rfl ⟨rfl, rfl⟩ cx hV hF mk_5_119 ⟨Nat.le_of_ble_eq_true rfl, Nat.le_of_ble_eq_true rfl⟩ ⟨Nat.le_of_ble_eq_true rfl, Nat.le_of_ble_eq_true rfl⟩ hl.1 rfl (Nat.le_of_ble_eq_true rfl) dL_odds_9 [] ⟨0, 13, 16, 22⟩ [⟨0, 13, 20, 30⟩, ⟨0, 13, 24, 13⟩, ⟨0, 13, 28, 41⟩] htab (fun z hz => by cases hz) (by decide) (by decide) mk_4_192 (List.mem_of_getElem? (i := 0) rfl) (fun q9 H locs hV => ?_)
    refine lv_astore (lv' := [(6, .ref q9), (0, .ref (eA E 0)), (1, .int p1), (2, .int p2), (3, .int p3), (4, .int p4), (5, .ref o)]) hx hb dL_odds_16 hl (by decide) rfl (fun ls hl => ?_)
    refine lv_iconst (v := 1) hx hb dL_odds_18 (by decide) ?_
    exact r_wret cx hr hlk hV dL_odds_19
  rw [hH, hlocs] at goal
  exact goal
set_option maxHeartbeats 4000000 in
set_option maxRecDepth 100000 in
theorem wt_L_odds_2 {l : Launch} (hT : l.stackTraces = false) {E : EV} {X : va_W} {σ σf : St} {o : Nat} {f : Nat → Int64} {p1 p2 p3 p4 : Int32} (h : x_X9_odds p1 p2 p3 p4 σ = some (.inr (2, σf))) : CW l yL_odds cL_odds 7 (some .int) [(0, 13, 16, 22), (0, 13, 20, 30), (0, 13, 24, 13), (0, 13, 28, 41)] rmx_L_odds [.ref (eA E 0), .int p1, .int p2, .int p3, .int p4, .ref o] E (wC E σ ++ ((o, .inl (eJ E, 1, .inr (.inl f))) :: X)) (wC E σf ++ ((o, .inl (eJ E, 1, .inr (.inl f))) :: X)) (qI 2) 1 6 := by
  refine CW.start (by decide) (Nat.le_of_ble_eq_true rfl) (fun p e s m a below meth c A ls cx hr hlk htab hV hF hN hl => ?_)
  have cx : CallFix p m c cL_odds 7 s a TBL RL := cx
  have hx := cx.1
  have hb := cx.2.1
  have hl : lv_has ls 7 [(0, .ref (eA E 0)), (1, .int p1), (2, .int p2), (3, .int p3), (4, .int p4), (5, .ref o)] := hl
  obtain ⟨H, hH⟩ : ∃ H, H = s.heap := ⟨_, rfl⟩
  obtain ⟨locs, hlocs⟩ : ∃ z, z = ([] : List Loc) := ⟨_, rfl⟩
  have hV : AtW E (wC E σ ++ ((o, .inl (eJ E, 1, .inr (.inl f))) :: X)) A s H locs := by rw [hH, hlocs]; exact hV
  have goal : W p l e rmx_L_odds s m a below meth c H locs 0 0 (EQW E (wC E σf ++ ((o, .inl (eJ E, 1, .inr (.inl f))) :: X)) (qI 2) A s a below 1 6) (F0 m 0 ls []) := by
    refine lv_aload hx hb dL_odds_0 (lv_at hl 5 rfl) ?_
    refine lv_iconst (v := 0) hx hb dL_odds_2 (by decide) ?_
    refine lv_aload_n hx hb dL_odds_3 rfl (lv_at hl 0 rfl) ?_
    refine lv_iload_n hx hb dL_odds_4 rfl (lv_at hl 1 rfl) ?_
    refine lv_iload_n hx hb dL_odds_5 rfl (lv_at hl 2 rfl) ?_
    refine lv_iload_n hx hb dL_odds_6 rfl (lv_at hl 3 rfl) ?_
    refine lv_iload hx hb dL_odds_7 (lv_at hl 4 rfl) ?_
    refine r_wcatch (n := 4) (As := [.int p1, .int p2, .int p3, .int p4]) (q0 := 0) (ci := 9) (qq := (RX9, TX9, 14)) (Ex := exN 2) (t_X9_odds hT h) wC_fst rfl rfl mk_5_120 mk_5_121 mk_1_1 mk_5_122 (by decide +kernel) rfl ⟨rfl, rfl⟩ cx hV hF mk_5_119 ⟨Nat.le_of_ble_eq_true rfl, Nat.le_of_ble_eq_true rfl⟩ ⟨Nat.le_of_ble_eq_true rfl, Nat.le_of_ble_eq_true rfl⟩ hl.1 rfl (Nat.le_of_ble_eq_true rfl) dL_odds_9 [⟨0, 13, 16, 22⟩] ⟨0, 13, 20, 30⟩ [⟨0, 13, 24, 13⟩, ⟨0, 13, 28, 41⟩] htab (fun z hz => by
      simp only [List.mem_cons, List.not_mem_nil, or_false] at hz
      rcases hz with rfl
      · exact Or.inr ⟨(by decide), _, mk_4_192, NC_at hN 1 0 (by decide) (by decide) (by decide)⟩) (by decide) (by decide) mk_4_232 (List.mem_of_getElem? (i := 1) rfl) (fun q9 H locs hV => ?_)
    refine lv_astore (lv' := [(6, .ref q9), (0, .ref (eA E 0)), (1, .int p1), (2, .int p2), (3, .int p3), (4, .int p4), (5, .ref o)]) hx hb dL_odds_20 hl (by decide) rfl (fun ls hl => ?_)
    refine lv_iconst (v := 2) hx hb dL_odds_22 (by decide) ?_
    exact r_wret cx hr hlk hV dL_odds_23
  rw [hH, hlocs] at goal
  exact goal
set_option maxHeartbeats 4000000 in
set_option maxRecDepth 100000 in
theorem wt_L_odds_3 {l : Launch} (hT : l.stackTraces = false) {E : EV} {X : va_W} {σ σf : St} {o : Nat} {f : Nat → Int64} {p1 p2 p3 p4 : Int32} (h : x_X9_odds p1 p2 p3 p4 σ = some (.inr (3, σf))) : CW l yL_odds cL_odds 7 (some .int) [(0, 13, 16, 22), (0, 13, 20, 30), (0, 13, 24, 13), (0, 13, 28, 41)] rmx_L_odds [.ref (eA E 0), .int p1, .int p2, .int p3, .int p4, .ref o] E (wC E σ ++ ((o, .inl (eJ E, 1, .inr (.inl f))) :: X)) (wC E σf ++ ((o, .inl (eJ E, 1, .inr (.inl f))) :: X)) (qI 3) 1 6 := by
  refine CW.start (by decide) (Nat.le_of_ble_eq_true rfl) (fun p e s m a below meth c A ls cx hr hlk htab hV hF hN hl => ?_)
  have cx : CallFix p m c cL_odds 7 s a TBL RL := cx
  have hx := cx.1
  have hb := cx.2.1
  have hl : lv_has ls 7 [(0, .ref (eA E 0)), (1, .int p1), (2, .int p2), (3, .int p3), (4, .int p4), (5, .ref o)] := hl
  obtain ⟨H, hH⟩ : ∃ H, H = s.heap := ⟨_, rfl⟩
  obtain ⟨locs, hlocs⟩ : ∃ z, z = ([] : List Loc) := ⟨_, rfl⟩
  have hV : AtW E (wC E σ ++ ((o, .inl (eJ E, 1, .inr (.inl f))) :: X)) A s H locs := by rw [hH, hlocs]; exact hV
  have goal : W p l e rmx_L_odds s m a below meth c H locs 0 0 (EQW E (wC E σf ++ ((o, .inl (eJ E, 1, .inr (.inl f))) :: X)) (qI 3) A s a below 1 6) (F0 m 0 ls []) := by
    refine lv_aload hx hb dL_odds_0 (lv_at hl 5 rfl) ?_
    refine lv_iconst (v := 0) hx hb dL_odds_2 (by decide) ?_
    refine lv_aload_n hx hb dL_odds_3 rfl (lv_at hl 0 rfl) ?_
    refine lv_iload_n hx hb dL_odds_4 rfl (lv_at hl 1 rfl) ?_
    refine lv_iload_n hx hb dL_odds_5 rfl (lv_at hl 2 rfl) ?_
    refine lv_iload_n hx hb dL_odds_6 rfl (lv_at hl 3 rfl) ?_
    refine lv_iload hx hb dL_odds_7 (lv_at hl 4 rfl) ?_
    refine r_wcatch (n := 4) (As := [.int p1, .int p2, .int p3, .int p4]) (q0 := 0) (ci := 9) (qq := (RX9, TX9, 14)) (Ex := exN 3) (t_X9_odds hT h) wC_fst rfl rfl mk_5_120 mk_5_121 mk_1_1 mk_5_122 (by decide +kernel) rfl ⟨rfl, rfl⟩ cx hV hF mk_5_119 ⟨Nat.le_of_ble_eq_true rfl, Nat.le_of_ble_eq_true rfl⟩ ⟨Nat.le_of_ble_eq_true rfl, Nat.le_of_ble_eq_true rfl⟩ hl.1 rfl (Nat.le_of_ble_eq_true rfl) dL_odds_9 [⟨0, 13, 16, 22⟩, ⟨0, 13, 20, 30⟩] ⟨0, 13, 24, 13⟩ [⟨0, 13, 28, 41⟩] htab (fun z hz => by
      simp only [List.mem_cons, List.not_mem_nil, or_false] at hz
      rcases hz with rfl | rfl
      · exact Or.inr ⟨(by decide), _, mk_4_192, NC_at hN 2 0 (by decide) (by decide) (by decide)⟩
      · exact Or.inr ⟨(by decide), _, mk_4_232, NC_at hN 2 1 (by decide) (by decide) (by decide)⟩) (by decide) (by decide) mk_3_173 (List.mem_of_getElem? (i := 2) rfl) (fun q9 H locs hV => ?_)
    refine lv_astore (lv' := [(6, .ref q9), (0, .ref (eA E 0)), (1, .int p1), (2, .int p2), (3, .int p3), (4, .int p4), (5, .ref o)]) hx hb dL_odds_24 hl (by decide) rfl (fun ls hl => ?_)
    refine lv_iconst (v := 3) hx hb dL_odds_26 (by decide) ?_
    exact r_wret cx hr hlk hV dL_odds_27
  rw [hH, hlocs] at goal
  exact goal
set_option maxHeartbeats 4000000 in
set_option maxRecDepth 100000 in
theorem wt_L_odds_4 {l : Launch} (hT : l.stackTraces = false) {E : EV} {X : va_W} {σ σf : St} {o : Nat} {f : Nat → Int64} {p1 p2 p3 p4 : Int32} (h : x_X9_odds p1 p2 p3 p4 σ = some (.inr (4, σf))) : CW l yL_odds cL_odds 7 (some .int) [(0, 13, 16, 22), (0, 13, 20, 30), (0, 13, 24, 13), (0, 13, 28, 41)] rmx_L_odds [.ref (eA E 0), .int p1, .int p2, .int p3, .int p4, .ref o] E (wC E σ ++ ((o, .inl (eJ E, 1, .inr (.inl f))) :: X)) (wC E σf ++ ((o, .inl (eJ E, 1, .inr (.inl f))) :: X)) (qI 4) 1 6 := by
  refine CW.start (by decide) (Nat.le_of_ble_eq_true rfl) (fun p e s m a below meth c A ls cx hr hlk htab hV hF hN hl => ?_)
  have cx : CallFix p m c cL_odds 7 s a TBL RL := cx
  have hx := cx.1
  have hb := cx.2.1
  have hl : lv_has ls 7 [(0, .ref (eA E 0)), (1, .int p1), (2, .int p2), (3, .int p3), (4, .int p4), (5, .ref o)] := hl
  obtain ⟨H, hH⟩ : ∃ H, H = s.heap := ⟨_, rfl⟩
  obtain ⟨locs, hlocs⟩ : ∃ z, z = ([] : List Loc) := ⟨_, rfl⟩
  have hV : AtW E (wC E σ ++ ((o, .inl (eJ E, 1, .inr (.inl f))) :: X)) A s H locs := by rw [hH, hlocs]; exact hV
  have goal : W p l e rmx_L_odds s m a below meth c H locs 0 0 (EQW E (wC E σf ++ ((o, .inl (eJ E, 1, .inr (.inl f))) :: X)) (qI 4) A s a below 1 6) (F0 m 0 ls []) := by
    refine lv_aload hx hb dL_odds_0 (lv_at hl 5 rfl) ?_
    refine lv_iconst (v := 0) hx hb dL_odds_2 (by decide) ?_
    refine lv_aload_n hx hb dL_odds_3 rfl (lv_at hl 0 rfl) ?_
    refine lv_iload_n hx hb dL_odds_4 rfl (lv_at hl 1 rfl) ?_
    refine lv_iload_n hx hb dL_odds_5 rfl (lv_at hl 2 rfl) ?_
    refine lv_iload_n hx hb dL_odds_6 rfl (lv_at hl 3 rfl) ?_
    refine lv_iload hx hb dL_odds_7 (lv_at hl 4 rfl) ?_
    refine r_wcatch (n := 4) (As := [.int p1, .int p2, .int p3, .int p4]) (q0 := 0) (ci := 9) (qq := (RX9, TX9, 14)) (Ex := exN 4) (t_X9_odds hT h) wC_fst rfl rfl mk_5_120 mk_5_121 mk_1_1 mk_5_122 (by decide +kernel) rfl ⟨rfl, rfl⟩ cx hV hF mk_5_119 ⟨Nat.le_of_ble_eq_true rfl, Nat.le_of_ble_eq_true rfl⟩ ⟨Nat.le_of_ble_eq_true rfl, Nat.le_of_ble_eq_true rfl⟩ hl.1 rfl (Nat.le_of_ble_eq_true rfl) dL_odds_9 [⟨0, 13, 16, 22⟩, ⟨0, 13, 20, 30⟩, ⟨0, 13, 24, 13⟩] ⟨0, 13, 28, 41⟩ [] htab (fun z hz => by
      simp only [List.mem_cons, List.not_mem_nil, or_false] at hz
      rcases hz with rfl | rfl | rfl
      · exact Or.inr ⟨(by decide), _, mk_4_192, NC_at hN 3 0 (by decide) (by decide) (by decide)⟩
      · exact Or.inr ⟨(by decide), _, mk_4_232, NC_at hN 3 1 (by decide) (by decide) (by decide)⟩
      · exact Or.inr ⟨(by decide), _, mk_3_173, NC_at hN 3 2 (by decide) (by decide) (by decide)⟩) (by decide) (by decide) mk_5_49 (List.mem_of_getElem? (i := 3) rfl) (fun q9 H locs hV => ?_)
    refine lv_astore (lv' := [(6, .ref q9), (0, .ref (eA E 0)), (1, .int p1), (2, .int p2), (3, .int p3), (4, .int p4), (5, .ref o)]) hx hb dL_odds_28 hl (by decide) rfl (fun ls hl => ?_)
    refine lv_iconst (v := 4) hx hb dL_odds_30 (by decide) ?_
    exact r_wret cx hr hlk hV dL_odds_31
  rw [hH, hlocs] at goal
  exact goal
abbrev rm_L_often : Room := { frames := 8, cells := 0, slots := 0, locals := 129 }
abbrev rmx_L_often : Room := { frames := 8, cells := 1, slots := 6, locals := 129 }
set_option maxHeartbeats 4000000 in
set_option maxRecDepth 100000 in
theorem w_L_often {l : Launch} {E : EV} {X : va_W} {σ σf : St} {o : Nat} {f : Nat → Int64} {p1 p2 p3 p4 : Int32} {rv : Int32} (h : x_X9_often p1 p2 p3 p4 σ = some (.inl (rv, σf))) : CW l yL_often cL_often 7 (some .int) [(0, 14, 17, 13)] rm_L_often [.ref (eA E 0), .int p1, .int p2, .int p3, .int p4, .ref o] E (wC E σ ++ ((o, .inl (eJ E, 1, .inr (.inl f))) :: X)) (wC E σf ++ (o, .inl (eJ E, 1, .inr (.inl (vp_updL f 0 (Int32.toInt64 rv))))) :: X) (qI 0) 0 0 := by
  refine CW.start (by decide) (Nat.le_of_ble_eq_true rfl) (fun p e s m a below meth c A ls cx hr hlk htab hV hF hN hl => ?_)
  have cx : CallFix p m c cL_often 7 s a TBL RL := cx
  have hx := cx.1
  have hb := cx.2.1
  have hl : lv_has ls 7 [(0, .ref (eA E 0)), (1, .int p1), (2, .int p2), (3, .int p3), (4, .int p4), (5, .ref o)] := hl
  obtain ⟨H, hH⟩ : ∃ H, H = s.heap := ⟨_, rfl⟩
  obtain ⟨locs, hlocs⟩ : ∃ z, z = ([] : List Loc) := ⟨_, rfl⟩
  have hV : AtW E (wC E σ ++ ((o, .inl (eJ E, 1, .inr (.inl f))) :: X)) A s H locs := by rw [hH, hlocs]; exact hV
  have goal : W p l e rm_L_often s m a below meth c H locs 0 0 (EQW E (wC E σf ++ (o, .inl (eJ E, 1, .inr (.inl (vp_updL f 0 (Int32.toInt64 rv))))) :: X) (qI 0) A s a below 0 0) (F0 m 0 ls []) := by
    refine lv_aload hx hb dL_often_0 (lv_at hl 5 rfl) ?_
    refine lv_iconst (v := 0) hx hb dL_often_2 (by decide) ?_
    refine lv_aload_n hx hb dL_often_3 rfl (lv_at hl 0 rfl) ?_
    refine lv_iload_n hx hb dL_often_4 rfl (lv_at hl 1 rfl) ?_
    refine lv_iload_n hx hb dL_often_5 rfl (lv_at hl 2 rfl) ?_
    refine lv_iload_n hx hb dL_often_6 rfl (lv_at hl 3 rfl) ?_
    refine lv_iload hx hb dL_often_7 (lv_at hl 4 rfl) ?_
    refine k_X9_often h cx hV hF mk_6_12 ⟨Nat.le_of_ble_eq_true rfl, Nat.le_of_ble_eq_true rfl⟩ ⟨Nat.zero_le _, Nat.zero_le _⟩ hl.1 (Nat.le_of_ble_eq_true rfl) dL_often_9 (fun H locs hV => ?_)
    refine lv_i2l (v := Int32.toInt64 rv) hx hb dL_often_12 rfl ?_
    refine r_last (V' := (wC E σf ++ (o, .inl (eJ E, 1, .inr (.inl (vp_updL f 0 (Int32.toInt64 rv))))) :: X)) cx hV 115 rfl (n := 1) (f := f) (by unfold vp_in; decide) rfl dL_often_13 (fun H locs hV => ?_)
    refine lv_goto (tgt := 21) hx hb dL_often_14 (by decide) ?_
    refine lv_iconst (v := 0) hx hb dL_often_21 (by decide) ?_
    exact r_wret cx hr hlk hV dL_often_22
  rw [hH, hlocs] at goal
  exact goal
set_option maxHeartbeats 4000000 in
set_option maxRecDepth 100000 in
theorem wt_L_often_3 {l : Launch} (hT : l.stackTraces = false) {E : EV} {X : va_W} {σ σf : St} {o : Nat} {f : Nat → Int64} {p1 p2 p3 p4 : Int32} (h : x_X9_often p1 p2 p3 p4 σ = some (.inr (3, σf))) : CW l yL_often cL_often 7 (some .int) [(0, 14, 17, 13)] rmx_L_often [.ref (eA E 0), .int p1, .int p2, .int p3, .int p4, .ref o] E (wC E σ ++ ((o, .inl (eJ E, 1, .inr (.inl f))) :: X)) (wC E σf ++ ((o, .inl (eJ E, 1, .inr (.inl f))) :: X)) (qI 1) 1 6 := by
  refine CW.start (by decide) (Nat.le_of_ble_eq_true rfl) (fun p e s m a below meth c A ls cx hr hlk htab hV hF hN hl => ?_)
  have cx : CallFix p m c cL_often 7 s a TBL RL := cx
  have hx := cx.1
  have hb := cx.2.1
  have hl : lv_has ls 7 [(0, .ref (eA E 0)), (1, .int p1), (2, .int p2), (3, .int p3), (4, .int p4), (5, .ref o)] := hl
  obtain ⟨H, hH⟩ : ∃ H, H = s.heap := ⟨_, rfl⟩
  obtain ⟨locs, hlocs⟩ : ∃ z, z = ([] : List Loc) := ⟨_, rfl⟩
  have hV : AtW E (wC E σ ++ ((o, .inl (eJ E, 1, .inr (.inl f))) :: X)) A s H locs := by rw [hH, hlocs]; exact hV
  have goal : W p l e rmx_L_often s m a below meth c H locs 0 0 (EQW E (wC E σf ++ ((o, .inl (eJ E, 1, .inr (.inl f))) :: X)) (qI 1) A s a below 1 6) (F0 m 0 ls []) := by
    refine lv_aload hx hb dL_often_0 (lv_at hl 5 rfl) ?_
    refine lv_iconst (v := 0) hx hb dL_often_2 (by decide) ?_
    refine lv_aload_n hx hb dL_often_3 rfl (lv_at hl 0 rfl) ?_
    refine lv_iload_n hx hb dL_often_4 rfl (lv_at hl 1 rfl) ?_
    refine lv_iload_n hx hb dL_often_5 rfl (lv_at hl 2 rfl) ?_
    refine lv_iload_n hx hb dL_often_6 rfl (lv_at hl 3 rfl) ?_
    refine lv_iload hx hb dL_often_7 (lv_at hl 4 rfl) ?_
    refine r_wcatch (n := 4) (As := [.int p1, .int p2, .int p3, .int p4]) (q0 := 0) (ci := 9) (qq := (RX9, TX9, 14)) (Ex := exN 3) (t_X9_often hT h) wC_fst rfl rfl mk_6_13 mk_6_14 mk_1_1 mk_6_15 (by decide +kernel) rfl ⟨rfl, rfl⟩ cx hV hF mk_6_12 ⟨Nat.le_of_ble_eq_true rfl, Nat.le_of_ble_eq_true rfl⟩ ⟨Nat.le_of_ble_eq_true rfl, Nat.le_of_ble_eq_true rfl⟩ hl.1 rfl (Nat.le_of_ble_eq_true rfl) dL_often_9 [] ⟨0, 14, 17, 13⟩ [] htab (fun z hz => by cases hz) (by decide) (by decide) mk_3_173 (List.mem_of_getElem? (i := 2) rfl) (fun q9 H locs hV => ?_)
    refine lv_astore (lv' := [(6, .ref q9), (0, .ref (eA E 0)), (1, .int p1), (2, .int p2), (3, .int p3), (4, .int p4), (5, .ref o)]) hx hb dL_often_17 hl (by decide) rfl (fun ls hl => ?_)
    refine lv_iconst (v := 1) hx hb dL_often_19 (by decide) ?_
    exact r_wret cx hr hlk hV dL_often_20
  rw [hH, hlocs] at goal
  exact goal
abbrev rm_L_order : Room := { frames := 9, cells := 0, slots := 0, locals := 165 }
abbrev rmx_L_order : Room := { frames := 9, cells := 1, slots := 6, locals := 165 }
set_option maxHeartbeats 4000000 in
set_option maxRecDepth 100000 in
theorem w_L_order {l : Launch} {E : EV} {X : va_W} {σ σf : St} {o : Nat} {f : Nat → Int64} {p1 p2 p3 p4 : Int32} {rv : Int32} (h : x_X9_order p1 p2 p3 p4 σ = some (.inl (rv, σf))) : CW l yL_order cL_order 7 (some .int) [(0, 14, 17, 30), (0, 14, 21, 13), (0, 14, 25, 41)] rm_L_order [.ref (eA E 0), .int p1, .int p2, .int p3, .int p4, .ref o] E (wC E σ ++ ((o, .inl (eJ E, 1, .inr (.inl f))) :: X)) (wC E σf ++ (o, .inl (eJ E, 1, .inr (.inl (vp_updL f 0 (Int32.toInt64 rv))))) :: X) (qI 0) 0 0 := by
  refine CW.start (by decide) (Nat.le_of_ble_eq_true rfl) (fun p e s m a below meth c A ls cx hr hlk htab hV hF hN hl => ?_)
  have cx : CallFix p m c cL_order 7 s a TBL RL := cx
  have hx := cx.1
  have hb := cx.2.1
  have hl : lv_has ls 7 [(0, .ref (eA E 0)), (1, .int p1), (2, .int p2), (3, .int p3), (4, .int p4), (5, .ref o)] := hl
  obtain ⟨H, hH⟩ : ∃ H, H = s.heap := ⟨_, rfl⟩
  obtain ⟨locs, hlocs⟩ : ∃ z, z = ([] : List Loc) := ⟨_, rfl⟩
  have hV : AtW E (wC E σ ++ ((o, .inl (eJ E, 1, .inr (.inl f))) :: X)) A s H locs := by rw [hH, hlocs]; exact hV
  have goal : W p l e rm_L_order s m a below meth c H locs 0 0 (EQW E (wC E σf ++ (o, .inl (eJ E, 1, .inr (.inl (vp_updL f 0 (Int32.toInt64 rv))))) :: X) (qI 0) A s a below 0 0) (F0 m 0 ls []) := by
    refine lv_aload hx hb dL_order_0 (lv_at hl 5 rfl) ?_
    refine lv_iconst (v := 0) hx hb dL_order_2 (by decide) ?_
    refine lv_aload_n hx hb dL_order_3 rfl (lv_at hl 0 rfl) ?_
    refine lv_iload_n hx hb dL_order_4 rfl (lv_at hl 1 rfl) ?_
    refine lv_iload_n hx hb dL_order_5 rfl (lv_at hl 2 rfl) ?_
    refine lv_iload_n hx hb dL_order_6 rfl (lv_at hl 3 rfl) ?_
    refine lv_iload hx hb dL_order_7 (lv_at hl 4 rfl) ?_
    refine k_X9_order h cx hV hF mk_5_182 ⟨Nat.le_of_ble_eq_true rfl, Nat.le_of_ble_eq_true rfl⟩ ⟨Nat.zero_le _, Nat.zero_le _⟩ hl.1 (Nat.le_of_ble_eq_true rfl) dL_order_9 (fun H locs hV => ?_)
    refine lv_i2l (v := Int32.toInt64 rv) hx hb dL_order_12 rfl ?_
    refine r_last (V' := (wC E σf ++ (o, .inl (eJ E, 1, .inr (.inl (vp_updL f 0 (Int32.toInt64 rv))))) :: X)) cx hV 115 rfl (n := 1) (f := f) (by unfold vp_in; decide) rfl dL_order_13 (fun H locs hV => ?_)
    refine lv_goto (tgt := 29) hx hb dL_order_14 (by decide) ?_
    refine lv_iconst (v := 0) hx hb dL_order_29 (by decide) ?_
    exact r_wret cx hr hlk hV dL_order_30
  rw [hH, hlocs] at goal
  exact goal
set_option maxHeartbeats 4000000 in
set_option maxRecDepth 100000 in
theorem wt_L_order_2 {l : Launch} (hT : l.stackTraces = false) {E : EV} {X : va_W} {σ σf : St} {o : Nat} {f : Nat → Int64} {p1 p2 p3 p4 : Int32} (h : x_X9_order p1 p2 p3 p4 σ = some (.inr (2, σf))) : CW l yL_order cL_order 7 (some .int) [(0, 14, 17, 30), (0, 14, 21, 13), (0, 14, 25, 41)] rmx_L_order [.ref (eA E 0), .int p1, .int p2, .int p3, .int p4, .ref o] E (wC E σ ++ ((o, .inl (eJ E, 1, .inr (.inl f))) :: X)) (wC E σf ++ ((o, .inl (eJ E, 1, .inr (.inl f))) :: X)) (qI 1) 1 6 := by
  refine CW.start (by decide) (Nat.le_of_ble_eq_true rfl) (fun p e s m a below meth c A ls cx hr hlk htab hV hF hN hl => ?_)
  have cx : CallFix p m c cL_order 7 s a TBL RL := cx
  have hx := cx.1
  have hb := cx.2.1
  have hl : lv_has ls 7 [(0, .ref (eA E 0)), (1, .int p1), (2, .int p2), (3, .int p3), (4, .int p4), (5, .ref o)] := hl
  obtain ⟨H, hH⟩ : ∃ H, H = s.heap := ⟨_, rfl⟩
  obtain ⟨locs, hlocs⟩ : ∃ z, z = ([] : List Loc) := ⟨_, rfl⟩
  have hV : AtW E (wC E σ ++ ((o, .inl (eJ E, 1, .inr (.inl f))) :: X)) A s H locs := by rw [hH, hlocs]; exact hV
  have goal : W p l e rmx_L_order s m a below meth c H locs 0 0 (EQW E (wC E σf ++ ((o, .inl (eJ E, 1, .inr (.inl f))) :: X)) (qI 1) A s a below 1 6) (F0 m 0 ls []) := by
    refine lv_aload hx hb dL_order_0 (lv_at hl 5 rfl) ?_
    refine lv_iconst (v := 0) hx hb dL_order_2 (by decide) ?_
    refine lv_aload_n hx hb dL_order_3 rfl (lv_at hl 0 rfl) ?_
    refine lv_iload_n hx hb dL_order_4 rfl (lv_at hl 1 rfl) ?_
    refine lv_iload_n hx hb dL_order_5 rfl (lv_at hl 2 rfl) ?_
    refine lv_iload_n hx hb dL_order_6 rfl (lv_at hl 3 rfl) ?_
    refine lv_iload hx hb dL_order_7 (lv_at hl 4 rfl) ?_
    refine r_wcatch (n := 4) (As := [.int p1, .int p2, .int p3, .int p4]) (q0 := 0) (ci := 9) (qq := (RX9, TX9, 14)) (Ex := exN 2) (t_X9_order hT h) wC_fst rfl rfl mk_5_183 mk_5_184 mk_1_1 mk_5_185 (by decide +kernel) rfl ⟨rfl, rfl⟩ cx hV hF mk_5_182 ⟨Nat.le_of_ble_eq_true rfl, Nat.le_of_ble_eq_true rfl⟩ ⟨Nat.le_of_ble_eq_true rfl, Nat.le_of_ble_eq_true rfl⟩ hl.1 rfl (Nat.le_of_ble_eq_true rfl) dL_order_9 [] ⟨0, 14, 17, 30⟩ [⟨0, 14, 21, 13⟩, ⟨0, 14, 25, 41⟩] htab (fun z hz => by cases hz) (by decide) (by decide) mk_4_232 (List.mem_of_getElem? (i := 1) rfl) (fun q9 H locs hV => ?_)
    refine lv_astore (lv' := [(6, .ref q9), (0, .ref (eA E 0)), (1, .int p1), (2, .int p2), (3, .int p3), (4, .int p4), (5, .ref o)]) hx hb dL_order_17 hl (by decide) rfl (fun ls hl => ?_)
    refine lv_iconst (v := 1) hx hb dL_order_19 (by decide) ?_
    exact r_wret cx hr hlk hV dL_order_20
  rw [hH, hlocs] at goal
  exact goal
set_option maxHeartbeats 4000000 in
set_option maxRecDepth 100000 in
theorem wt_L_order_3 {l : Launch} (hT : l.stackTraces = false) {E : EV} {X : va_W} {σ σf : St} {o : Nat} {f : Nat → Int64} {p1 p2 p3 p4 : Int32} (h : x_X9_order p1 p2 p3 p4 σ = some (.inr (3, σf))) : CW l yL_order cL_order 7 (some .int) [(0, 14, 17, 30), (0, 14, 21, 13), (0, 14, 25, 41)] rmx_L_order [.ref (eA E 0), .int p1, .int p2, .int p3, .int p4, .ref o] E (wC E σ ++ ((o, .inl (eJ E, 1, .inr (.inl f))) :: X)) (wC E σf ++ ((o, .inl (eJ E, 1, .inr (.inl f))) :: X)) (qI 2) 1 6 := by
  refine CW.start (by decide) (Nat.le_of_ble_eq_true rfl) (fun p e s m a below meth c A ls cx hr hlk htab hV hF hN hl => ?_)
  have cx : CallFix p m c cL_order 7 s a TBL RL := cx
  have hx := cx.1
  have hb := cx.2.1
  have hl : lv_has ls 7 [(0, .ref (eA E 0)), (1, .int p1), (2, .int p2), (3, .int p3), (4, .int p4), (5, .ref o)] := hl
  obtain ⟨H, hH⟩ : ∃ H, H = s.heap := ⟨_, rfl⟩
  obtain ⟨locs, hlocs⟩ : ∃ z, z = ([] : List Loc) := ⟨_, rfl⟩
  have hV : AtW E (wC E σ ++ ((o, .inl (eJ E, 1, .inr (.inl f))) :: X)) A s H locs := by rw [hH, hlocs]; exact hV
  have goal : W p l e rmx_L_order s m a below meth c H locs 0 0 (EQW E (wC E σf ++ ((o, .inl (eJ E, 1, .inr (.inl f))) :: X)) (qI 2) A s a below 1 6) (F0 m 0 ls []) := by
    refine lv_aload hx hb dL_order_0 (lv_at hl 5 rfl) ?_
    refine lv_iconst (v := 0) hx hb dL_order_2 (by decide) ?_
    refine lv_aload_n hx hb dL_order_3 rfl (lv_at hl 0 rfl) ?_
    refine lv_iload_n hx hb dL_order_4 rfl (lv_at hl 1 rfl) ?_
    refine lv_iload_n hx hb dL_order_5 rfl (lv_at hl 2 rfl) ?_
    refine lv_iload_n hx hb dL_order_6 rfl (lv_at hl 3 rfl) ?_
    refine lv_iload hx hb dL_order_7 (lv_at hl 4 rfl) ?_
    refine r_wcatch (n := 4) (As := [.int p1, .int p2, .int p3, .int p4]) (q0 := 0) (ci := 9) (qq := (RX9, TX9, 14)) (Ex := exN 3) (t_X9_order hT h) wC_fst rfl rfl mk_5_183 mk_5_184 mk_1_1 mk_5_185 (by decide +kernel) rfl ⟨rfl, rfl⟩ cx hV hF mk_5_182 ⟨Nat.le_of_ble_eq_true rfl, Nat.le_of_ble_eq_true rfl⟩ ⟨Nat.le_of_ble_eq_true rfl, Nat.le_of_ble_eq_true rfl⟩ hl.1 rfl (Nat.le_of_ble_eq_true rfl) dL_order_9 [⟨0, 14, 17, 30⟩] ⟨0, 14, 21, 13⟩ [⟨0, 14, 25, 41⟩] htab (fun z hz => by
      simp only [List.mem_cons, List.not_mem_nil, or_false] at hz
      rcases hz with rfl
      · exact Or.inr ⟨(by decide), _, mk_4_232, NC_at hN 2 1 (by decide) (by decide) (by decide)⟩) (by decide) (by decide) mk_3_173 (List.mem_of_getElem? (i := 2) rfl) (fun q9 H locs hV => ?_)
    refine lv_astore (lv' := [(6, .ref q9), (0, .ref (eA E 0)), (1, .int p1), (2, .int p2), (3, .int p3), (4, .int p4), (5, .ref o)]) hx hb dL_order_21 hl (by decide) rfl (fun ls hl => ?_)
    refine lv_iconst (v := 2) hx hb dL_order_23 (by decide) ?_
    exact r_wret cx hr hlk hV dL_order_24
  rw [hH, hlocs] at goal
  exact goal
set_option maxHeartbeats 4000000 in
set_option maxRecDepth 100000 in
theorem wt_L_order_4 {l : Launch} (hT : l.stackTraces = false) {E : EV} {X : va_W} {σ σf : St} {o : Nat} {f : Nat → Int64} {p1 p2 p3 p4 : Int32} (h : x_X9_order p1 p2 p3 p4 σ = some (.inr (4, σf))) : CW l yL_order cL_order 7 (some .int) [(0, 14, 17, 30), (0, 14, 21, 13), (0, 14, 25, 41)] rmx_L_order [.ref (eA E 0), .int p1, .int p2, .int p3, .int p4, .ref o] E (wC E σ ++ ((o, .inl (eJ E, 1, .inr (.inl f))) :: X)) (wC E σf ++ ((o, .inl (eJ E, 1, .inr (.inl f))) :: X)) (qI 3) 1 6 := by
  refine CW.start (by decide) (Nat.le_of_ble_eq_true rfl) (fun p e s m a below meth c A ls cx hr hlk htab hV hF hN hl => ?_)
  have cx : CallFix p m c cL_order 7 s a TBL RL := cx
  have hx := cx.1
  have hb := cx.2.1
  have hl : lv_has ls 7 [(0, .ref (eA E 0)), (1, .int p1), (2, .int p2), (3, .int p3), (4, .int p4), (5, .ref o)] := hl
  obtain ⟨H, hH⟩ : ∃ H, H = s.heap := ⟨_, rfl⟩
  obtain ⟨locs, hlocs⟩ : ∃ z, z = ([] : List Loc) := ⟨_, rfl⟩
  have hV : AtW E (wC E σ ++ ((o, .inl (eJ E, 1, .inr (.inl f))) :: X)) A s H locs := by rw [hH, hlocs]; exact hV
  have goal : W p l e rmx_L_order s m a below meth c H locs 0 0 (EQW E (wC E σf ++ ((o, .inl (eJ E, 1, .inr (.inl f))) :: X)) (qI 3) A s a below 1 6) (F0 m 0 ls []) := by
    refine lv_aload hx hb dL_order_0 (lv_at hl 5 rfl) ?_
    refine lv_iconst (v := 0) hx hb dL_order_2 (by decide) ?_
    refine lv_aload_n hx hb dL_order_3 rfl (lv_at hl 0 rfl) ?_
    refine lv_iload_n hx hb dL_order_4 rfl (lv_at hl 1 rfl) ?_
    refine lv_iload_n hx hb dL_order_5 rfl (lv_at hl 2 rfl) ?_
    refine lv_iload_n hx hb dL_order_6 rfl (lv_at hl 3 rfl) ?_
    refine lv_iload hx hb dL_order_7 (lv_at hl 4 rfl) ?_
    refine r_wcatch (n := 4) (As := [.int p1, .int p2, .int p3, .int p4]) (q0 := 0) (ci := 9) (qq := (RX9, TX9, 14)) (Ex := exN 4) (t_X9_order hT h) wC_fst rfl rfl mk_5_183 mk_5_184 mk_1_1 mk_5_185 (by decide +kernel) rfl ⟨rfl, rfl⟩ cx hV hF mk_5_182 ⟨Nat.le_of_ble_eq_true rfl, Nat.le_of_ble_eq_true rfl⟩ ⟨Nat.le_of_ble_eq_true rfl, Nat.le_of_ble_eq_true rfl⟩ hl.1 rfl (Nat.le_of_ble_eq_true rfl) dL_order_9 [⟨0, 14, 17, 30⟩, ⟨0, 14, 21, 13⟩] ⟨0, 14, 25, 41⟩ [] htab (fun z hz => by
      simp only [List.mem_cons, List.not_mem_nil, or_false] at hz
      rcases hz with rfl | rfl
      · exact Or.inr ⟨(by decide), _, mk_4_232, NC_at hN 3 1 (by decide) (by decide) (by decide)⟩
      · exact Or.inr ⟨(by decide), _, mk_3_173, NC_at hN 3 2 (by decide) (by decide) (by decide)⟩) (by decide) (by decide) mk_5_49 (List.mem_of_getElem? (i := 3) rfl) (fun q9 H locs hV => ?_)
    refine lv_astore (lv' := [(6, .ref q9), (0, .ref (eA E 0)), (1, .int p1), (2, .int p2), (3, .int p3), (4, .int p4), (5, .ref o)]) hx hb dL_order_25 hl (by decide) rfl (fun ls hl => ?_)
    refine lv_iconst (v := 3) hx hb dL_order_27 (by decide) ?_
    exact r_wret cx hr hlk hV dL_order_28
  rw [hH, hlocs] at goal
  exact goal
abbrev rm_L_rests : Room := { frames := 8, cells := 0, slots := 0, locals := 138 }
abbrev rmx_L_rests : Room := { frames := 8, cells := 1, slots := 6, locals := 138 }
set_option maxHeartbeats 4000000 in
set_option maxRecDepth 100000 in
theorem w_L_rests {l : Launch} {E : EV} {X : va_W} {σ σf : St} {o : Nat} {f : Nat → Int64} {p1 p2 p3 p4 p5 : Int32} {rv : Int32} (h : x_X9_rests p1 p2 p3 p4 p5 σ = some (.inl (rv, σf))) : CW l yL_rests cL_rests 8 (some .int) [(0, 16, 19, 13)] rm_L_rests [.ref (eA E 0), .int p1, .int p2, .int p3, .int p4, .int p5, .ref o] E (wC E σ ++ ((o, .inl (eJ E, 1, .inr (.inl f))) :: X)) (wC E σf ++ (o, .inl (eJ E, 1, .inr (.inl (vp_updL f 0 (Int32.toInt64 rv))))) :: X) (qI 0) 0 0 := by
  refine CW.start (by decide) (Nat.le_of_ble_eq_true rfl) (fun p e s m a below meth c A ls cx hr hlk htab hV hF hN hl => ?_)
  have cx : CallFix p m c cL_rests 8 s a TBL RL := cx
  have hx := cx.1
  have hb := cx.2.1
  have hl : lv_has ls 8 [(0, .ref (eA E 0)), (1, .int p1), (2, .int p2), (3, .int p3), (4, .int p4), (5, .int p5), (6, .ref o)] := hl
  obtain ⟨H, hH⟩ : ∃ H, H = s.heap := ⟨_, rfl⟩
  obtain ⟨locs, hlocs⟩ : ∃ z, z = ([] : List Loc) := ⟨_, rfl⟩
  have hV : AtW E (wC E σ ++ ((o, .inl (eJ E, 1, .inr (.inl f))) :: X)) A s H locs := by rw [hH, hlocs]; exact hV
  have goal : W p l e rm_L_rests s m a below meth c H locs 0 0 (EQW E (wC E σf ++ (o, .inl (eJ E, 1, .inr (.inl (vp_updL f 0 (Int32.toInt64 rv))))) :: X) (qI 0) A s a below 0 0) (F0 m 0 ls []) := by
    refine lv_aload hx hb dL_rests_0 (lv_at hl 6 rfl) ?_
    refine lv_iconst (v := 0) hx hb dL_rests_2 (by decide) ?_
    refine lv_aload_n hx hb dL_rests_3 rfl (lv_at hl 0 rfl) ?_
    refine lv_iload_n hx hb dL_rests_4 rfl (lv_at hl 1 rfl) ?_
    refine lv_iload_n hx hb dL_rests_5 rfl (lv_at hl 2 rfl) ?_
    refine lv_iload_n hx hb dL_rests_6 rfl (lv_at hl 3 rfl) ?_
    refine lv_iload hx hb dL_rests_7 (lv_at hl 4 rfl) ?_
    refine lv_iload hx hb dL_rests_9 (lv_at hl 5 rfl) ?_
    refine k_X9_rests h cx hV hF mk_6_41 ⟨Nat.le_of_ble_eq_true rfl, Nat.le_of_ble_eq_true rfl⟩ ⟨Nat.zero_le _, Nat.zero_le _⟩ hl.1 (Nat.le_of_ble_eq_true rfl) dL_rests_11 (fun H locs hV => ?_)
    refine lv_i2l (v := Int32.toInt64 rv) hx hb dL_rests_14 rfl ?_
    refine r_last (V' := (wC E σf ++ (o, .inl (eJ E, 1, .inr (.inl (vp_updL f 0 (Int32.toInt64 rv))))) :: X)) cx hV 115 rfl (n := 1) (f := f) (by unfold vp_in; decide) rfl dL_rests_15 (fun H locs hV => ?_)
    refine lv_goto (tgt := 23) hx hb dL_rests_16 (by decide) ?_
    refine lv_iconst (v := 0) hx hb dL_rests_23 (by decide) ?_
    exact r_wret cx hr hlk hV dL_rests_24
  rw [hH, hlocs] at goal
  exact goal
set_option maxHeartbeats 4000000 in
set_option maxRecDepth 100000 in
theorem wt_L_rests_3 {l : Launch} (hT : l.stackTraces = false) {E : EV} {X : va_W} {σ σf : St} {o : Nat} {f : Nat → Int64} {p1 p2 p3 p4 p5 : Int32} (h : x_X9_rests p1 p2 p3 p4 p5 σ = some (.inr (3, σf))) : CW l yL_rests cL_rests 8 (some .int) [(0, 16, 19, 13)] rmx_L_rests [.ref (eA E 0), .int p1, .int p2, .int p3, .int p4, .int p5, .ref o] E (wC E σ ++ ((o, .inl (eJ E, 1, .inr (.inl f))) :: X)) (wC E σf ++ ((o, .inl (eJ E, 1, .inr (.inl f))) :: X)) (qI 1) 1 6 := by
  refine CW.start (by decide) (Nat.le_of_ble_eq_true rfl) (fun p e s m a below meth c A ls cx hr hlk htab hV hF hN hl => ?_)
  have cx : CallFix p m c cL_rests 8 s a TBL RL := cx
  have hx := cx.1
  have hb := cx.2.1
  have hl : lv_has ls 8 [(0, .ref (eA E 0)), (1, .int p1), (2, .int p2), (3, .int p3), (4, .int p4), (5, .int p5), (6, .ref o)] := hl
  obtain ⟨H, hH⟩ : ∃ H, H = s.heap := ⟨_, rfl⟩
  obtain ⟨locs, hlocs⟩ : ∃ z, z = ([] : List Loc) := ⟨_, rfl⟩
  have hV : AtW E (wC E σ ++ ((o, .inl (eJ E, 1, .inr (.inl f))) :: X)) A s H locs := by rw [hH, hlocs]; exact hV
  have goal : W p l e rmx_L_rests s m a below meth c H locs 0 0 (EQW E (wC E σf ++ ((o, .inl (eJ E, 1, .inr (.inl f))) :: X)) (qI 1) A s a below 1 6) (F0 m 0 ls []) := by
    refine lv_aload hx hb dL_rests_0 (lv_at hl 6 rfl) ?_
    refine lv_iconst (v := 0) hx hb dL_rests_2 (by decide) ?_
    refine lv_aload_n hx hb dL_rests_3 rfl (lv_at hl 0 rfl) ?_
    refine lv_iload_n hx hb dL_rests_4 rfl (lv_at hl 1 rfl) ?_
    refine lv_iload_n hx hb dL_rests_5 rfl (lv_at hl 2 rfl) ?_
    refine lv_iload_n hx hb dL_rests_6 rfl (lv_at hl 3 rfl) ?_
    refine lv_iload hx hb dL_rests_7 (lv_at hl 4 rfl) ?_
    refine lv_iload hx hb dL_rests_9 (lv_at hl 5 rfl) ?_
    refine r_wcatch (n := 5) (As := [.int p1, .int p2, .int p3, .int p4, .int p5]) (q0 := 0) (ci := 9) (qq := (RX9, TX9, 14)) (Ex := exN 3) (t_X9_rests hT h) wC_fst rfl rfl mk_6_42 mk_6_43 mk_1_1 mk_6_44 (by decide +kernel) rfl ⟨rfl, rfl⟩ cx hV hF mk_6_41 ⟨Nat.le_of_ble_eq_true rfl, Nat.le_of_ble_eq_true rfl⟩ ⟨Nat.le_of_ble_eq_true rfl, Nat.le_of_ble_eq_true rfl⟩ hl.1 rfl (Nat.le_of_ble_eq_true rfl) dL_rests_11 [] ⟨0, 16, 19, 13⟩ [] htab (fun z hz => by cases hz) (by decide) (by decide) mk_3_173 (List.mem_of_getElem? (i := 2) rfl) (fun q9 H locs hV => ?_)
    refine lv_astore (lv' := [(7, .ref q9), (0, .ref (eA E 0)), (1, .int p1), (2, .int p2), (3, .int p3), (4, .int p4), (5, .int p5), (6, .ref o)]) hx hb dL_rests_19 hl (by decide) rfl (fun ls hl => ?_)
    refine lv_iconst (v := 1) hx hb dL_rests_21 (by decide) ?_
    exact r_wret cx hr hlk hV dL_rests_22
  rw [hH, hlocs] at goal
  exact goal
abbrev rm_L_round : Room := { frames := 8, cells := 0, slots := 0, locals := 193 }
abbrev rmx_L_round : Room := { frames := 8, cells := 1, slots := 6, locals := 193 }
set_option maxHeartbeats 4000000 in
set_option maxRecDepth 100000 in
theorem w_L_round {l : Launch} {E : EV} {X : va_W} {σ σf : St} {o : Nat} {f : Nat → Int64} {p1 : Int32} {rv : Int32} (h : x_X9_round p1 σ = some (.inl (rv, σf))) : CW l yL_round cL_round 4 (some .int) [(0, 9, 12, 13)] rm_L_round [.ref (eA E 0), .int p1, .ref o] E (wC E σ ++ ((o, .inl (eJ E, 1, .inr (.inl f))) :: X)) (wC E σf ++ (o, .inl (eJ E, 1, .inr (.inl (vp_updL f 0 (Int32.toInt64 rv))))) :: X) (qI 0) 0 0 := by
  refine CW.start (by decide) (Nat.le_of_ble_eq_true rfl) (fun p e s m a below meth c A ls cx hr hlk htab hV hF hN hl => ?_)
  have cx : CallFix p m c cL_round 4 s a TBL RL := cx
  have hx := cx.1
  have hb := cx.2.1
  have hl : lv_has ls 4 [(0, .ref (eA E 0)), (1, .int p1), (2, .ref o)] := hl
  obtain ⟨H, hH⟩ : ∃ H, H = s.heap := ⟨_, rfl⟩
  obtain ⟨locs, hlocs⟩ : ∃ z, z = ([] : List Loc) := ⟨_, rfl⟩
  have hV : AtW E (wC E σ ++ ((o, .inl (eJ E, 1, .inr (.inl f))) :: X)) A s H locs := by rw [hH, hlocs]; exact hV
  have goal : W p l e rm_L_round s m a below meth c H locs 0 0 (EQW E (wC E σf ++ (o, .inl (eJ E, 1, .inr (.inl (vp_updL f 0 (Int32.toInt64 rv))))) :: X) (qI 0) A s a below 0 0) (F0 m 0 ls []) := by
    refine lv_aload_n hx hb dL_round_0 rfl (lv_at hl 2 rfl) ?_
    refine lv_iconst (v := 0) hx hb dL_round_1 (by decide) ?_
    refine lv_aload_n hx hb dL_round_2 rfl (lv_at hl 0 rfl) ?_
    refine lv_iload_n hx hb dL_round_3 rfl (lv_at hl 1 rfl) ?_
    refine k_X9_round h cx hV hF mk_5_224 ⟨Nat.le_of_ble_eq_true rfl, Nat.le_of_ble_eq_true rfl⟩ ⟨Nat.zero_le _, Nat.zero_le _⟩ hl.1 (Nat.le_of_ble_eq_true rfl) dL_round_4 (fun H locs hV => ?_)
    refine lv_i2l (v := Int32.toInt64 rv) hx hb dL_round_7 rfl ?_
    refine r_last (V' := (wC E σf ++ (o, .inl (eJ E, 1, .inr (.inl (vp_updL f 0 (Int32.toInt64 rv))))) :: X)) cx hV 115 rfl (n := 1) (f := f) (by unfold vp_in; decide) rfl dL_round_8 (fun H locs hV => ?_)
    refine lv_goto (tgt := 15) hx hb dL_round_9 (by decide) ?_
    refine lv_iconst (v := 0) hx hb dL_round_15 (by decide) ?_
    exact r_wret cx hr hlk hV dL_round_16
  rw [hH, hlocs] at goal
  exact goal
set_option maxHeartbeats 4000000 in
set_option maxRecDepth 100000 in
theorem wt_L_round_3 {l : Launch} (hT : l.stackTraces = false) {E : EV} {X : va_W} {σ σf : St} {o : Nat} {f : Nat → Int64} {p1 : Int32} (h : x_X9_round p1 σ = some (.inr (3, σf))) : CW l yL_round cL_round 4 (some .int) [(0, 9, 12, 13)] rmx_L_round [.ref (eA E 0), .int p1, .ref o] E (wC E σ ++ ((o, .inl (eJ E, 1, .inr (.inl f))) :: X)) (wC E σf ++ ((o, .inl (eJ E, 1, .inr (.inl f))) :: X)) (qI 1) 1 6 := by
  refine CW.start (by decide) (Nat.le_of_ble_eq_true rfl) (fun p e s m a below meth c A ls cx hr hlk htab hV hF hN hl => ?_)
  have cx : CallFix p m c cL_round 4 s a TBL RL := cx
  have hx := cx.1
  have hb := cx.2.1
  have hl : lv_has ls 4 [(0, .ref (eA E 0)), (1, .int p1), (2, .ref o)] := hl
  obtain ⟨H, hH⟩ : ∃ H, H = s.heap := ⟨_, rfl⟩
  obtain ⟨locs, hlocs⟩ : ∃ z, z = ([] : List Loc) := ⟨_, rfl⟩
  have hV : AtW E (wC E σ ++ ((o, .inl (eJ E, 1, .inr (.inl f))) :: X)) A s H locs := by rw [hH, hlocs]; exact hV
  have goal : W p l e rmx_L_round s m a below meth c H locs 0 0 (EQW E (wC E σf ++ ((o, .inl (eJ E, 1, .inr (.inl f))) :: X)) (qI 1) A s a below 1 6) (F0 m 0 ls []) := by
    refine lv_aload_n hx hb dL_round_0 rfl (lv_at hl 2 rfl) ?_
    refine lv_iconst (v := 0) hx hb dL_round_1 (by decide) ?_
    refine lv_aload_n hx hb dL_round_2 rfl (lv_at hl 0 rfl) ?_
    refine lv_iload_n hx hb dL_round_3 rfl (lv_at hl 1 rfl) ?_
    refine r_wcatch (n := 1) (As := [.int p1]) (q0 := 0) (ci := 9) (qq := (RX9, TX9, 14)) (Ex := exN 3) (t_X9_round hT h) wC_fst rfl rfl mk_5_225 mk_5_226 mk_1_1 mk_5_227 (by decide +kernel) rfl ⟨rfl, rfl⟩ cx hV hF mk_5_224 ⟨Nat.le_of_ble_eq_true rfl, Nat.le_of_ble_eq_true rfl⟩ ⟨Nat.le_of_ble_eq_true rfl, Nat.le_of_ble_eq_true rfl⟩ hl.1 rfl (Nat.le_of_ble_eq_true rfl) dL_round_4 [] ⟨0, 9, 12, 13⟩ [] htab (fun z hz => by cases hz) (by decide) (by decide) mk_3_173 (List.mem_of_getElem? (i := 2) rfl) (fun q9 H locs hV => ?_)
    refine lv_astore_n (lv' := [(3, .ref q9), (0, .ref (eA E 0)), (1, .int p1), (2, .ref o)]) hx hb dL_round_12 rfl hl (by decide) rfl (fun ls hl => ?_)
    refine lv_iconst (v := 1) hx hb dL_round_13 (by decide) ?_
    exact r_wret cx hr hlk hV dL_round_14
  rw [hH, hlocs] at goal
  exact goal
abbrev rm_L_row : Room := { frames := 8, cells := 0, slots := 0, locals := 125 }
abbrev rmx_L_row : Room := { frames := 8, cells := 1, slots := 6, locals := 125 }
set_option maxHeartbeats 4000000 in
set_option maxRecDepth 100000 in
theorem w_L_row {l : Launch} {E : EV} {X : va_W} {σ σf : St} {o : Nat} {f : Nat → Int64} {p1 p2 : Int32} {rv : Int32} (h : x_X9_row p1 p2 σ = some (.inl (rv, σf))) : CW l yL_row cL_row 5 (some .int) [(0, 10, 13, 22)] rm_L_row [.ref (eA E 0), .int p1, .int p2, .ref o] E (wC E σ ++ ((o, .inl (eJ E, 1, .inr (.inl f))) :: X)) (wC E σf ++ (o, .inl (eJ E, 1, .inr (.inl (vp_updL f 0 (Int32.toInt64 rv))))) :: X) (qI 0) 0 0 := by
  refine CW.start (by decide) (Nat.le_of_ble_eq_true rfl) (fun p e s m a below meth c A ls cx hr hlk htab hV hF hN hl => ?_)
  have cx : CallFix p m c cL_row 5 s a TBL RL := cx
  have hx := cx.1
  have hb := cx.2.1
  have hl : lv_has ls 5 [(0, .ref (eA E 0)), (1, .int p1), (2, .int p2), (3, .ref o)] := hl
  obtain ⟨H, hH⟩ : ∃ H, H = s.heap := ⟨_, rfl⟩
  obtain ⟨locs, hlocs⟩ : ∃ z, z = ([] : List Loc) := ⟨_, rfl⟩
  have hV : AtW E (wC E σ ++ ((o, .inl (eJ E, 1, .inr (.inl f))) :: X)) A s H locs := by rw [hH, hlocs]; exact hV
  have goal : W p l e rm_L_row s m a below meth c H locs 0 0 (EQW E (wC E σf ++ (o, .inl (eJ E, 1, .inr (.inl (vp_updL f 0 (Int32.toInt64 rv))))) :: X) (qI 0) A s a below 0 0) (F0 m 0 ls []) := by
    refine lv_aload_n hx hb dL_row_0 rfl (lv_at hl 3 rfl) ?_
    refine lv_iconst (v := 0) hx hb dL_row_1 (by decide) ?_
    refine lv_aload_n hx hb dL_row_2 rfl (lv_at hl 0 rfl) ?_
    refine lv_iload_n hx hb dL_row_3 rfl (lv_at hl 1 rfl) ?_
    refine lv_iload_n hx hb dL_row_4 rfl (lv_at hl 2 rfl) ?_
    refine k_X9_row h cx hV hF mk_4_221 ⟨Nat.le_of_ble_eq_true rfl, Nat.le_of_ble_eq_true rfl⟩ ⟨Nat.zero_le _, Nat.zero_le _⟩ hl.1 (Nat.le_of_ble_eq_true rfl) dL_row_5 (fun H locs hV => ?_)
    refine lv_i2l (v := Int32.toInt64 rv) hx hb dL_row_8 rfl ?_
    refine r_last (V' := (wC E σf ++ (o, .inl (eJ E, 1, .inr (.inl (vp_updL f 0 (Int32.toInt64 rv))))) :: X)) cx hV 115 rfl (n := 1) (f := f) (by unfold vp_in; decide) rfl dL_row_9 (fun H locs hV => ?_)
    refine lv_goto (tgt := 17) hx hb dL_row_10 (by decide) ?_
    refine lv_iconst (v := 0) hx hb dL_row_17 (by decide) ?_
    exact r_wret cx hr hlk hV dL_row_18
  rw [hH, hlocs] at goal
  exact goal
set_option maxHeartbeats 4000000 in
set_option maxRecDepth 100000 in
theorem wt_L_row_1 {l : Launch} (hT : l.stackTraces = false) {E : EV} {X : va_W} {σ σf : St} {o : Nat} {f : Nat → Int64} {p1 p2 : Int32} (h : x_X9_row p1 p2 σ = some (.inr (1, σf))) : CW l yL_row cL_row 5 (some .int) [(0, 10, 13, 22)] rmx_L_row [.ref (eA E 0), .int p1, .int p2, .ref o] E (wC E σ ++ ((o, .inl (eJ E, 1, .inr (.inl f))) :: X)) (wC E σf ++ ((o, .inl (eJ E, 1, .inr (.inl f))) :: X)) (qI 1) 1 6 := by
  refine CW.start (by decide) (Nat.le_of_ble_eq_true rfl) (fun p e s m a below meth c A ls cx hr hlk htab hV hF hN hl => ?_)
  have cx : CallFix p m c cL_row 5 s a TBL RL := cx
  have hx := cx.1
  have hb := cx.2.1
  have hl : lv_has ls 5 [(0, .ref (eA E 0)), (1, .int p1), (2, .int p2), (3, .ref o)] := hl
  obtain ⟨H, hH⟩ : ∃ H, H = s.heap := ⟨_, rfl⟩
  obtain ⟨locs, hlocs⟩ : ∃ z, z = ([] : List Loc) := ⟨_, rfl⟩
  have hV : AtW E (wC E σ ++ ((o, .inl (eJ E, 1, .inr (.inl f))) :: X)) A s H locs := by rw [hH, hlocs]; exact hV
  have goal : W p l e rmx_L_row s m a below meth c H locs 0 0 (EQW E (wC E σf ++ ((o, .inl (eJ E, 1, .inr (.inl f))) :: X)) (qI 1) A s a below 1 6) (F0 m 0 ls []) := by
    refine lv_aload_n hx hb dL_row_0 rfl (lv_at hl 3 rfl) ?_
    refine lv_iconst (v := 0) hx hb dL_row_1 (by decide) ?_
    refine lv_aload_n hx hb dL_row_2 rfl (lv_at hl 0 rfl) ?_
    refine lv_iload_n hx hb dL_row_3 rfl (lv_at hl 1 rfl) ?_
    refine lv_iload_n hx hb dL_row_4 rfl (lv_at hl 2 rfl) ?_
    refine r_wcatch (n := 2) (As := [.int p1, .int p2]) (q0 := 0) (ci := 9) (qq := (RX9, TX9, 14)) (Ex := exN 1) (t_X9_row hT h) wC_fst rfl rfl mk_4_222 mk_4_223 mk_1_1 mk_4_224 (by decide +kernel) rfl ⟨rfl, rfl⟩ cx hV hF mk_4_221 ⟨Nat.le_of_ble_eq_true rfl, Nat.le_of_ble_eq_true rfl⟩ ⟨Nat.le_of_ble_eq_true rfl, Nat.le_of_ble_eq_true rfl⟩ hl.1 rfl (Nat.le_of_ble_eq_true rfl) dL_row_5 [] ⟨0, 10, 13, 22⟩ [] htab (fun z hz => by cases hz) (by decide) (by decide) mk_4_192 (List.mem_of_getElem? (i := 0) rfl) (fun q9 H locs hV => ?_)
    refine lv_astore (lv' := [(4, .ref q9), (0, .ref (eA E 0)), (1, .int p1), (2, .int p2), (3, .ref o)]) hx hb dL_row_13 hl (by decide) rfl (fun ls hl => ?_)
    refine lv_iconst (v := 1) hx hb dL_row_15 (by decide) ?_
    exact r_wret cx hr hlk hV dL_row_16
  rw [hH, hlocs] at goal
  exact goal
abbrev rm_L_shop : Room := { frames := 9, cells := 0, slots := 0, locals := 197 }
abbrev rmx_L_shop : Room := { frames := 9, cells := 1, slots := 6, locals := 197 }
set_option maxHeartbeats 4000000 in
set_option maxRecDepth 100000 in
theorem w_L_shop {l : Launch} {E : EV} {X : va_W} {σ σf : St} {o : Nat} {f : Nat → Int64} {p1 : Int32} {rv : Int32} (h : x_X9_shop p1 σ = some (.inl (rv, σf))) : CW l yL_shop cL_shop 4 (some .int) [(0, 9, 12, 13)] rm_L_shop [.ref (eA E 0), .int p1, .ref o] E (wC E σ ++ ((o, .inl (eJ E, 1, .inr (.inl f))) :: X)) (wC E σf ++ (o, .inl (eJ E, 1, .inr (.inl (vp_updL f 0 (Int32.toInt64 rv))))) :: X) (qI 0) 0 0 := by
  refine CW.start (by decide) (Nat.le_of_ble_eq_true rfl) (fun p e s m a below meth c A ls cx hr hlk htab hV hF hN hl => ?_)
  have cx : CallFix p m c cL_shop 4 s a TBL RL := cx
  have hx := cx.1
  have hb := cx.2.1
  have hl : lv_has ls 4 [(0, .ref (eA E 0)), (1, .int p1), (2, .ref o)] := hl
  obtain ⟨H, hH⟩ : ∃ H, H = s.heap := ⟨_, rfl⟩
  obtain ⟨locs, hlocs⟩ : ∃ z, z = ([] : List Loc) := ⟨_, rfl⟩
  have hV : AtW E (wC E σ ++ ((o, .inl (eJ E, 1, .inr (.inl f))) :: X)) A s H locs := by rw [hH, hlocs]; exact hV
  have goal : W p l e rm_L_shop s m a below meth c H locs 0 0 (EQW E (wC E σf ++ (o, .inl (eJ E, 1, .inr (.inl (vp_updL f 0 (Int32.toInt64 rv))))) :: X) (qI 0) A s a below 0 0) (F0 m 0 ls []) := by
    refine lv_aload_n hx hb dL_shop_0 rfl (lv_at hl 2 rfl) ?_
    refine lv_iconst (v := 0) hx hb dL_shop_1 (by decide) ?_
    refine lv_aload_n hx hb dL_shop_2 rfl (lv_at hl 0 rfl) ?_
    refine lv_iload_n hx hb dL_shop_3 rfl (lv_at hl 1 rfl) ?_
    refine k_X9_shop h cx hV hF mk_3_174 ⟨Nat.le_of_ble_eq_true rfl, Nat.le_of_ble_eq_true rfl⟩ ⟨Nat.zero_le _, Nat.zero_le _⟩ hl.1 (Nat.le_of_ble_eq_true rfl) dL_shop_4 (fun H locs hV => ?_)
    refine lv_i2l (v := Int32.toInt64 rv) hx hb dL_shop_7 rfl ?_
    refine r_last (V' := (wC E σf ++ (o, .inl (eJ E, 1, .inr (.inl (vp_updL f 0 (Int32.toInt64 rv))))) :: X)) cx hV 115 rfl (n := 1) (f := f) (by unfold vp_in; decide) rfl dL_shop_8 (fun H locs hV => ?_)
    refine lv_goto (tgt := 15) hx hb dL_shop_9 (by decide) ?_
    refine lv_iconst (v := 0) hx hb dL_shop_15 (by decide) ?_
    exact r_wret cx hr hlk hV dL_shop_16
  rw [hH, hlocs] at goal
  exact goal
set_option maxHeartbeats 4000000 in
set_option maxRecDepth 100000 in
theorem wt_L_shop_3 {l : Launch} (hT : l.stackTraces = false) {E : EV} {X : va_W} {σ σf : St} {o : Nat} {f : Nat → Int64} {p1 : Int32} (h : x_X9_shop p1 σ = some (.inr (3, σf))) : CW l yL_shop cL_shop 4 (some .int) [(0, 9, 12, 13)] rmx_L_shop [.ref (eA E 0), .int p1, .ref o] E (wC E σ ++ ((o, .inl (eJ E, 1, .inr (.inl f))) :: X)) (wC E σf ++ ((o, .inl (eJ E, 1, .inr (.inl f))) :: X)) (qI 1) 1 6 := by
  refine CW.start (by decide) (Nat.le_of_ble_eq_true rfl) (fun p e s m a below meth c A ls cx hr hlk htab hV hF hN hl => ?_)
  have cx : CallFix p m c cL_shop 4 s a TBL RL := cx
  have hx := cx.1
  have hb := cx.2.1
  have hl : lv_has ls 4 [(0, .ref (eA E 0)), (1, .int p1), (2, .ref o)] := hl
  obtain ⟨H, hH⟩ : ∃ H, H = s.heap := ⟨_, rfl⟩
  obtain ⟨locs, hlocs⟩ : ∃ z, z = ([] : List Loc) := ⟨_, rfl⟩
  have hV : AtW E (wC E σ ++ ((o, .inl (eJ E, 1, .inr (.inl f))) :: X)) A s H locs := by rw [hH, hlocs]; exact hV
  have goal : W p l e rmx_L_shop s m a below meth c H locs 0 0 (EQW E (wC E σf ++ ((o, .inl (eJ E, 1, .inr (.inl f))) :: X)) (qI 1) A s a below 1 6) (F0 m 0 ls []) := by
    refine lv_aload_n hx hb dL_shop_0 rfl (lv_at hl 2 rfl) ?_
    refine lv_iconst (v := 0) hx hb dL_shop_1 (by decide) ?_
    refine lv_aload_n hx hb dL_shop_2 rfl (lv_at hl 0 rfl) ?_
    refine lv_iload_n hx hb dL_shop_3 rfl (lv_at hl 1 rfl) ?_
    refine r_wcatch (n := 1) (As := [.int p1]) (q0 := 0) (ci := 9) (qq := (RX9, TX9, 14)) (Ex := exN 3) (t_X9_shop hT h) wC_fst rfl rfl mk_3_175 mk_3_176 mk_1_1 mk_3_177 (by decide +kernel) rfl ⟨rfl, rfl⟩ cx hV hF mk_3_174 ⟨Nat.le_of_ble_eq_true rfl, Nat.le_of_ble_eq_true rfl⟩ ⟨Nat.le_of_ble_eq_true rfl, Nat.le_of_ble_eq_true rfl⟩ hl.1 rfl (Nat.le_of_ble_eq_true rfl) dL_shop_4 [] ⟨0, 9, 12, 13⟩ [] htab (fun z hz => by cases hz) (by decide) (by decide) mk_3_173 (List.mem_of_getElem? (i := 2) rfl) (fun q9 H locs hV => ?_)
    refine lv_astore_n (lv' := [(3, .ref q9), (0, .ref (eA E 0)), (1, .int p1), (2, .ref o)]) hx hb dL_shop_12 rfl hl (by decide) rfl (fun ls hl => ?_)
    refine lv_iconst (v := 1) hx hb dL_shop_13 (by decide) ?_
    exact r_wret cx hr hlk hV dL_shop_14
  rw [hH, hlocs] at goal
  exact goal
abbrev rm_L_sleeve : Room := { frames := 8, cells := 0, slots := 0, locals := 125 }
abbrev rmx_L_sleeve : Room := { frames := 8, cells := 1, slots := 6, locals := 125 }
set_option maxHeartbeats 4000000 in
set_option maxRecDepth 100000 in
theorem w_L_sleeve {l : Launch} {E : EV} {X : va_W} {σ σf : St} {o : Nat} {f : Nat → Int64} {p1 p2 : Int32} {rv : Int32} (h : x_X9_sleeve p1 p2 σ = some (.inl (rv, σf))) : CW l yL_sleeve cL_sleeve 5 (some .int) [(0, 10, 13, 30), (0, 10, 17, 13)] rm_L_sleeve [.ref (eA E 0), .int p1, .int p2, .ref o] E (wC E σ ++ ((o, .inl (eJ E, 1, .inr (.inl f))) :: X)) (wC E σf ++ (o, .inl (eJ E, 1, .inr (.inl (vp_updL f 0 (Int32.toInt64 rv))))) :: X) (qI 0) 0 0 := by
  refine CW.start (by decide) (Nat.le_of_ble_eq_true rfl) (fun p e s m a below meth c A ls cx hr hlk htab hV hF hN hl => ?_)
  have cx : CallFix p m c cL_sleeve 5 s a TBL RL := cx
  have hx := cx.1
  have hb := cx.2.1
  have hl : lv_has ls 5 [(0, .ref (eA E 0)), (1, .int p1), (2, .int p2), (3, .ref o)] := hl
  obtain ⟨H, hH⟩ : ∃ H, H = s.heap := ⟨_, rfl⟩
  obtain ⟨locs, hlocs⟩ : ∃ z, z = ([] : List Loc) := ⟨_, rfl⟩
  have hV : AtW E (wC E σ ++ ((o, .inl (eJ E, 1, .inr (.inl f))) :: X)) A s H locs := by rw [hH, hlocs]; exact hV
  have goal : W p l e rm_L_sleeve s m a below meth c H locs 0 0 (EQW E (wC E σf ++ (o, .inl (eJ E, 1, .inr (.inl (vp_updL f 0 (Int32.toInt64 rv))))) :: X) (qI 0) A s a below 0 0) (F0 m 0 ls []) := by
    refine lv_aload_n hx hb dL_sleeve_0 rfl (lv_at hl 3 rfl) ?_
    refine lv_iconst (v := 0) hx hb dL_sleeve_1 (by decide) ?_
    refine lv_aload_n hx hb dL_sleeve_2 rfl (lv_at hl 0 rfl) ?_
    refine lv_iload_n hx hb dL_sleeve_3 rfl (lv_at hl 1 rfl) ?_
    refine lv_iload_n hx hb dL_sleeve_4 rfl (lv_at hl 2 rfl) ?_
    refine k_X9_sleeve h cx hV hF mk_4_233 ⟨Nat.le_of_ble_eq_true rfl, Nat.le_of_ble_eq_true rfl⟩ ⟨Nat.zero_le _, Nat.zero_le _⟩ hl.1 (Nat.le_of_ble_eq_true rfl) dL_sleeve_5 (fun H locs hV => ?_)
    refine lv_i2l (v := Int32.toInt64 rv) hx hb dL_sleeve_8 rfl ?_
    refine r_last (V' := (wC E σf ++ (o, .inl (eJ E, 1, .inr (.inl (vp_updL f 0 (Int32.toInt64 rv))))) :: X)) cx hV 115 rfl (n := 1) (f := f) (by unfold vp_in; decide) rfl dL_sleeve_9 (fun H locs hV => ?_)
    refine lv_goto (tgt := 21) hx hb dL_sleeve_10 (by decide) ?_
    refine lv_iconst (v := 0) hx hb dL_sleeve_21 (by decide) ?_
    exact r_wret cx hr hlk hV dL_sleeve_22
  rw [hH, hlocs] at goal
  exact goal
set_option maxHeartbeats 4000000 in
set_option maxRecDepth 100000 in
theorem wt_L_sleeve_2 {l : Launch} (hT : l.stackTraces = false) {E : EV} {X : va_W} {σ σf : St} {o : Nat} {f : Nat → Int64} {p1 p2 : Int32} (h : x_X9_sleeve p1 p2 σ = some (.inr (2, σf))) : CW l yL_sleeve cL_sleeve 5 (some .int) [(0, 10, 13, 30), (0, 10, 17, 13)] rmx_L_sleeve [.ref (eA E 0), .int p1, .int p2, .ref o] E (wC E σ ++ ((o, .inl (eJ E, 1, .inr (.inl f))) :: X)) (wC E σf ++ ((o, .inl (eJ E, 1, .inr (.inl f))) :: X)) (qI 1) 1 6 := by
  refine CW.start (by decide) (Nat.le_of_ble_eq_true rfl) (fun p e s m a below meth c A ls cx hr hlk htab hV hF hN hl => ?_)
  have cx : CallFix p m c cL_sleeve 5 s a TBL RL := cx
  have hx := cx.1
  have hb := cx.2.1
  have hl : lv_has ls 5 [(0, .ref (eA E 0)), (1, .int p1), (2, .int p2), (3, .ref o)] := hl
  obtain ⟨H, hH⟩ : ∃ H, H = s.heap := ⟨_, rfl⟩
  obtain ⟨locs, hlocs⟩ : ∃ z, z = ([] : List Loc) := ⟨_, rfl⟩
  have hV : AtW E (wC E σ ++ ((o, .inl (eJ E, 1, .inr (.inl f))) :: X)) A s H locs := by rw [hH, hlocs]; exact hV
  have goal : W p l e rmx_L_sleeve s m a below meth c H locs 0 0 (EQW E (wC E σf ++ ((o, .inl (eJ E, 1, .inr (.inl f))) :: X)) (qI 1) A s a below 1 6) (F0 m 0 ls []) := by
    refine lv_aload_n hx hb dL_sleeve_0 rfl (lv_at hl 3 rfl) ?_
    refine lv_iconst (v := 0) hx hb dL_sleeve_1 (by decide) ?_
    refine lv_aload_n hx hb dL_sleeve_2 rfl (lv_at hl 0 rfl) ?_
    refine lv_iload_n hx hb dL_sleeve_3 rfl (lv_at hl 1 rfl) ?_
    refine lv_iload_n hx hb dL_sleeve_4 rfl (lv_at hl 2 rfl) ?_
    refine r_wcatch (n := 2) (As := [.int p1, .int p2]) (q0 := 0) (ci := 9) (qq := (RX9, TX9, 14)) (Ex := exN 2) (t_X9_sleeve hT h) wC_fst rfl rfl mk_4_234 mk_4_235 mk_1_1 mk_4_236 (by decide +kernel) rfl ⟨rfl, rfl⟩ cx hV hF mk_4_233 ⟨Nat.le_of_ble_eq_true rfl, Nat.le_of_ble_eq_true rfl⟩ ⟨Nat.le_of_ble_eq_true rfl, Nat.le_of_ble_eq_true rfl⟩ hl.1 rfl (Nat.le_of_ble_eq_true rfl) dL_sleeve_5 [] ⟨0, 10, 13, 30⟩ [⟨0, 10, 17, 13⟩] htab (fun z hz => by cases hz) (by decide) (by decide) mk_4_232 (List.mem_of_getElem? (i := 1) rfl) (fun q9 H locs hV => ?_)
    refine lv_astore (lv' := [(4, .ref q9), (0, .ref (eA E 0)), (1, .int p1), (2, .int p2), (3, .ref o)]) hx hb dL_sleeve_13 hl (by decide) rfl (fun ls hl => ?_)
    refine lv_iconst (v := 1) hx hb dL_sleeve_15 (by decide) ?_
    exact r_wret cx hr hlk hV dL_sleeve_16
  rw [hH, hlocs] at goal
  exact goal
set_option maxHeartbeats 4000000 in
set_option maxRecDepth 100000 in
theorem wt_L_sleeve_3 {l : Launch} (hT : l.stackTraces = false) {E : EV} {X : va_W} {σ σf : St} {o : Nat} {f : Nat → Int64} {p1 p2 : Int32} (h : x_X9_sleeve p1 p2 σ = some (.inr (3, σf))) : CW l yL_sleeve cL_sleeve 5 (some .int) [(0, 10, 13, 30), (0, 10, 17, 13)] rmx_L_sleeve [.ref (eA E 0), .int p1, .int p2, .ref o] E (wC E σ ++ ((o, .inl (eJ E, 1, .inr (.inl f))) :: X)) (wC E σf ++ ((o, .inl (eJ E, 1, .inr (.inl f))) :: X)) (qI 2) 1 6 := by
  refine CW.start (by decide) (Nat.le_of_ble_eq_true rfl) (fun p e s m a below meth c A ls cx hr hlk htab hV hF hN hl => ?_)
  have cx : CallFix p m c cL_sleeve 5 s a TBL RL := cx
  have hx := cx.1
  have hb := cx.2.1
  have hl : lv_has ls 5 [(0, .ref (eA E 0)), (1, .int p1), (2, .int p2), (3, .ref o)] := hl
  obtain ⟨H, hH⟩ : ∃ H, H = s.heap := ⟨_, rfl⟩
  obtain ⟨locs, hlocs⟩ : ∃ z, z = ([] : List Loc) := ⟨_, rfl⟩
  have hV : AtW E (wC E σ ++ ((o, .inl (eJ E, 1, .inr (.inl f))) :: X)) A s H locs := by rw [hH, hlocs]; exact hV
  have goal : W p l e rmx_L_sleeve s m a below meth c H locs 0 0 (EQW E (wC E σf ++ ((o, .inl (eJ E, 1, .inr (.inl f))) :: X)) (qI 2) A s a below 1 6) (F0 m 0 ls []) := by
    refine lv_aload_n hx hb dL_sleeve_0 rfl (lv_at hl 3 rfl) ?_
    refine lv_iconst (v := 0) hx hb dL_sleeve_1 (by decide) ?_
    refine lv_aload_n hx hb dL_sleeve_2 rfl (lv_at hl 0 rfl) ?_
    refine lv_iload_n hx hb dL_sleeve_3 rfl (lv_at hl 1 rfl) ?_
    refine lv_iload_n hx hb dL_sleeve_4 rfl (lv_at hl 2 rfl) ?_
    refine r_wcatch (n := 2) (As := [.int p1, .int p2]) (q0 := 0) (ci := 9) (qq := (RX9, TX9, 14)) (Ex := exN 3) (t_X9_sleeve hT h) wC_fst rfl rfl mk_4_234 mk_4_235 mk_1_1 mk_4_236 (by decide +kernel) rfl ⟨rfl, rfl⟩ cx hV hF mk_4_233 ⟨Nat.le_of_ble_eq_true rfl, Nat.le_of_ble_eq_true rfl⟩ ⟨Nat.le_of_ble_eq_true rfl, Nat.le_of_ble_eq_true rfl⟩ hl.1 rfl (Nat.le_of_ble_eq_true rfl) dL_sleeve_5 [⟨0, 10, 13, 30⟩] ⟨0, 10, 17, 13⟩ [] htab (fun z hz => by
      simp only [List.mem_cons, List.not_mem_nil, or_false] at hz
      rcases hz with rfl
      · exact Or.inr ⟨(by decide), _, mk_4_232, NC_at hN 2 1 (by decide) (by decide) (by decide)⟩) (by decide) (by decide) mk_3_173 (List.mem_of_getElem? (i := 2) rfl) (fun q9 H locs hV => ?_)
    refine lv_astore (lv' := [(4, .ref q9), (0, .ref (eA E 0)), (1, .int p1), (2, .int p2), (3, .ref o)]) hx hb dL_sleeve_17 hl (by decide) rfl (fun ls hl => ?_)
    refine lv_iconst (v := 2) hx hb dL_sleeve_19 (by decide) ?_
    exact r_wret cx hr hlk hV dL_sleeve_20
  rw [hH, hlocs] at goal
  exact goal
abbrev rm_L_then : Room := { frames := 8, cells := 0, slots := 0, locals := 190 }
abbrev rmx_L_then : Room := { frames := 8, cells := 1, slots := 6, locals := 190 }
set_option maxHeartbeats 4000000 in
set_option maxRecDepth 100000 in
theorem w_L_then {l : Launch} {E : EV} {X : va_W} {σ σf : St} {o : Nat} {f : Nat → Int64} {p1 p2 : Int32} {rv : Int32} (h : x_X9_then p1 p2 σ = some (.inl (rv, σf))) : CW l yL_then cL_then 5 (some .int) [(0, 10, 13, 30)] rm_L_then [.ref (eA E 0), .int p1, .int p2, .ref o] E (wC E σ ++ ((o, .inl (eJ E, 1, .inr (.inl f))) :: X)) (wC E σf ++ (o, .inl (eJ E, 1, .inr (.inl (vp_updL f 0 (Int32.toInt64 rv))))) :: X) (qI 0) 0 0 := by
  refine CW.start (by decide) (Nat.le_of_ble_eq_true rfl) (fun p e s m a below meth c A ls cx hr hlk htab hV hF hN hl => ?_)
  have cx : CallFix p m c cL_then 5 s a TBL RL := cx
  have hx := cx.1
  have hb := cx.2.1
  have hl : lv_has ls 5 [(0, .ref (eA E 0)), (1, .int p1), (2, .int p2), (3, .ref o)] := hl
  obtain ⟨H, hH⟩ : ∃ H, H = s.heap := ⟨_, rfl⟩
  obtain ⟨locs, hlocs⟩ : ∃ z, z = ([] : List Loc) := ⟨_, rfl⟩
  have hV : AtW E (wC E σ ++ ((o, .inl (eJ E, 1, .inr (.inl f))) :: X)) A s H locs := by rw [hH, hlocs]; exact hV
  have goal : W p l e rm_L_then s m a below meth c H locs 0 0 (EQW E (wC E σf ++ (o, .inl (eJ E, 1, .inr (.inl (vp_updL f 0 (Int32.toInt64 rv))))) :: X) (qI 0) A s a below 0 0) (F0 m 0 ls []) := by
    refine lv_aload_n hx hb dL_then_0 rfl (lv_at hl 3 rfl) ?_
    refine lv_iconst (v := 0) hx hb dL_then_1 (by decide) ?_
    refine lv_aload_n hx hb dL_then_2 rfl (lv_at hl 0 rfl) ?_
    refine lv_iload_n hx hb dL_then_3 rfl (lv_at hl 1 rfl) ?_
    refine lv_iload_n hx hb dL_then_4 rfl (lv_at hl 2 rfl) ?_
    refine k_X9_then h cx hV hF mk_5_112 ⟨Nat.le_of_ble_eq_true rfl, Nat.le_of_ble_eq_true rfl⟩ ⟨Nat.zero_le _, Nat.zero_le _⟩ hl.1 (Nat.le_of_ble_eq_true rfl) dL_then_5 (fun H locs hV => ?_)
    refine lv_i2l (v := Int32.toInt64 rv) hx hb dL_then_8 rfl ?_
    refine r_last (V' := (wC E σf ++ (o, .inl (eJ E, 1, .inr (.inl (vp_updL f 0 (Int32.toInt64 rv))))) :: X)) cx hV 115 rfl (n := 1) (f := f) (by unfold vp_in; decide) rfl dL_then_9 (fun H locs hV => ?_)
    refine lv_goto (tgt := 17) hx hb dL_then_10 (by decide) ?_
    refine lv_iconst (v := 0) hx hb dL_then_17 (by decide) ?_
    exact r_wret cx hr hlk hV dL_then_18
  rw [hH, hlocs] at goal
  exact goal
set_option maxHeartbeats 4000000 in
set_option maxRecDepth 100000 in
theorem wt_L_then_2 {l : Launch} (hT : l.stackTraces = false) {E : EV} {X : va_W} {σ σf : St} {o : Nat} {f : Nat → Int64} {p1 p2 : Int32} (h : x_X9_then p1 p2 σ = some (.inr (2, σf))) : CW l yL_then cL_then 5 (some .int) [(0, 10, 13, 30)] rmx_L_then [.ref (eA E 0), .int p1, .int p2, .ref o] E (wC E σ ++ ((o, .inl (eJ E, 1, .inr (.inl f))) :: X)) (wC E σf ++ ((o, .inl (eJ E, 1, .inr (.inl f))) :: X)) (qI 1) 1 6 := by
  refine CW.start (by decide) (Nat.le_of_ble_eq_true rfl) (fun p e s m a below meth c A ls cx hr hlk htab hV hF hN hl => ?_)
  have cx : CallFix p m c cL_then 5 s a TBL RL := cx
  have hx := cx.1
  have hb := cx.2.1
  have hl : lv_has ls 5 [(0, .ref (eA E 0)), (1, .int p1), (2, .int p2), (3, .ref o)] := hl
  obtain ⟨H, hH⟩ : ∃ H, H = s.heap := ⟨_, rfl⟩
  obtain ⟨locs, hlocs⟩ : ∃ z, z = ([] : List Loc) := ⟨_, rfl⟩
  have hV : AtW E (wC E σ ++ ((o, .inl (eJ E, 1, .inr (.inl f))) :: X)) A s H locs := by rw [hH, hlocs]; exact hV
  have goal : W p l e rmx_L_then s m a below meth c H locs 0 0 (EQW E (wC E σf ++ ((o, .inl (eJ E, 1, .inr (.inl f))) :: X)) (qI 1) A s a below 1 6) (F0 m 0 ls []) := by
    refine lv_aload_n hx hb dL_then_0 rfl (lv_at hl 3 rfl) ?_
    refine lv_iconst (v := 0) hx hb dL_then_1 (by decide) ?_
    refine lv_aload_n hx hb dL_then_2 rfl (lv_at hl 0 rfl) ?_
    refine lv_iload_n hx hb dL_then_3 rfl (lv_at hl 1 rfl) ?_
    refine lv_iload_n hx hb dL_then_4 rfl (lv_at hl 2 rfl) ?_
    refine r_wcatch (n := 2) (As := [.int p1, .int p2]) (q0 := 0) (ci := 9) (qq := (RX9, TX9, 14)) (Ex := exN 2) (t_X9_then hT h) wC_fst rfl rfl mk_5_113 mk_5_114 mk_1_1 mk_5_115 (by decide +kernel) rfl ⟨rfl, rfl⟩ cx hV hF mk_5_112 ⟨Nat.le_of_ble_eq_true rfl, Nat.le_of_ble_eq_true rfl⟩ ⟨Nat.le_of_ble_eq_true rfl, Nat.le_of_ble_eq_true rfl⟩ hl.1 rfl (Nat.le_of_ble_eq_true rfl) dL_then_5 [] ⟨0, 10, 13, 30⟩ [] htab (fun z hz => by cases hz) (by decide) (by decide) mk_4_232 (List.mem_of_getElem? (i := 1) rfl) (fun q9 H locs hV => ?_)
    refine lv_astore (lv' := [(4, .ref q9), (0, .ref (eA E 0)), (1, .int p1), (2, .int p2), (3, .ref o)]) hx hb dL_then_13 hl (by decide) rfl (fun ls hl => ?_)
    refine lv_iconst (v := 1) hx hb dL_then_15 (by decide) ?_
    exact r_wret cx hr hlk hV dL_then_16
  rw [hH, hlocs] at goal
  exact goal
abbrev rm_L_told : Room := { frames := 8, cells := 0, slots := 0, locals := 124 }
abbrev rmx_L_told : Room := { frames := 8, cells := 1, slots := 6, locals := 124 }
set_option maxHeartbeats 4000000 in
set_option maxRecDepth 100000 in
theorem w_L_told {l : Launch} {E : EV} {X : va_W} {σ σf : St} {o : Nat} {f : Nat → Int64} {p1 : Int32} {rv : Int32} (h : x_X9_told p1 σ = some (.inl (rv, σf))) : CW l yL_told cL_told 4 (some .int) [(0, 9, 12, 13)] rm_L_told [.ref (eA E 0), .int p1, .ref o] E (wC E σ ++ ((o, .inl (eJ E, 1, .inr (.inl f))) :: X)) (wC E σf ++ (o, .inl (eJ E, 1, .inr (.inl (vp_updL f 0 (Int32.toInt64 rv))))) :: X) (qI 0) 0 0 := by
  refine CW.start (by decide) (Nat.le_of_ble_eq_true rfl) (fun p e s m a below meth c A ls cx hr hlk htab hV hF hN hl => ?_)
  have cx : CallFix p m c cL_told 4 s a TBL RL := cx
  have hx := cx.1
  have hb := cx.2.1
  have hl : lv_has ls 4 [(0, .ref (eA E 0)), (1, .int p1), (2, .ref o)] := hl
  obtain ⟨H, hH⟩ : ∃ H, H = s.heap := ⟨_, rfl⟩
  obtain ⟨locs, hlocs⟩ : ∃ z, z = ([] : List Loc) := ⟨_, rfl⟩
  have hV : AtW E (wC E σ ++ ((o, .inl (eJ E, 1, .inr (.inl f))) :: X)) A s H locs := by rw [hH, hlocs]; exact hV
  have goal : W p l e rm_L_told s m a below meth c H locs 0 0 (EQW E (wC E σf ++ (o, .inl (eJ E, 1, .inr (.inl (vp_updL f 0 (Int32.toInt64 rv))))) :: X) (qI 0) A s a below 0 0) (F0 m 0 ls []) := by
    refine lv_aload_n hx hb dL_told_0 rfl (lv_at hl 2 rfl) ?_
    refine lv_iconst (v := 0) hx hb dL_told_1 (by decide) ?_
    refine lv_aload_n hx hb dL_told_2 rfl (lv_at hl 0 rfl) ?_
    refine lv_iload_n hx hb dL_told_3 rfl (lv_at hl 1 rfl) ?_
    refine k_X9_told h cx hV hF mk_4_185 ⟨Nat.le_of_ble_eq_true rfl, Nat.le_of_ble_eq_true rfl⟩ ⟨Nat.zero_le _, Nat.zero_le _⟩ hl.1 (Nat.le_of_ble_eq_true rfl) dL_told_4 (fun H locs hV => ?_)
    refine lv_i2l (v := Int32.toInt64 rv) hx hb dL_told_7 rfl ?_
    refine r_last (V' := (wC E σf ++ (o, .inl (eJ E, 1, .inr (.inl (vp_updL f 0 (Int32.toInt64 rv))))) :: X)) cx hV 115 rfl (n := 1) (f := f) (by unfold vp_in; decide) rfl dL_told_8 (fun H locs hV => ?_)
    refine lv_goto (tgt := 15) hx hb dL_told_9 (by decide) ?_
    refine lv_iconst (v := 0) hx hb dL_told_15 (by decide) ?_
    exact r_wret cx hr hlk hV dL_told_16
  rw [hH, hlocs] at goal
  exact goal
set_option maxHeartbeats 4000000 in
set_option maxRecDepth 100000 in
theorem wt_L_told_3 {l : Launch} (hT : l.stackTraces = false) {E : EV} {X : va_W} {σ σf : St} {o : Nat} {f : Nat → Int64} {p1 : Int32} (h : x_X9_told p1 σ = some (.inr (3, σf))) : CW l yL_told cL_told 4 (some .int) [(0, 9, 12, 13)] rmx_L_told [.ref (eA E 0), .int p1, .ref o] E (wC E σ ++ ((o, .inl (eJ E, 1, .inr (.inl f))) :: X)) (wC E σf ++ ((o, .inl (eJ E, 1, .inr (.inl f))) :: X)) (qI 1) 1 6 := by
  refine CW.start (by decide) (Nat.le_of_ble_eq_true rfl) (fun p e s m a below meth c A ls cx hr hlk htab hV hF hN hl => ?_)
  have cx : CallFix p m c cL_told 4 s a TBL RL := cx
  have hx := cx.1
  have hb := cx.2.1
  have hl : lv_has ls 4 [(0, .ref (eA E 0)), (1, .int p1), (2, .ref o)] := hl
  obtain ⟨H, hH⟩ : ∃ H, H = s.heap := ⟨_, rfl⟩
  obtain ⟨locs, hlocs⟩ : ∃ z, z = ([] : List Loc) := ⟨_, rfl⟩
  have hV : AtW E (wC E σ ++ ((o, .inl (eJ E, 1, .inr (.inl f))) :: X)) A s H locs := by rw [hH, hlocs]; exact hV
  have goal : W p l e rmx_L_told s m a below meth c H locs 0 0 (EQW E (wC E σf ++ ((o, .inl (eJ E, 1, .inr (.inl f))) :: X)) (qI 1) A s a below 1 6) (F0 m 0 ls []) := by
    refine lv_aload_n hx hb dL_told_0 rfl (lv_at hl 2 rfl) ?_
    refine lv_iconst (v := 0) hx hb dL_told_1 (by decide) ?_
    refine lv_aload_n hx hb dL_told_2 rfl (lv_at hl 0 rfl) ?_
    refine lv_iload_n hx hb dL_told_3 rfl (lv_at hl 1 rfl) ?_
    refine r_wcatch (n := 1) (As := [.int p1]) (q0 := 0) (ci := 9) (qq := (RX9, TX9, 14)) (Ex := exN 3) (t_X9_told hT h) wC_fst rfl rfl mk_4_186 mk_4_187 mk_1_1 mk_4_188 (by decide +kernel) rfl ⟨rfl, rfl⟩ cx hV hF mk_4_185 ⟨Nat.le_of_ble_eq_true rfl, Nat.le_of_ble_eq_true rfl⟩ ⟨Nat.le_of_ble_eq_true rfl, Nat.le_of_ble_eq_true rfl⟩ hl.1 rfl (Nat.le_of_ble_eq_true rfl) dL_told_4 [] ⟨0, 9, 12, 13⟩ [] htab (fun z hz => by cases hz) (by decide) (by decide) mk_3_173 (List.mem_of_getElem? (i := 2) rfl) (fun q9 H locs hV => ?_)
    refine lv_astore_n (lv' := [(3, .ref q9), (0, .ref (eA E 0)), (1, .int p1), (2, .ref o)]) hx hb dL_told_12 rfl hl (by decide) rfl (fun ls hl => ?_)
    refine lv_iconst (v := 1) hx hb dL_told_13 (by decide) ?_
    exact r_wret cx hr hlk hV dL_told_14
  rw [hH, hlocs] at goal
  exact goal
abbrev rm_L_wander : Room := { frames := 8, cells := 0, slots := 0, locals := 126 }
abbrev rmx_L_wander : Room := { frames := 8, cells := 1, slots := 6, locals := 126 }
set_option maxHeartbeats 4000000 in
set_option maxRecDepth 100000 in
theorem w_L_wander {l : Launch} {E : EV} {X : va_W} {σ σf : St} {o : Nat} {f : Nat → Int64} {p1 p2 : Int32} {rv : Int32} (h : x_X9_wander p1 p2 σ = some (.inl (rv, σf))) : CW l yL_wander cL_wander 5 (some .int) [(0, 10, 13, 22), (0, 10, 17, 13)] rm_L_wander [.ref (eA E 0), .int p1, .int p2, .ref o] E (wC E σ ++ ((o, .inl (eJ E, 1, .inr (.inl f))) :: X)) (wC E σf ++ (o, .inl (eJ E, 1, .inr (.inl (vp_updL f 0 (Int32.toInt64 rv))))) :: X) (qI 0) 0 0 := by
  refine CW.start (by decide) (Nat.le_of_ble_eq_true rfl) (fun p e s m a below meth c A ls cx hr hlk htab hV hF hN hl => ?_)
  have cx : CallFix p m c cL_wander 5 s a TBL RL := cx
  have hx := cx.1
  have hb := cx.2.1
  have hl : lv_has ls 5 [(0, .ref (eA E 0)), (1, .int p1), (2, .int p2), (3, .ref o)] := hl
  obtain ⟨H, hH⟩ : ∃ H, H = s.heap := ⟨_, rfl⟩
  obtain ⟨locs, hlocs⟩ : ∃ z, z = ([] : List Loc) := ⟨_, rfl⟩
  have hV : AtW E (wC E σ ++ ((o, .inl (eJ E, 1, .inr (.inl f))) :: X)) A s H locs := by rw [hH, hlocs]; exact hV
  have goal : W p l e rm_L_wander s m a below meth c H locs 0 0 (EQW E (wC E σf ++ (o, .inl (eJ E, 1, .inr (.inl (vp_updL f 0 (Int32.toInt64 rv))))) :: X) (qI 0) A s a below 0 0) (F0 m 0 ls []) := by
    refine lv_aload_n hx hb dL_wander_0 rfl (lv_at hl 3 rfl) ?_
    refine lv_iconst (v := 0) hx hb dL_wander_1 (by decide) ?_
    refine lv_aload_n hx hb dL_wander_2 rfl (lv_at hl 0 rfl) ?_
    refine lv_iload_n hx hb dL_wander_3 rfl (lv_at hl 1 rfl) ?_
    refine lv_iload_n hx hb dL_wander_4 rfl (lv_at hl 2 rfl) ?_
    refine k_X9_wander h cx hV hF mk_5_85 ⟨Nat.le_of_ble_eq_true rfl, Nat.le_of_ble_eq_true rfl⟩ ⟨Nat.zero_le _, Nat.zero_le _⟩ hl.1 (Nat.le_of_ble_eq_true rfl) dL_wander_5 (fun H locs hV => ?_)
    refine lv_i2l (v := Int32.toInt64 rv) hx hb dL_wander_8 rfl ?_
    refine r_last (V' := (wC E σf ++ (o, .inl (eJ E, 1, .inr (.inl (vp_updL f 0 (Int32.toInt64 rv))))) :: X)) cx hV 115 rfl (n := 1) (f := f) (by unfold vp_in; decide) rfl dL_wander_9 (fun H locs hV => ?_)
    refine lv_goto (tgt := 21) hx hb dL_wander_10 (by decide) ?_
    refine lv_iconst (v := 0) hx hb dL_wander_21 (by decide) ?_
    exact r_wret cx hr hlk hV dL_wander_22
  rw [hH, hlocs] at goal
  exact goal
set_option maxHeartbeats 4000000 in
set_option maxRecDepth 100000 in
theorem wt_L_wander_1 {l : Launch} (hT : l.stackTraces = false) {E : EV} {X : va_W} {σ σf : St} {o : Nat} {f : Nat → Int64} {p1 p2 : Int32} (h : x_X9_wander p1 p2 σ = some (.inr (1, σf))) : CW l yL_wander cL_wander 5 (some .int) [(0, 10, 13, 22), (0, 10, 17, 13)] rmx_L_wander [.ref (eA E 0), .int p1, .int p2, .ref o] E (wC E σ ++ ((o, .inl (eJ E, 1, .inr (.inl f))) :: X)) (wC E σf ++ ((o, .inl (eJ E, 1, .inr (.inl f))) :: X)) (qI 1) 1 6 := by
  refine CW.start (by decide) (Nat.le_of_ble_eq_true rfl) (fun p e s m a below meth c A ls cx hr hlk htab hV hF hN hl => ?_)
  have cx : CallFix p m c cL_wander 5 s a TBL RL := cx
  have hx := cx.1
  have hb := cx.2.1
  have hl : lv_has ls 5 [(0, .ref (eA E 0)), (1, .int p1), (2, .int p2), (3, .ref o)] := hl
  obtain ⟨H, hH⟩ : ∃ H, H = s.heap := ⟨_, rfl⟩
  obtain ⟨locs, hlocs⟩ : ∃ z, z = ([] : List Loc) := ⟨_, rfl⟩
  have hV : AtW E (wC E σ ++ ((o, .inl (eJ E, 1, .inr (.inl f))) :: X)) A s H locs := by rw [hH, hlocs]; exact hV
  have goal : W p l e rmx_L_wander s m a below meth c H locs 0 0 (EQW E (wC E σf ++ ((o, .inl (eJ E, 1, .inr (.inl f))) :: X)) (qI 1) A s a below 1 6) (F0 m 0 ls []) := by
    refine lv_aload_n hx hb dL_wander_0 rfl (lv_at hl 3 rfl) ?_
    refine lv_iconst (v := 0) hx hb dL_wander_1 (by decide) ?_
    refine lv_aload_n hx hb dL_wander_2 rfl (lv_at hl 0 rfl) ?_
    refine lv_iload_n hx hb dL_wander_3 rfl (lv_at hl 1 rfl) ?_
    refine lv_iload_n hx hb dL_wander_4 rfl (lv_at hl 2 rfl) ?_
    refine r_wcatch (n := 2) (As := [.int p1, .int p2]) (q0 := 0) (ci := 9) (qq := (RX9, TX9, 14)) (Ex := exN 1) (t_X9_wander hT h) wC_fst rfl rfl mk_5_86 mk_5_87 mk_1_1 mk_5_88 (by decide +kernel) rfl ⟨rfl, rfl⟩ cx hV hF mk_5_85 ⟨Nat.le_of_ble_eq_true rfl, Nat.le_of_ble_eq_true rfl⟩ ⟨Nat.le_of_ble_eq_true rfl, Nat.le_of_ble_eq_true rfl⟩ hl.1 rfl (Nat.le_of_ble_eq_true rfl) dL_wander_5 [] ⟨0, 10, 13, 22⟩ [⟨0, 10, 17, 13⟩] htab (fun z hz => by cases hz) (by decide) (by decide) mk_4_192 (List.mem_of_getElem? (i := 0) rfl) (fun q9 H locs hV => ?_)
    refine lv_astore (lv' := [(4, .ref q9), (0, .ref (eA E 0)), (1, .int p1), (2, .int p2), (3, .ref o)]) hx hb dL_wander_13 hl (by decide) rfl (fun ls hl => ?_)
    refine lv_iconst (v := 1) hx hb dL_wander_15 (by decide) ?_
    exact r_wret cx hr hlk hV dL_wander_16
  rw [hH, hlocs] at goal
  exact goal
set_option maxHeartbeats 4000000 in
set_option maxRecDepth 100000 in
theorem wt_L_wander_3 {l : Launch} (hT : l.stackTraces = false) {E : EV} {X : va_W} {σ σf : St} {o : Nat} {f : Nat → Int64} {p1 p2 : Int32} (h : x_X9_wander p1 p2 σ = some (.inr (3, σf))) : CW l yL_wander cL_wander 5 (some .int) [(0, 10, 13, 22), (0, 10, 17, 13)] rmx_L_wander [.ref (eA E 0), .int p1, .int p2, .ref o] E (wC E σ ++ ((o, .inl (eJ E, 1, .inr (.inl f))) :: X)) (wC E σf ++ ((o, .inl (eJ E, 1, .inr (.inl f))) :: X)) (qI 2) 1 6 := by
  refine CW.start (by decide) (Nat.le_of_ble_eq_true rfl) (fun p e s m a below meth c A ls cx hr hlk htab hV hF hN hl => ?_)
  have cx : CallFix p m c cL_wander 5 s a TBL RL := cx
  have hx := cx.1
  have hb := cx.2.1
  have hl : lv_has ls 5 [(0, .ref (eA E 0)), (1, .int p1), (2, .int p2), (3, .ref o)] := hl
  obtain ⟨H, hH⟩ : ∃ H, H = s.heap := ⟨_, rfl⟩
  obtain ⟨locs, hlocs⟩ : ∃ z, z = ([] : List Loc) := ⟨_, rfl⟩
  have hV : AtW E (wC E σ ++ ((o, .inl (eJ E, 1, .inr (.inl f))) :: X)) A s H locs := by rw [hH, hlocs]; exact hV
  have goal : W p l e rmx_L_wander s m a below meth c H locs 0 0 (EQW E (wC E σf ++ ((o, .inl (eJ E, 1, .inr (.inl f))) :: X)) (qI 2) A s a below 1 6) (F0 m 0 ls []) := by
    refine lv_aload_n hx hb dL_wander_0 rfl (lv_at hl 3 rfl) ?_
    refine lv_iconst (v := 0) hx hb dL_wander_1 (by decide) ?_
    refine lv_aload_n hx hb dL_wander_2 rfl (lv_at hl 0 rfl) ?_
    refine lv_iload_n hx hb dL_wander_3 rfl (lv_at hl 1 rfl) ?_
    refine lv_iload_n hx hb dL_wander_4 rfl (lv_at hl 2 rfl) ?_
    refine r_wcatch (n := 2) (As := [.int p1, .int p2]) (q0 := 0) (ci := 9) (qq := (RX9, TX9, 14)) (Ex := exN 3) (t_X9_wander hT h) wC_fst rfl rfl mk_5_86 mk_5_87 mk_1_1 mk_5_88 (by decide +kernel) rfl ⟨rfl, rfl⟩ cx hV hF mk_5_85 ⟨Nat.le_of_ble_eq_true rfl, Nat.le_of_ble_eq_true rfl⟩ ⟨Nat.le_of_ble_eq_true rfl, Nat.le_of_ble_eq_true rfl⟩ hl.1 rfl (Nat.le_of_ble_eq_true rfl) dL_wander_5 [⟨0, 10, 13, 22⟩] ⟨0, 10, 17, 13⟩ [] htab (fun z hz => by
      simp only [List.mem_cons, List.not_mem_nil, or_false] at hz
      rcases hz with rfl
      · exact Or.inr ⟨(by decide), _, mk_4_192, NC_at hN 2 0 (by decide) (by decide) (by decide)⟩) (by decide) (by decide) mk_3_173 (List.mem_of_getElem? (i := 2) rfl) (fun q9 H locs hV => ?_)
    refine lv_astore (lv' := [(4, .ref q9), (0, .ref (eA E 0)), (1, .int p1), (2, .int p2), (3, .ref o)]) hx hb dL_wander_17 hl (by decide) rfl (fun ls hl => ?_)
    refine lv_iconst (v := 2) hx hb dL_wander_19 (by decide) ?_
    exact r_wret cx hr hlk hV dL_wander_20
  rw [hH, hlocs] at goal
  exact goal
abbrev rm_L_would : Room := { frames := 8, cells := 0, slots := 0, locals := 190 }
abbrev rmx_L_would : Room := { frames := 8, cells := 1, slots := 6, locals := 190 }
set_option maxHeartbeats 4000000 in
set_option maxRecDepth 100000 in
theorem w_L_would {l : Launch} {E : EV} {X : va_W} {σ σf : St} {o : Nat} {f : Nat → Int64} {p1 p2 : Int32} {rv : Int32} (h : x_X9_would p1 p2 σ = some (.inl (rv, σf))) : CW l yL_would cL_would 5 (some .int) [(0, 10, 13, 13)] rm_L_would [.ref (eA E 0), .int p1, .int p2, .ref o] E (wC E σ ++ ((o, .inl (eJ E, 1, .inr (.inl f))) :: X)) (wC E σf ++ (o, .inl (eJ E, 1, .inr (.inl (vp_updL f 0 (Int32.toInt64 rv))))) :: X) (qI 0) 0 0 := by
  refine CW.start (by decide) (Nat.le_of_ble_eq_true rfl) (fun p e s m a below meth c A ls cx hr hlk htab hV hF hN hl => ?_)
  have cx : CallFix p m c cL_would 5 s a TBL RL := cx
  have hx := cx.1
  have hb := cx.2.1
  have hl : lv_has ls 5 [(0, .ref (eA E 0)), (1, .int p1), (2, .int p2), (3, .ref o)] := hl
  obtain ⟨H, hH⟩ : ∃ H, H = s.heap := ⟨_, rfl⟩
  obtain ⟨locs, hlocs⟩ : ∃ z, z = ([] : List Loc) := ⟨_, rfl⟩
  have hV : AtW E (wC E σ ++ ((o, .inl (eJ E, 1, .inr (.inl f))) :: X)) A s H locs := by rw [hH, hlocs]; exact hV
  have goal : W p l e rm_L_would s m a below meth c H locs 0 0 (EQW E (wC E σf ++ (o, .inl (eJ E, 1, .inr (.inl (vp_updL f 0 (Int32.toInt64 rv))))) :: X) (qI 0) A s a below 0 0) (F0 m 0 ls []) := by
    refine lv_aload_n hx hb dL_would_0 rfl (lv_at hl 3 rfl) ?_
    refine lv_iconst (v := 0) hx hb dL_would_1 (by decide) ?_
    refine lv_aload_n hx hb dL_would_2 rfl (lv_at hl 0 rfl) ?_
    refine lv_iload_n hx hb dL_would_3 rfl (lv_at hl 1 rfl) ?_
    refine lv_iload_n hx hb dL_would_4 rfl (lv_at hl 2 rfl) ?_
    refine k_X9_would h cx hV hF mk_5_94 ⟨Nat.le_of_ble_eq_true rfl, Nat.le_of_ble_eq_true rfl⟩ ⟨Nat.zero_le _, Nat.zero_le _⟩ hl.1 (Nat.le_of_ble_eq_true rfl) dL_would_5 (fun H locs hV => ?_)
    refine lv_i2l (v := Int32.toInt64 rv) hx hb dL_would_8 rfl ?_
    refine r_last (V' := (wC E σf ++ (o, .inl (eJ E, 1, .inr (.inl (vp_updL f 0 (Int32.toInt64 rv))))) :: X)) cx hV 115 rfl (n := 1) (f := f) (by unfold vp_in; decide) rfl dL_would_9 (fun H locs hV => ?_)
    refine lv_goto (tgt := 17) hx hb dL_would_10 (by decide) ?_
    refine lv_iconst (v := 0) hx hb dL_would_17 (by decide) ?_
    exact r_wret cx hr hlk hV dL_would_18
  rw [hH, hlocs] at goal
  exact goal
set_option maxHeartbeats 4000000 in
set_option maxRecDepth 100000 in
theorem wt_L_would_3 {l : Launch} (hT : l.stackTraces = false) {E : EV} {X : va_W} {σ σf : St} {o : Nat} {f : Nat → Int64} {p1 p2 : Int32} (h : x_X9_would p1 p2 σ = some (.inr (3, σf))) : CW l yL_would cL_would 5 (some .int) [(0, 10, 13, 13)] rmx_L_would [.ref (eA E 0), .int p1, .int p2, .ref o] E (wC E σ ++ ((o, .inl (eJ E, 1, .inr (.inl f))) :: X)) (wC E σf ++ ((o, .inl (eJ E, 1, .inr (.inl f))) :: X)) (qI 1) 1 6 := by
  refine CW.start (by decide) (Nat.le_of_ble_eq_true rfl) (fun p e s m a below meth c A ls cx hr hlk htab hV hF hN hl => ?_)
  have cx : CallFix p m c cL_would 5 s a TBL RL := cx
  have hx := cx.1
  have hb := cx.2.1
  have hl : lv_has ls 5 [(0, .ref (eA E 0)), (1, .int p1), (2, .int p2), (3, .ref o)] := hl
  obtain ⟨H, hH⟩ : ∃ H, H = s.heap := ⟨_, rfl⟩
  obtain ⟨locs, hlocs⟩ : ∃ z, z = ([] : List Loc) := ⟨_, rfl⟩
  have hV : AtW E (wC E σ ++ ((o, .inl (eJ E, 1, .inr (.inl f))) :: X)) A s H locs := by rw [hH, hlocs]; exact hV
  have goal : W p l e rmx_L_would s m a below meth c H locs 0 0 (EQW E (wC E σf ++ ((o, .inl (eJ E, 1, .inr (.inl f))) :: X)) (qI 1) A s a below 1 6) (F0 m 0 ls []) := by
    refine lv_aload_n hx hb dL_would_0 rfl (lv_at hl 3 rfl) ?_
    refine lv_iconst (v := 0) hx hb dL_would_1 (by decide) ?_
    refine lv_aload_n hx hb dL_would_2 rfl (lv_at hl 0 rfl) ?_
    refine lv_iload_n hx hb dL_would_3 rfl (lv_at hl 1 rfl) ?_
    refine lv_iload_n hx hb dL_would_4 rfl (lv_at hl 2 rfl) ?_
    refine r_wcatch (n := 2) (As := [.int p1, .int p2]) (q0 := 0) (ci := 9) (qq := (RX9, TX9, 14)) (Ex := exN 3) (t_X9_would hT h) wC_fst rfl rfl mk_5_95 mk_5_96 mk_1_1 mk_5_97 (by decide +kernel) rfl ⟨rfl, rfl⟩ cx hV hF mk_5_94 ⟨Nat.le_of_ble_eq_true rfl, Nat.le_of_ble_eq_true rfl⟩ ⟨Nat.le_of_ble_eq_true rfl, Nat.le_of_ble_eq_true rfl⟩ hl.1 rfl (Nat.le_of_ble_eq_true rfl) dL_would_5 [] ⟨0, 10, 13, 13⟩ [] htab (fun z hz => by cases hz) (by decide) (by decide) mk_3_173 (List.mem_of_getElem? (i := 2) rfl) (fun q9 H locs hV => ?_)
    refine lv_astore (lv' := [(4, .ref q9), (0, .ref (eA E 0)), (1, .int p1), (2, .int p2), (3, .ref o)]) hx hb dL_would_13 hl (by decide) rfl (fun ls hl => ?_)
    refine lv_iconst (v := 1) hx hb dL_would_15 (by decide) ?_
    exact r_wret cx hr hlk hV dL_would_16
  rw [hH, hlocs] at goal
  exact goal
