def x_X9_putOnTape_L3 (p1 : Int32) (u1 : Int32) (σ2 : St) : Option (Bool × (Int32 × St)) :=
  (if u1 < 0 then
  some (false, (u1, σ2))
  else
  bd (x_X2_put 0 (gI σ2 8) ((usI p1 u1) &&& 255) σ2) fun σ3 =>
  bd (some (sI σ3 8 ((gI σ3 8) + 1))) fun σ4 =>
  some (true, ((u1 + (-8)), σ4)))
def x_X9_putOnTape (p1 : Int32) (σ : St) : Option St :=
  bd2 (lp (fun v : (Int32 × St) => x_X9_putOnTape_L3 p1 v.1 v.2) FU (24, σ)) fun z5 σ6 =>
  some σ6
abbrev rm_X9_putOnTape : Room := { frames := 1, cells := 0, slots := 0, locals := 22 }
set_option maxHeartbeats 4000000 in
set_option maxRecDepth 100000 in
theorem c_X9_putOnTape {l : Launch} {E : EV} {X : va_W} {σ : St} {p1 : Int32} {σf : St} (h : x_X9_putOnTape p1 σ = some σf) : CM l yX9_putOnTape cX9_putOnTape 3 none rm_X9_putOnTape [.ref (eA E 0), .int p1] E (wC E σ ++ X) (wC E σf ++ X) qV := by
  refine CM.start (by decide) (Nat.le_of_ble_eq_true rfl) (fun p e s m a below meth c A ls cx hr hlk hV hl => ?_)
  have cx : CallFix p m c cX9_putOnTape 3 s a TBL RX9 := cx
  have hx := cx.1
  have hb := cx.2.1
  have hl : lv_has ls 3 [(0, .ref (eA E 0)), (1, .int p1)] := hl
  generalize hQ : EQ E (wC E σf ++ X) qV A s a below = QQ
  obtain ⟨H, hH⟩ : ∃ H, H = s.heap := ⟨_, rfl⟩
  obtain ⟨locs, hlocs⟩ : ∃ z, z = ([] : List Loc) := ⟨_, rfl⟩
  have hV : AtW E (wC E σ ++ X) A s H locs := by rw [hH, hlocs]; exact hV
  have goal : W p l e rm_X9_putOnTape s m a below meth c H locs 0 0 QQ (F0 m 0 ls []) := by
    unfold x_X9_putOnTape at h
    refine lv_bipush (v := 24) hx hb dX9_putOnTape_0 (by decide) ?_
    refine lv_istore_n (lv' := [(2, .int 24), (0, .ref (eA E 0)), (1, .int p1)]) hx hb dX9_putOnTape_2 rfl hl (by decide) rfl (fun ls hl => ?_)
    refine bd2_e h (fun z5 σ6 ho h => ?_)
    refine (lp_rule (G := (fun v : (Int32 × St) => ∀ (H : Heap) (locs : List Loc) (ls : Array Slot), AtW E (wC E v.2 ++ X) A s H locs → lv_has ls 3 [(0, .ref (eA E 0)), (1, .int p1), (2, .int v.1)] → W p l e rm_X9_putOnTape s m a below meth c H locs 0 0 QQ (F0 m 3 ls []))) (K := (fun v : (Int32 × St) => ∀ (H : Heap) (locs : List Loc) (ls : Array Slot), AtW E (wC E v.2 ++ X) A s H locs → lv_has ls 3 [] → W p l e rm_X9_putOnTape s m a below meth c H locs 0 0 QQ (F0 m 41 ls []))) (fun v b1 y1 h hT1 hF1 => ?_) ho (fun H locs ls hV hl => ?_)) _ _ _ hV (lv_sub hl [1, 2, 0] rfl)
    · obtain ⟨u1, σ2⟩ := v
      have h : x_X9_putOnTape_L3 p1 u1 σ2 = some (b1, y1) := h
      intro H locs ls hV hl
      have hV : AtW E (wC E σ2 ++ X) A s H locs := hV
      have hl : lv_has ls 3 [(0, .ref (eA E 0)), (1, .int p1), (2, .int u1)] := hl
      unfold x_X9_putOnTape_L3 at h
      refine lv_iload_n hx hb dX9_putOnTape_3 rfl (lv_at hl 2 rfl) ?_
      refine lv_if_lt (tgt := 41) hx hb dX9_putOnTape_4 (by decide) (fun hc => ?_) (fun hc => ?_)
      · have h := ifp hc h
        cases h
        exact hF1 rfl _ _ _ hV (lv_sub hl [] rfl)
      · have h := ifn hc h
        refine lv_aload_n hx hb dX9_putOnTape_7 rfl (lv_at hl 0 rfl) ?_
        refine G_X9_tape cx hV mk_2_138 dX9_putOnTape_8 ?_
        refine lv_aload_n hx hb dX9_putOnTape_11 rfl (lv_at hl 0 rfl) ?_
        refine G_X9_tapeBytes cx hV mk_2_139 dX9_putOnTape_12 ?_
        refine lv_iload_n hx hb dX9_putOnTape_15 rfl (lv_at hl 1 rfl) ?_
        refine lv_iload_n hx hb dX9_putOnTape_16 rfl (lv_at hl 2 rfl) ?_
        refine lv_iushr (v := (usI p1 u1)) hx hb dX9_putOnTape_17 rfl ?_
        refine lv_sipush (v := 255) hx hb dX9_putOnTape_18 (by decide) ?_
        refine lv_iand hx hb dX9_putOnTape_21 ?_
        refine bd_e h (fun σ3 hq h => ?_)
        refine k_X2_put (by decide) hq cx hV mk_2_189 ⟨Nat.le_of_ble_eq_true rfl, Nat.le_of_ble_eq_true rfl⟩ ⟨Nat.zero_le _, Nat.zero_le _⟩ hl.1 (Nat.le_of_ble_eq_true rfl) dX9_putOnTape_22 (fun H locs hV => ?_)
        refine lv_aload_n hx hb dX9_putOnTape_25 rfl (lv_at hl 0 rfl) ?_
        refine lv_dup hx hb dX9_putOnTape_26 rfl ?_
        refine G_X9_tapeBytes cx hV mk_2_139 dX9_putOnTape_27 ?_
        refine lv_iconst (v := 1) hx hb dX9_putOnTape_30 (by decide) ?_
        refine lv_iadd hx hb dX9_putOnTape_31 ?_
        refine bd_e h (fun σ4 hq h => ?_)
        refine P_X9_tapeBytes cx hV hq mk_2_139 dX9_putOnTape_32 (fun H locs hV => ?_)
        refine lv_iinc (v := (u1 + (-8))) (lv' := [(2, .int (u1 + (-8))), (0, .ref (eA E 0)), (1, .int p1)]) hx hb dX9_putOnTape_35 hl (k := 2) rfl rfl (by decide) rfl (fun ls hl => ?_)
        refine lv_goto (tgt := 3) hx hb dX9_putOnTape_38 (by decide) ?_
        cases h
        exact hT1 rfl _ _ _ hV (lv_sub hl [1, 2, 0] rfl)
    · have hV : AtW E (wC E σ6 ++ X) A s H locs := hV
      have hl : lv_has ls 3 [] := hl
      have h1 := Option.some.inj h
      subst h1
      subst hQ
      exact r_vret cx hr hlk hV dX9_putOnTape_41
  rw [hH, hlocs] at goal
  exact goal
theorem k_X9_putOnTape {p : Program} {l : Launch} {e : Env} {R : Room} {s : State} {m : MethodId} {a : Array Value} {below : List Frame} {meth : Method} {c : Code} {H : Heap} {locs : List Loc} {cells slots : Nat} {Q : State → Prop} {cc : ByteArray} {own : String} {nL pc : Nat} {ls : Array Slot} {rest : List Value} {A : Nat → Prop} {E : EV} {X : va_W} {σ : St} {p1 : Int32} {σf : St} (h : x_X9_putOnTape p1 σ = some σf) (cx : CallFix p m c cc nL s a TBL own) (hV : AtW E (wC E σ ++ X) A s H locs) {idx : Nat} (w1 : Cond.methodLink own idx yX9_putOnTape ∈ TBL) (hR : (rm_X9_putOnTape).frames + 1 ≤ R.frames ∧ 8 + (3 + 11) + (rm_X9_putOnTape).locals ≤ R.locals) (hcs : cells ≤ R.cells ∧ slots ≤ R.slots) (hls : ls.size = nL) (hcat : (rest.map fun v => v.category).sum ≤ 8) (d : decode cc pc = .ok (.invokevirtual idx, 3)) (kk : ∀ (H1 : Heap) (locs1 : List Loc), AtW E (wC E σf ++ X) A s H1 locs1 → W p l e R s m a below meth c H1 locs1 cells slots Q (F0 m (pc + 3) ls (rest))) : W p l e R s m a below meth c H locs cells slots Q (F0 m pc ls (.int p1 :: .ref (eA E 0) :: rest)) :=
  r_callv (n := 1) (As := [.int p1]) (q0 := 0) (ci := 9) (qq := (RX9, TX9, 14)) (c_X9_putOnTape h) wC_fst rfl rfl mk_2_187 mk_P_0 mk_1_1 mk_2_188 (by decide +kernel) rfl ⟨rfl, rfl⟩ cx hV w1 hR hcs hls rfl hcat d kk
def x_X9_feed (p1 : Int32) (p2 : Int32) (p3 : Int32) (p4 : Int32) (p5 : Int32) (σ : St) : Option (Int32 × St) :=
  (if ((gI σ 8) + 20) ≤ 600 then
  bd (x_X9_putOnTape p1 σ) fun σ1 =>
  bd (x_X9_putOnTape p2 σ1) fun σ2 =>
  bd (x_X9_putOnTape p3 σ2) fun σ3 =>
  bd (x_X9_putOnTape p4 σ3) fun σ4 =>
  bd (x_X9_putOnTape p5 σ4) fun σ5 =>
  some ((gI σ5 8), σ5)
  else
  some ((-1), σ))
abbrev rm_X9_feed : Room := { frames := 2, cells := 0, slots := 0, locals := 44 }
set_option maxHeartbeats 4000000 in
set_option maxRecDepth 100000 in
theorem c_X9_feed {l : Launch} {E : EV} {X : va_W} {σ : St} {p1 : Int32} {p2 : Int32} {p3 : Int32} {p4 : Int32} {p5 : Int32} {rv : Int32} {σf : St} (h : x_X9_feed p1 p2 p3 p4 p5 σ = some (rv, σf)) : CM l yX9_feed cX9_feed 6 (some .int) rm_X9_feed [.ref (eA E 0), .int p1, .int p2, .int p3, .int p4, .int p5] E (wC E σ ++ X) (wC E σf ++ X) (qI rv) := by
  refine CM.start (by decide) (Nat.le_of_ble_eq_true rfl) (fun p e s m a below meth c A ls cx hr hlk hV hl => ?_)
  have cx : CallFix p m c cX9_feed 6 s a TBL RX9 := cx
  have hx := cx.1
  have hb := cx.2.1
  have hl : lv_has ls 6 [(0, .ref (eA E 0)), (1, .int p1), (2, .int p2), (3, .int p3), (4, .int p4), (5, .int p5)] := hl
  generalize hQ : EQ E (wC E σf ++ X) (qI rv) A s a below = QQ
  obtain ⟨H, hH⟩ : ∃ H, H = s.heap := ⟨_, rfl⟩
  obtain ⟨locs, hlocs⟩ : ∃ z, z = ([] : List Loc) := ⟨_, rfl⟩
  have hV : AtW E (wC E σ ++ X) A s H locs := by rw [hH, hlocs]; exact hV
  have goal : W p l e rm_X9_feed s m a below meth c H locs 0 0 QQ (F0 m 0 ls []) := by
    unfold x_X9_feed at h
    refine lv_aload_n hx hb dX9_feed_0 rfl (lv_at hl 0 rfl) ?_
    refine G_X9_tapeBytes cx hV mk_2_139 dX9_feed_1 ?_
    refine lv_bipush (v := 20) hx hb dX9_feed_4 (by decide) ?_
    refine lv_iadd hx hb dX9_feed_6 ?_
    refine lv_sipush (v := 600) hx hb dX9_feed_7 (by decide) ?_
    refine lv_icmp_le (tgt := 15) hx hb dX9_feed_10 (by decide) (fun hc => ?_) (fun hc => ?_)
    · have h := ifp hc h
      refine lv_aload_n hx hb dX9_feed_15 rfl (lv_at hl 0 rfl) ?_
      refine lv_iload_n hx hb dX9_feed_16 rfl (lv_at hl 1 rfl) ?_
      refine bd_e h (fun σ1 hq h => ?_)
      refine k_X9_putOnTape hq cx hV mk_2_185 ⟨Nat.le_of_ble_eq_true rfl, Nat.le_of_ble_eq_true rfl⟩ ⟨Nat.zero_le _, Nat.zero_le _⟩ hl.1 (Nat.le_of_ble_eq_true rfl) dX9_feed_17 (fun H locs hV => ?_)
      refine lv_aload_n hx hb dX9_feed_20 rfl (lv_at hl 0 rfl) ?_
      refine lv_iload_n hx hb dX9_feed_21 rfl (lv_at hl 2 rfl) ?_
      refine bd_e h (fun σ2 hq h => ?_)
      refine k_X9_putOnTape hq cx hV mk_2_185 ⟨Nat.le_of_ble_eq_true rfl, Nat.le_of_ble_eq_true rfl⟩ ⟨Nat.zero_le _, Nat.zero_le _⟩ hl.1 (Nat.le_of_ble_eq_true rfl) dX9_feed_22 (fun H locs hV => ?_)
      refine lv_aload_n hx hb dX9_feed_25 rfl (lv_at hl 0 rfl) ?_
      refine lv_iload_n hx hb dX9_feed_26 rfl (lv_at hl 3 rfl) ?_
      refine bd_e h (fun σ3 hq h => ?_)
      refine k_X9_putOnTape hq cx hV mk_2_185 ⟨Nat.le_of_ble_eq_true rfl, Nat.le_of_ble_eq_true rfl⟩ ⟨Nat.zero_le _, Nat.zero_le _⟩ hl.1 (Nat.le_of_ble_eq_true rfl) dX9_feed_27 (fun H locs hV => ?_)
      refine lv_aload_n hx hb dX9_feed_30 rfl (lv_at hl 0 rfl) ?_
      refine lv_iload hx hb dX9_feed_31 (lv_at hl 4 rfl) ?_
      refine bd_e h (fun σ4 hq h => ?_)
      refine k_X9_putOnTape hq cx hV mk_2_185 ⟨Nat.le_of_ble_eq_true rfl, Nat.le_of_ble_eq_true rfl⟩ ⟨Nat.zero_le _, Nat.zero_le _⟩ hl.1 (Nat.le_of_ble_eq_true rfl) dX9_feed_33 (fun H locs hV => ?_)
      refine lv_aload_n hx hb dX9_feed_36 rfl (lv_at hl 0 rfl) ?_
      refine lv_iload hx hb dX9_feed_37 (lv_at hl 5 rfl) ?_
      refine bd_e h (fun σ5 hq h => ?_)
      refine k_X9_putOnTape hq cx hV mk_2_185 ⟨Nat.le_of_ble_eq_true rfl, Nat.le_of_ble_eq_true rfl⟩ ⟨Nat.zero_le _, Nat.zero_le _⟩ hl.1 (Nat.le_of_ble_eq_true rfl) dX9_feed_39 (fun H locs hV => ?_)
      refine lv_aload_n hx hb dX9_feed_42 rfl (lv_at hl 0 rfl) ?_
      refine G_X9_tapeBytes cx hV mk_2_139 dX9_feed_43 ?_
      obtain ⟨h1, h2⟩ := Prod.mk.inj (Option.some.inj h)
      subst h1
      subst h2
      subst hQ
      exact r_ireti cx hr hlk hV dX9_feed_46
    · have h := ifn hc h
      refine lv_iconst (v := (-1)) hx hb dX9_feed_13 (by decide) ?_
      obtain ⟨h1, h2⟩ := Prod.mk.inj (Option.some.inj h)
      subst h1
      subst h2
      subst hQ
      exact r_ireti cx hr hlk hV dX9_feed_14
  rw [hH, hlocs] at goal
  exact goal
theorem k_X9_feed {p : Program} {l : Launch} {e : Env} {R : Room} {s : State} {m : MethodId} {a : Array Value} {below : List Frame} {meth : Method} {c : Code} {H : Heap} {locs : List Loc} {cells slots : Nat} {Q : State → Prop} {cc : ByteArray} {own : String} {nL pc : Nat} {ls : Array Slot} {rest : List Value} {A : Nat → Prop} {E : EV} {X : va_W} {σ : St} {p1 : Int32} {p2 : Int32} {p3 : Int32} {p4 : Int32} {p5 : Int32} {rv : Int32} {σf : St} (h : x_X9_feed p1 p2 p3 p4 p5 σ = some (rv, σf)) (cx : CallFix p m c cc nL s a TBL own) (hV : AtW E (wC E σ ++ X) A s H locs) {idx : Nat} (w1 : Cond.methodLink own idx yX9_feed ∈ TBL) (hR : (rm_X9_feed).frames + 1 ≤ R.frames ∧ 8 + (6 + 11) + (rm_X9_feed).locals ≤ R.locals) (hcs : cells ≤ R.cells ∧ slots ≤ R.slots) (hls : ls.size = nL) (hcat : (rest.map fun v => v.category).sum ≤ 8) (d : decode cc pc = .ok (.invokevirtual idx, 3)) (kk : ∀ (H1 : Heap) (locs1 : List Loc), AtW E (wC E σf ++ X) A s H1 locs1 → W p l e R s m a below meth c H1 locs1 cells slots Q (F0 m (pc + 3) ls (.int rv :: rest))) : W p l e R s m a below meth c H locs cells slots Q (F0 m pc ls (.int p5 :: .int p4 :: .int p3 :: .int p2 :: .int p1 :: .ref (eA E 0) :: rest)) :=
  r_calli (n := 5) (As := [.int p1, .int p2, .int p3, .int p4, .int p5]) (q0 := 0) (ci := 9) (qq := (RX9, TX9, 14)) (c_X9_feed h) wC_fst rfl rfl mk_2_182 mk_2_183 mk_1_1 mk_2_184 (by decide +kernel) rfl ⟨rfl, rfl⟩ cx hV w1 hR hcs hls rfl hcat d kk
def x_X9_need (p1 : Int32) (σ : St) : Option (St ⊕ (Nat × St)) :=
  (if p1 = 0 then
  bd (x_X2_add 35 2 1 σ) fun σ1 =>
  some (.inr (3, σ1))
  else
  some (.inl σ))
abbrev rm_X9_need : Room := { frames := 2, cells := 0, slots := 0, locals := 44 }
abbrev rmx_X9_need : Room := { frames := 6, cells := 1, slots := 6, locals := 82 }
set_option maxHeartbeats 4000000 in
set_option maxRecDepth 100000 in
theorem c_X9_need {l : Launch} {E : EV} {X : va_W} {σ : St} {p1 : Int32} {σf : St} (h : x_X9_need p1 σ = some (.inl σf)) : CMF l yX9_need cX9_need 2 none rm_X9_need [.ref (eA E 0), .int p1] E (wC E σ ++ X) (wC E σf ++ X) qV := by
  refine CMF.start (by decide) (Nat.le_of_ble_eq_true rfl) (fun p e s m a below meth c A ls cx hr hlk hV hF hl => ?_)
  have cx : CallFix p m c cX9_need 2 s a TBL RX9 := cx
  have hx := cx.1
  have hb := cx.2.1
  have hl : lv_has ls 2 [(0, .ref (eA E 0)), (1, .int p1)] := hl
  generalize hQ : EQ E (wC E σf ++ X) qV A s a below = QQ
  obtain ⟨H, hH⟩ : ∃ H, H = s.heap := ⟨_, rfl⟩
  obtain ⟨locs, hlocs⟩ : ∃ z, z = ([] : List Loc) := ⟨_, rfl⟩
  have hV : AtW E (wC E σ ++ X) A s H locs := by rw [hH, hlocs]; exact hV
  have goal : W p l e rm_X9_need s m a below meth c H locs 0 0 QQ (F0 m 0 ls []) := by
    unfold x_X9_need at h
    refine lv_iload_n hx hb dX9_need_0 rfl (lv_at hl 1 rfl) ?_
    refine lv_if_ne (tgt := 24) hx hb dX9_need_1 (by decide) (fun hc => ?_) (fun hc => ?_)
    · have h := ifn hc h
      have h := congrArg some (Sum.inl.inj (Option.some.inj h))
      have h1 := Option.some.inj h
      subst h1
      subst hQ
      exact r_vret cx hr hlk hV dX9_need_24
    · have h := ifp hc h
      refine lv_aload_n hx hb dX9_need_4 rfl (lv_at hl 0 rfl) ?_
      refine G_X9_refused cx hV mk_2_145 dX9_need_5 ?_
      refine lv_iconst (v := 2) hx hb dX9_need_8 (by decide) ?_
      refine lv_iconst (v := 1) hx hb dX9_need_9 (by decide) ?_
      refine bd_e h (fun σ1 hq h => ?_)
      refine k_X2_add (by decide) hq cx hV mk_3_182 ⟨Nat.le_of_ble_eq_true rfl, Nat.le_of_ble_eq_true rfl⟩ ⟨Nat.zero_le _, Nat.zero_le _⟩ hl.1 (Nat.le_of_ble_eq_true rfl) dX9_need_10 (fun H locs hV => ?_)
      exact (inrl h).elim
  rw [hH, hlocs] at goal
  exact goal
set_option maxHeartbeats 4000000 in
set_option maxRecDepth 100000 in
theorem t_X9_need {l : Launch} (hT : l.stackTraces = false) {E : EV} {X : va_W} {σ : St} {p1 : Int32} {nx : Nat} {σf : St} (h : x_X9_need p1 σ = some (.inr (nx, σf))) : CXF l yX9_need cX9_need 2 none rmx_X9_need [.ref (eA E 0), .int p1] E (wC E σ ++ X) (wC E σf ++ X) (exN nx) := by
  refine CXF.start (by decide) (Nat.le_of_ble_eq_true rfl) (fun p e s m a below meth c A ls cx hx0 hlk hV hF hl => ?_)
  have cx : CallFix p m c cX9_need 2 s a TBL RX9 := cx
  have hx := cx.1
  have hb := cx.2.1
  have hl : lv_has ls 2 [(0, .ref (eA E 0)), (1, .int p1)] := hl
  generalize hQ : EX E (wC E σf ++ X) (exN nx) A s a below = QQ
  obtain ⟨H, hH⟩ : ∃ H, H = s.heap := ⟨_, rfl⟩
  obtain ⟨locs, hlocs⟩ : ∃ z, z = ([] : List Loc) := ⟨_, rfl⟩
  have hV : AtW E (wC E σ ++ X) A s H locs := by rw [hH, hlocs]; exact hV
  have goal : W p l e rmx_X9_need s m a below meth c H locs 0 0 QQ (F0 m 0 ls []) := by
    unfold x_X9_need at h
    refine lv_iload_n hx hb dX9_need_0 rfl (lv_at hl 1 rfl) ?_
    refine lv_if_ne (tgt := 24) hx hb dX9_need_1 (by decide) (fun hc => ?_) (fun hc => ?_)
    · have h := ifn hc h
      exact (inlr h).elim
    · have h := ifp hc h
      refine lv_aload_n hx hb dX9_need_4 rfl (lv_at hl 0 rfl) ?_
      refine G_X9_refused cx hV mk_2_145 dX9_need_5 ?_
      refine lv_iconst (v := 2) hx hb dX9_need_8 (by decide) ?_
      refine lv_iconst (v := 1) hx hb dX9_need_9 (by decide) ?_
      refine bd_e h (fun σ1 hq h => ?_)
      refine k_X2_add (by decide) hq cx hV mk_3_182 ⟨Nat.le_of_ble_eq_true rfl, Nat.le_of_ble_eq_true rfl⟩ ⟨Nat.zero_le _, Nat.zero_le _⟩ hl.1 (Nat.le_of_ble_eq_true rfl) dX9_need_10 (fun H locs hV => ?_)
      obtain ⟨h1, h2⟩ := Prod.mk.inj (Sum.inr.inj (Option.some.inj h))
      subst h1
      subst h2
      subst hQ
      exact r_new_need cx hT hV hF hx0 hlk hl.1 ⟨Nat.le_of_ble_eq_true rfl, Nat.le_of_ble_eq_true rfl, Nat.le_of_ble_eq_true rfl, Nat.le_of_ble_eq_true rfl⟩ dX9_need_13 dX9_need_16 dX9_need_17 dX9_need_20 dX9_need_23
  rw [hH, hlocs] at goal
  exact goal
theorem k_X9_need {p : Program} {l : Launch} {e : Env} {R : Room} {s : State} {m : MethodId} {a : Array Value} {below : List Frame} {meth : Method} {c : Code} {H : Heap} {locs : List Loc} {cells slots : Nat} {Q : State → Prop} {cc : ByteArray} {own : String} {nL pc : Nat} {ls : Array Slot} {rest : List Value} {A : Nat → Prop} {E : EV} {X : va_W} {σ : St} {p1 : Int32} {σf : St} (h : x_X9_need p1 σ = some (.inl σf)) (cx : CallFix p m c cc nL s a TBL own) (hV : AtW E (wC E σ ++ X) A s H locs) (hF : FZ E A s s.heap) {idx : Nat} (w1 : Cond.methodLink own idx yX9_need ∈ TBL) (hR : (rm_X9_need).frames + 1 ≤ R.frames ∧ 8 + (2 + 11) + (rm_X9_need).locals ≤ R.locals) (hcs : cells ≤ R.cells ∧ slots ≤ R.slots) (hls : ls.size = nL) (hcat : (rest.map fun v => v.category).sum ≤ 8) (d : decode cc pc = .ok (.invokevirtual idx, 3)) (kk : ∀ (H1 : Heap) (locs1 : List Loc), AtW E (wC E σf ++ X) A s H1 locs1 → W p l e R s m a below meth c H1 locs1 cells slots Q (F0 m (pc + 3) ls (rest))) : W p l e R s m a below meth c H locs cells slots Q (F0 m pc ls (.int p1 :: .ref (eA E 0) :: rest)) :=
  r_callFv (n := 1) (As := [.int p1]) (q0 := 0) (ci := 9) (qq := (RX9, TX9, 14)) (c_X9_need h) wC_fst rfl rfl mk_3_180 mk_P_15 mk_1_1 mk_3_181 (by decide +kernel) rfl ⟨rfl, rfl⟩ cx hV hF w1 hR hcs hls rfl hcat d kk
theorem kx_X9_need {p : Program} {l : Launch} {e : Env} {R : Room} {s : State} {m : MethodId} {a : Array Value} {below : List Frame} {meth : Method} {c : Code} {H : Heap} {locs : List Loc} {cc : ByteArray} {own : String} {nL pc : Nat} {ls : Array Slot} {rest : List Value} {A : Nat → Prop} {E : EV} {X : va_W} {σ : St} {p1 : Int32} (hT : l.stackTraces = false) {nx : Nat} {σf : St} (h : x_X9_need p1 σ = some (.inr (nx, σf))) (cx : CallFix p m c cc nL s a TBL own) (hV : AtW E (wC E σ ++ X) A s H locs) (hF : FZ E A s s.heap) (hx0 : ∀ x ∈ c.exceptionTable.toList, False) (hlk : meth.locks = false) {idx : Nat} (w1 : Cond.methodLink own idx yX9_need ∈ TBL) (hR : (rmx_X9_need).frames + 1 ≤ R.frames ∧ 8 + (2 + 11) + (rmx_X9_need).locals ≤ R.locals) (hcs : 1 ≤ R.cells ∧ 6 ≤ R.slots) (hls : ls.size = nL) (hcat : (rest.map fun v => v.category).sum ≤ 8) (d : decode cc pc = .ok (.invokevirtual idx, 3)) : W p l e R s m a below meth c H locs 0 0 (EX E (wC E σf ++ X) (exN nx) A s a below) (F0 m pc ls (.int p1 :: .ref (eA E 0) :: rest)) :=
  r_callx (n := 1) (As := [.int p1]) (q0 := 0) (ci := 9) (qq := (RX9, TX9, 14)) (t_X9_need hT h) rfl rfl mk_3_180 mk_P_15 mk_1_1 mk_3_181 (by decide +kernel) rfl ⟨rfl, rfl⟩ cx hV hF hx0 hlk w1 hR hcs hls rfl hcat d
def x_X9_shop_b18 (w1 : Int32) (w2 : Int32) (σ3 : St) : Option ((Int32 × St) ⊕ (Nat × St)) :=
  bt (x_X9_need w2 σ3) fun σ4 =>
  bd (some (sI σ4 8 0)) fun σ5 =>
  bd2 (x_X3_read w1 σ5) fun v6 σ7 =>
  bd (some (sI σ7 9 (gI σ7 11))) fun σ8 =>
  (if v6 = 0 then
  bd (x_X7_copy 0 1 σ8) fun σ9 =>
  bd (x_X5_begin 0 0 σ9) fun σ10 =>
  bd (some (sI σ10 10 0)) fun σ11 =>
  some (.inl ((gI σ11 1), σ11))
  else
  some (.inl ((v6 - 10), σ8)))
def x_X9_shop_b17 (w12 : Int32) (σ13 : St) : Option ((Int32 × St) ⊕ (Nat × St)) :=
  x_X9_shop_b18 w12 0 σ13
def x_X9_shop (p1 : Int32) (σ : St) : Option ((Int32 × St) ⊕ (Nat × St)) :=
  (if p1 < 0 then
  x_X9_shop_b17 p1 σ
  else
  (if (gI σ 8) < p1 then
  x_X9_shop_b17 p1 σ
  else
  x_X9_shop_b18 p1 1 σ))
abbrev rm_X9_shop : Room := { frames := 8, cells := 0, slots := 0, locals := 175 }
abbrev rmx_X9_shop : Room := { frames := 8, cells := 1, slots := 6, locals := 175 }
set_option maxHeartbeats 4000000 in
set_option maxRecDepth 100000 in
theorem c_X9_shop {l : Launch} {E : EV} {X : va_W} {σ : St} {p1 : Int32} {rv : Int32} {σf : St} (h : x_X9_shop p1 σ = some (.inl (rv, σf))) : CMF l yX9_shop cX9_shop 3 (some .int) rm_X9_shop [.ref (eA E 0), .int p1] E (wC E σ ++ X) (wC E σf ++ X) (qI rv) := by
  refine CMF.start (by decide) (Nat.le_of_ble_eq_true rfl) (fun p e s m a below meth c A ls cx hr hlk hV hF hl => ?_)
  have cx : CallFix p m c cX9_shop 3 s a TBL RX9 := cx
  have hx := cx.1
  have hb := cx.2.1
  have hl : lv_has ls 3 [(0, .ref (eA E 0)), (1, .int p1)] := hl
  generalize hQ : EQ E (wC E σf ++ X) (qI rv) A s a below = QQ
  obtain ⟨H, hH⟩ : ∃ H, H = s.heap := ⟨_, rfl⟩
  obtain ⟨locs, hlocs⟩ : ∃ z, z = ([] : List Loc) := ⟨_, rfl⟩
  have hV : AtW E (wC E σ ++ X) A s H locs := by rw [hH, hlocs]; exact hV
  have goal : W p l e rm_X9_shop s m a below meth c H locs 0 0 QQ (F0 m 0 ls []) := by
    unfold x_X9_shop at h
    have hj18 : ∀ (w1 : Int32) (w2 : Int32) (σ3 : St) (H : Heap) (locs : List Loc) (ls : Array Slot), x_X9_shop_b18 w1 w2 σ3 = some (.inl (rv, σf)) → AtW E (wC E σ3 ++ X) A s H locs → lv_has ls 3 [(0, .ref (eA E 0)), (1, .int w1)] → W p l e rm_X9_shop s m a below meth c H locs 0 0 QQ (F0 m 18 ls [.int w2, .ref (eA E 0)]) := by
      intro w1 w2 σ3 H locs ls h hV hl
      unfold x_X9_shop_b18 at h
      refine bt_e h (fun σ4 hq h => ?_) (fun q hq h => ?_)
      rotate_left
      · exact (inrl' h).elim
      refine k_X9_need hq cx hV hF mk_3_178 ⟨Nat.le_of_ble_eq_true rfl, Nat.le_of_ble_eq_true rfl⟩ ⟨Nat.zero_le _, Nat.zero_le _⟩ hl.1 (Nat.le_of_ble_eq_true rfl) dX9_shop_18 (fun H locs hV => ?_)
      refine lv_aload_n hx hb dX9_shop_21 rfl (lv_at hl 0 rfl) ?_
      refine lv_iconst (v := 0) hx hb dX9_shop_22 (by decide) ?_
      refine bd_e h (fun σ5 hq h => ?_)
      refine P_X9_tapeBytes cx hV hq mk_2_139 dX9_shop_23 (fun H locs hV => ?_)
      refine lv_aload_n hx hb dX9_shop_26 rfl (lv_at hl 0 rfl) ?_
      refine G_X9_reader cx hV mk_2_146 dX9_shop_27 ?_
      refine lv_iload_n hx hb dX9_shop_30 rfl (lv_at hl 1 rfl) ?_
      refine bd2_e h (fun v6 σ7 hq h => ?_)
      refine k_X3_read hq cx hV hF mk_4_12 ⟨Nat.le_of_ble_eq_true rfl, Nat.le_of_ble_eq_true rfl⟩ ⟨Nat.zero_le _, Nat.zero_le _⟩ hl.1 (Nat.le_of_ble_eq_true rfl) dX9_shop_31 (fun H locs hV => ?_)
      refine lv_istore_n (lv' := [(2, .int v6), (0, .ref (eA E 0)), (1, .int w1)]) hx hb dX9_shop_34 rfl hl (by decide) rfl (fun ls hl => ?_)
      refine lv_aload_n hx hb dX9_shop_35 rfl (lv_at hl 1 rfl) ?_
      refine lv_aload_n hx hb dX9_shop_36 rfl (lv_at hl 1 rfl) ?_
      refine G_X9_reader cx hV mk_2_146 dX9_shop_37 ?_
      refine G_X3_place cx hV mk_1_153 dX9_shop_40 ?_
      refine bd_e h (fun σ8 hq h => ?_)
      refine P_X9_faultPlace cx hV hq mk_2_140 dX9_shop_43 (fun H locs hV => ?_)
      refine lv_iload_n hx hb dX9_shop_46 rfl (lv_at hl 0 rfl) ?_
      refine lv_if_eq (tgt := 55) hx hb dX9_shop_47 (by decide) (fun hc => ?_) (fun hc => ?_)
      · have h := ifp hc h
        refine lv_aload_n hx hb dX9_shop_55 rfl (lv_at hl 1 rfl) ?_
        refine G_X9_told cx hV mk_2_141 dX9_shop_56 ?_
        refine lv_aload_n hx hb dX9_shop_59 rfl (lv_at hl 1 rfl) ?_
        refine G_X9_reader cx hV mk_2_146 dX9_shop_60 ?_
        refine G_X3_draft cx hV mk_1_151 dX9_shop_63 ?_
        refine bd_e h (fun σ9 hq h => ?_)
        refine k_X7_copy (by decide) (by decide) hq cx hV mk_4_177 ⟨Nat.le_of_ble_eq_true rfl, Nat.le_of_ble_eq_true rfl⟩ ⟨Nat.zero_le _, Nat.zero_le _⟩ hl.1 (Nat.le_of_ble_eq_true rfl) dX9_shop_66 (fun H locs hV => ?_)
        refine lv_aload_n hx hb dX9_shop_69 rfl (lv_at hl 1 rfl) ?_
        refine G_X9_stock cx hV mk_2_142 dX9_shop_70 ?_
        refine lv_aload_n hx hb dX9_shop_73 rfl (lv_at hl 1 rfl) ?_
        refine G_X9_told cx hV mk_2_141 dX9_shop_74 ?_
        refine bd_e h (fun σ10 hq h => ?_)
        refine k_X5_begin (by decide) (by decide) hq cx hV mk_2_125 ⟨Nat.le_of_ble_eq_true rfl, Nat.le_of_ble_eq_true rfl⟩ ⟨Nat.zero_le _, Nat.zero_le _⟩ hl.1 (Nat.le_of_ble_eq_true rfl) dX9_shop_77 (fun H locs hV => ?_)
        refine lv_aload_n hx hb dX9_shop_80 rfl (lv_at hl 1 rfl) ?_
        refine lv_iconst (v := 0) hx hb dX9_shop_81 (by decide) ?_
        refine bd_e h (fun σ11 hq h => ?_)
        refine P_X9_images cx hV hq mk_2_144 dX9_shop_82 (fun H locs hV => ?_)
        refine lv_aload_n hx hb dX9_shop_85 rfl (lv_at hl 1 rfl) ?_
        refine G_X9_told cx hV mk_2_141 dX9_shop_86 ?_
        refine G_X7_sleeves cx hV (by decide) mk_1_60 dX9_shop_89 ?_
        have h := congrArg some (Sum.inl.inj (Option.some.inj h))
        obtain ⟨h1, h2⟩ := Prod.mk.inj (Option.some.inj h)
        subst h1
        subst h2
        subst hQ
        exact r_ireti cx hr hlk hV dX9_shop_92
      · have h := ifn hc h
        refine lv_iload_n hx hb dX9_shop_50 rfl (lv_at hl 0 rfl) ?_
        refine lv_bipush (v := 10) hx hb dX9_shop_51 (by decide) ?_
        refine lv_isub hx hb dX9_shop_53 ?_
        have h := congrArg some (Sum.inl.inj (Option.some.inj h))
        obtain ⟨h1, h2⟩ := Prod.mk.inj (Option.some.inj h)
        subst h1
        subst h2
        subst hQ
        exact r_ireti cx hr hlk hV dX9_shop_54
    have hj17 : ∀ (w12 : Int32) (σ13 : St) (H : Heap) (locs : List Loc) (ls : Array Slot), x_X9_shop_b17 w12 σ13 = some (.inl (rv, σf)) → AtW E (wC E σ13 ++ X) A s H locs → lv_has ls 3 [(0, .ref (eA E 0)), (1, .int w12)] → W p l e rm_X9_shop s m a below meth c H locs 0 0 QQ (F0 m 17 ls [.ref (eA E 0)]) := by
      intro w12 σ13 H locs ls h hV hl
      unfold x_X9_shop_b17 at h
      refine lv_iconst (v := 0) hx hb dX9_shop_17 (by decide) ?_
      exact hj18 w12 0 σ13 _ _ _ h hV (lv_sub hl [0, 1] rfl)
    refine lv_aload_n hx hb dX9_shop_0 rfl (lv_at hl 0 rfl) ?_
    refine lv_iload_n hx hb dX9_shop_1 rfl (lv_at hl 1 rfl) ?_
    refine lv_if_lt (tgt := 17) hx hb dX9_shop_2 (by decide) (fun hc => ?_) (fun hc => ?_)
    · have h := ifp hc h
      exact hj17 p1 σ _ _ _ h hV (lv_sub hl [0, 1] rfl)
    · have h := ifn hc h
      refine lv_iload_n hx hb dX9_shop_5 rfl (lv_at hl 1 rfl) ?_
      refine lv_aload_n hx hb dX9_shop_6 rfl (lv_at hl 0 rfl) ?_
      refine G_X9_tapeBytes cx hV mk_2_139 dX9_shop_7 ?_
      refine lv_icmp_gt (tgt := 17) hx hb dX9_shop_10 (by decide) (fun hc => ?_) (fun hc => ?_)
      · have h := ifp hc h
        exact hj17 p1 σ _ _ _ h hV (lv_sub hl [0, 1] rfl)
      · have h := ifn hc h
        refine lv_iconst (v := 1) hx hb dX9_shop_13 (by decide) ?_
        refine lv_goto (tgt := 18) hx hb dX9_shop_14 (by decide) ?_
        exact hj18 p1 1 σ _ _ _ h hV (lv_sub hl [0, 1] rfl)
  rw [hH, hlocs] at goal
  exact goal
set_option maxHeartbeats 4000000 in
set_option maxRecDepth 100000 in
theorem t_X9_shop {l : Launch} (hT : l.stackTraces = false) {E : EV} {X : va_W} {σ : St} {p1 : Int32} {nx : Nat} {σf : St} (h : x_X9_shop p1 σ = some (.inr (nx, σf))) : CXF l yX9_shop cX9_shop 3 (some .int) rmx_X9_shop [.ref (eA E 0), .int p1] E (wC E σ ++ X) (wC E σf ++ X) (exN nx) := by
  refine CXF.start (by decide) (Nat.le_of_ble_eq_true rfl) (fun p e s m a below meth c A ls cx hx0 hlk hV hF hl => ?_)
  have cx : CallFix p m c cX9_shop 3 s a TBL RX9 := cx
  have hx := cx.1
  have hb := cx.2.1
  have hl : lv_has ls 3 [(0, .ref (eA E 0)), (1, .int p1)] := hl
  generalize hQ : EX E (wC E σf ++ X) (exN nx) A s a below = QQ
  obtain ⟨H, hH⟩ : ∃ H, H = s.heap := ⟨_, rfl⟩
  obtain ⟨locs, hlocs⟩ : ∃ z, z = ([] : List Loc) := ⟨_, rfl⟩
  have hV : AtW E (wC E σ ++ X) A s H locs := by rw [hH, hlocs]; exact hV
  have goal : W p l e rmx_X9_shop s m a below meth c H locs 0 0 QQ (F0 m 0 ls []) := by
    unfold x_X9_shop at h
    have hj18 : ∀ (w1 : Int32) (w2 : Int32) (σ3 : St) (H : Heap) (locs : List Loc) (ls : Array Slot), x_X9_shop_b18 w1 w2 σ3 = some (.inr (nx, σf)) → AtW E (wC E σ3 ++ X) A s H locs → lv_has ls 3 [(0, .ref (eA E 0)), (1, .int w1)] → W p l e rmx_X9_shop s m a below meth c H locs 0 0 QQ (F0 m 18 ls [.int w2, .ref (eA E 0)]) := by
      intro w1 w2 σ3 H locs ls h hV hl
      unfold x_X9_shop_b18 at h
      refine bt_e h (fun σ4 hq h => ?_) (fun q hq h => ?_)
      rotate_left
      · have h := Sum.inr.inj h
        subst h
        subst hQ
        exact kx_X9_need hT hq cx hV hF hx0 hlk mk_3_178 ⟨Nat.le_of_ble_eq_true rfl, Nat.le_of_ble_eq_true rfl⟩ ⟨Nat.le_of_ble_eq_true rfl, Nat.le_of_ble_eq_true rfl⟩ hl.1 (Nat.le_of_ble_eq_true rfl) dX9_shop_18
      refine k_X9_need hq cx hV hF mk_3_178 ⟨Nat.le_of_ble_eq_true rfl, Nat.le_of_ble_eq_true rfl⟩ ⟨Nat.zero_le _, Nat.zero_le _⟩ hl.1 (Nat.le_of_ble_eq_true rfl) dX9_shop_18 (fun H locs hV => ?_)
      refine lv_aload_n hx hb dX9_shop_21 rfl (lv_at hl 0 rfl) ?_
      refine lv_iconst (v := 0) hx hb dX9_shop_22 (by decide) ?_
      refine bd_e h (fun σ5 hq h => ?_)
      refine P_X9_tapeBytes cx hV hq mk_2_139 dX9_shop_23 (fun H locs hV => ?_)
      refine lv_aload_n hx hb dX9_shop_26 rfl (lv_at hl 0 rfl) ?_
      refine G_X9_reader cx hV mk_2_146 dX9_shop_27 ?_
      refine lv_iload_n hx hb dX9_shop_30 rfl (lv_at hl 1 rfl) ?_
      refine bd2_e h (fun v6 σ7 hq h => ?_)
      refine k_X3_read hq cx hV hF mk_4_12 ⟨Nat.le_of_ble_eq_true rfl, Nat.le_of_ble_eq_true rfl⟩ ⟨Nat.zero_le _, Nat.zero_le _⟩ hl.1 (Nat.le_of_ble_eq_true rfl) dX9_shop_31 (fun H locs hV => ?_)
      refine lv_istore_n (lv' := [(2, .int v6), (0, .ref (eA E 0)), (1, .int w1)]) hx hb dX9_shop_34 rfl hl (by decide) rfl (fun ls hl => ?_)
      refine lv_aload_n hx hb dX9_shop_35 rfl (lv_at hl 1 rfl) ?_
      refine lv_aload_n hx hb dX9_shop_36 rfl (lv_at hl 1 rfl) ?_
      refine G_X9_reader cx hV mk_2_146 dX9_shop_37 ?_
      refine G_X3_place cx hV mk_1_153 dX9_shop_40 ?_
      refine bd_e h (fun σ8 hq h => ?_)
      refine P_X9_faultPlace cx hV hq mk_2_140 dX9_shop_43 (fun H locs hV => ?_)
      refine lv_iload_n hx hb dX9_shop_46 rfl (lv_at hl 0 rfl) ?_
      refine lv_if_eq (tgt := 55) hx hb dX9_shop_47 (by decide) (fun hc => ?_) (fun hc => ?_)
      · have h := ifp hc h
        refine lv_aload_n hx hb dX9_shop_55 rfl (lv_at hl 1 rfl) ?_
        refine G_X9_told cx hV mk_2_141 dX9_shop_56 ?_
        refine lv_aload_n hx hb dX9_shop_59 rfl (lv_at hl 1 rfl) ?_
        refine G_X9_reader cx hV mk_2_146 dX9_shop_60 ?_
        refine G_X3_draft cx hV mk_1_151 dX9_shop_63 ?_
        refine bd_e h (fun σ9 hq h => ?_)
        refine k_X7_copy (by decide) (by decide) hq cx hV mk_4_177 ⟨Nat.le_of_ble_eq_true rfl, Nat.le_of_ble_eq_true rfl⟩ ⟨Nat.zero_le _, Nat.zero_le _⟩ hl.1 (Nat.le_of_ble_eq_true rfl) dX9_shop_66 (fun H locs hV => ?_)
        refine lv_aload_n hx hb dX9_shop_69 rfl (lv_at hl 1 rfl) ?_
        refine G_X9_stock cx hV mk_2_142 dX9_shop_70 ?_
        refine lv_aload_n hx hb dX9_shop_73 rfl (lv_at hl 1 rfl) ?_
        refine G_X9_told cx hV mk_2_141 dX9_shop_74 ?_
        refine bd_e h (fun σ10 hq h => ?_)
        refine k_X5_begin (by decide) (by decide) hq cx hV mk_2_125 ⟨Nat.le_of_ble_eq_true rfl, Nat.le_of_ble_eq_true rfl⟩ ⟨Nat.zero_le _, Nat.zero_le _⟩ hl.1 (Nat.le_of_ble_eq_true rfl) dX9_shop_77 (fun H locs hV => ?_)
        refine lv_aload_n hx hb dX9_shop_80 rfl (lv_at hl 1 rfl) ?_
        refine lv_iconst (v := 0) hx hb dX9_shop_81 (by decide) ?_
        refine bd_e h (fun σ11 hq h => ?_)
        refine P_X9_images cx hV hq mk_2_144 dX9_shop_82 (fun H locs hV => ?_)
        refine lv_aload_n hx hb dX9_shop_85 rfl (lv_at hl 1 rfl) ?_
        refine G_X9_told cx hV mk_2_141 dX9_shop_86 ?_
        refine G_X7_sleeves cx hV (by decide) mk_1_60 dX9_shop_89 ?_
        exact (inlr h).elim
      · have h := ifn hc h
        refine lv_iload_n hx hb dX9_shop_50 rfl (lv_at hl 0 rfl) ?_
        refine lv_bipush (v := 10) hx hb dX9_shop_51 (by decide) ?_
        refine lv_isub hx hb dX9_shop_53 ?_
        exact (inlr h).elim
    have hj17 : ∀ (w12 : Int32) (σ13 : St) (H : Heap) (locs : List Loc) (ls : Array Slot), x_X9_shop_b17 w12 σ13 = some (.inr (nx, σf)) → AtW E (wC E σ13 ++ X) A s H locs → lv_has ls 3 [(0, .ref (eA E 0)), (1, .int w12)] → W p l e rmx_X9_shop s m a below meth c H locs 0 0 QQ (F0 m 17 ls [.ref (eA E 0)]) := by
      intro w12 σ13 H locs ls h hV hl
      unfold x_X9_shop_b17 at h
      refine lv_iconst (v := 0) hx hb dX9_shop_17 (by decide) ?_
      exact hj18 w12 0 σ13 _ _ _ h hV (lv_sub hl [0, 1] rfl)
    refine lv_aload_n hx hb dX9_shop_0 rfl (lv_at hl 0 rfl) ?_
    refine lv_iload_n hx hb dX9_shop_1 rfl (lv_at hl 1 rfl) ?_
    refine lv_if_lt (tgt := 17) hx hb dX9_shop_2 (by decide) (fun hc => ?_) (fun hc => ?_)
    · have h := ifp hc h
      exact hj17 p1 σ _ _ _ h hV (lv_sub hl [0, 1] rfl)
    · have h := ifn hc h
      refine lv_iload_n hx hb dX9_shop_5 rfl (lv_at hl 1 rfl) ?_
      refine lv_aload_n hx hb dX9_shop_6 rfl (lv_at hl 0 rfl) ?_
      refine G_X9_tapeBytes cx hV mk_2_139 dX9_shop_7 ?_
      refine lv_icmp_gt (tgt := 17) hx hb dX9_shop_10 (by decide) (fun hc => ?_) (fun hc => ?_)
      · have h := ifp hc h
        exact hj17 p1 σ _ _ _ h hV (lv_sub hl [0, 1] rfl)
      · have h := ifn hc h
        refine lv_iconst (v := 1) hx hb dX9_shop_13 (by decide) ?_
        refine lv_goto (tgt := 18) hx hb dX9_shop_14 (by decide) ?_
        exact hj18 p1 1 σ _ _ _ h hV (lv_sub hl [0, 1] rfl)
  rw [hH, hlocs] at goal
  exact goal
theorem k_X9_shop {p : Program} {l : Launch} {e : Env} {R : Room} {s : State} {m : MethodId} {a : Array Value} {below : List Frame} {meth : Method} {c : Code} {H : Heap} {locs : List Loc} {cells slots : Nat} {Q : State → Prop} {cc : ByteArray} {own : String} {nL pc : Nat} {ls : Array Slot} {rest : List Value} {A : Nat → Prop} {E : EV} {X : va_W} {σ : St} {p1 : Int32} {rv : Int32} {σf : St} (h : x_X9_shop p1 σ = some (.inl (rv, σf))) (cx : CallFix p m c cc nL s a TBL own) (hV : AtW E (wC E σ ++ X) A s H locs) (hF : FZ E A s s.heap) {idx : Nat} (w1 : Cond.methodLink own idx yX9_shop ∈ TBL) (hR : (rm_X9_shop).frames + 1 ≤ R.frames ∧ 8 + (3 + 11) + (rm_X9_shop).locals ≤ R.locals) (hcs : cells ≤ R.cells ∧ slots ≤ R.slots) (hls : ls.size = nL) (hcat : (rest.map fun v => v.category).sum ≤ 8) (d : decode cc pc = .ok (.invokevirtual idx, 3)) (kk : ∀ (H1 : Heap) (locs1 : List Loc), AtW E (wC E σf ++ X) A s H1 locs1 → W p l e R s m a below meth c H1 locs1 cells slots Q (F0 m (pc + 3) ls (.int rv :: rest))) : W p l e R s m a below meth c H locs cells slots Q (F0 m pc ls (.int p1 :: .ref (eA E 0) :: rest)) :=
  r_callFi (n := 1) (As := [.int p1]) (q0 := 0) (ci := 9) (qq := (RX9, TX9, 14)) (c_X9_shop h) wC_fst rfl rfl mk_3_175 mk_3_176 mk_1_1 mk_3_177 (by decide +kernel) rfl ⟨rfl, rfl⟩ cx hV hF w1 hR hcs hls rfl hcat d kk
theorem kx_X9_shop {p : Program} {l : Launch} {e : Env} {R : Room} {s : State} {m : MethodId} {a : Array Value} {below : List Frame} {meth : Method} {c : Code} {H : Heap} {locs : List Loc} {cc : ByteArray} {own : String} {nL pc : Nat} {ls : Array Slot} {rest : List Value} {A : Nat → Prop} {E : EV} {X : va_W} {σ : St} {p1 : Int32} (hT : l.stackTraces = false) {nx : Nat} {σf : St} (h : x_X9_shop p1 σ = some (.inr (nx, σf))) (cx : CallFix p m c cc nL s a TBL own) (hV : AtW E (wC E σ ++ X) A s H locs) (hF : FZ E A s s.heap) (hx0 : ∀ x ∈ c.exceptionTable.toList, False) (hlk : meth.locks = false) {idx : Nat} (w1 : Cond.methodLink own idx yX9_shop ∈ TBL) (hR : (rmx_X9_shop).frames + 1 ≤ R.frames ∧ 8 + (3 + 11) + (rmx_X9_shop).locals ≤ R.locals) (hcs : 1 ≤ R.cells ∧ 6 ≤ R.slots) (hls : ls.size = nL) (hcat : (rest.map fun v => v.category).sum ≤ 8) (d : decode cc pc = .ok (.invokevirtual idx, 3)) : W p l e R s m a below meth c H locs 0 0 (EX E (wC E σf ++ X) (exN nx) A s a below) (F0 m pc ls (.int p1 :: .ref (eA E 0) :: rest)) :=
  r_callx (n := 1) (As := [.int p1]) (q0 := 0) (ci := 9) (qq := (RX9, TX9, 14)) (t_X9_shop hT h) rfl rfl mk_3_175 mk_3_176 mk_1_1 mk_3_177 (by decide +kernel) rfl ⟨rfl, rfl⟩ cx hV hF hx0 hlk w1 hR hcs hls rfl hcat d
def x_X9_fault (σ : St) : Option Int32 :=
  some (gI σ 9)
abbrev rm_X9_fault : Room := { frames := 0, cells := 0, slots := 0, locals := 0 }
set_option maxHeartbeats 4000000 in
set_option maxRecDepth 100000 in
theorem c_X9_fault {l : Launch} {E : EV} {X : va_W} {σ : St} {rv : Int32} (h : x_X9_fault σ = some rv) : CM l yX9_fault cX9_fault 1 (some .int) rm_X9_fault [.ref (eA E 0)] E (wC E σ ++ X) (wC E σ ++ X) (qI rv) := by
  refine CM.start (by decide) (Nat.le_of_ble_eq_true rfl) (fun p e s m a below meth c A ls cx hr hlk hV hl => ?_)
  have cx : CallFix p m c cX9_fault 1 s a TBL RX9 := cx
  have hx := cx.1
  have hb := cx.2.1
  have hl : lv_has ls 1 [(0, .ref (eA E 0))] := hl
  generalize hQ : EQ E (wC E σ ++ X) (qI rv) A s a below = QQ
  obtain ⟨H, hH⟩ : ∃ H, H = s.heap := ⟨_, rfl⟩
  obtain ⟨locs, hlocs⟩ : ∃ z, z = ([] : List Loc) := ⟨_, rfl⟩
  have hV : AtW E (wC E σ ++ X) A s H locs := by rw [hH, hlocs]; exact hV
  have goal : W p l e rm_X9_fault s m a below meth c H locs 0 0 QQ (F0 m 0 ls []) := by
    unfold x_X9_fault at h
    refine lv_aload_n hx hb dX9_fault_0 rfl (lv_at hl 0 rfl) ?_
    refine G_X9_faultPlace cx hV mk_2_140 dX9_fault_1 ?_
    have h1 := Option.some.inj h
    subst h1
    subst hQ
    exact r_ireti cx hr hlk hV dX9_fault_4
  rw [hH, hlocs] at goal
  exact goal
theorem k_X9_fault {p : Program} {l : Launch} {e : Env} {R : Room} {s : State} {m : MethodId} {a : Array Value} {below : List Frame} {meth : Method} {c : Code} {H : Heap} {locs : List Loc} {cells slots : Nat} {Q : State → Prop} {cc : ByteArray} {own : String} {nL pc : Nat} {ls : Array Slot} {rest : List Value} {A : Nat → Prop} {E : EV} {X : va_W} {σ : St} {rv : Int32} (h : x_X9_fault σ = some rv) (cx : CallFix p m c cc nL s a TBL own) (hV : AtW E (wC E σ ++ X) A s H locs) {idx : Nat} (w1 : Cond.methodLink own idx yX9_fault ∈ TBL) (hR : (rm_X9_fault).frames + 1 ≤ R.frames ∧ 8 + (1 + 11) + (rm_X9_fault).locals ≤ R.locals) (hcs : cells ≤ R.cells ∧ slots ≤ R.slots) (hls : ls.size = nL) (hcat : (rest.map fun v => v.category).sum ≤ 8) (d : decode cc pc = .ok (.invokevirtual idx, 3)) (kk : ∀ (H1 : Heap) (locs1 : List Loc), AtW E (wC E σ ++ X) A s H1 locs1 → W p l e R s m a below meth c H1 locs1 cells slots Q (F0 m (pc + 3) ls (.int rv :: rest))) : W p l e R s m a below meth c H locs cells slots Q (F0 m pc ls (.ref (eA E 0) :: rest)) :=
  r_calli (n := 0) (As := []) (q0 := 0) (ci := 9) (qq := (RX9, TX9, 14)) (c_X9_fault h) rfl rfl rfl mk_2_191 mk_2_192 mk_1_1 mk_2_193 (by decide +kernel) rfl ⟨rfl, rfl⟩ cx hV w1 hR hcs hls rfl hcat d kk
def x_X9_told_b81 (w1 : Int32) (w2 : Int32) (σ3 : St) : Option ((Int32 × St) ⊕ (Nat × St)) :=
  bt (x_X9_need w2 σ3) fun σ4 =>
  bd (x_X2_at 7 (w1 - 4) σ4) fun v5 =>
  some (.inl (v5, σ4))
def x_X9_told_b80 (w6 : Int32) (σ7 : St) : Option ((Int32 × St) ⊕ (Nat × St)) :=
  x_X9_told_b81 w6 0 σ7
def x_X9_told (p1 : Int32) (σ : St) : Option ((Int32 × St) ⊕ (Nat × St)) :=
  (if p1 = 0 then
  some (.inl ((gI σ 0), σ))
  else
  (if p1 = 1 then
  some (.inl ((gI σ 1), σ))
  else
  (if p1 = 2 then
  some (.inl ((gI σ 2), σ))
  else
  (if p1 = 3 then
  some (.inl ((gI σ 3), σ))
  else
  (if p1 < 4 then
  x_X9_told_b80 p1 σ
  else
  (if 8 ≤ p1 then
  x_X9_told_b80 p1 σ
  else
  x_X9_told_b81 p1 1 σ))))))
abbrev rm_X9_told : Room := { frames := 3, cells := 0, slots := 0, locals := 65 }
abbrev rmx_X9_told : Room := { frames := 7, cells := 1, slots := 6, locals := 103 }
set_option maxHeartbeats 4000000 in
set_option maxRecDepth 100000 in
theorem c_X9_told {l : Launch} {E : EV} {X : va_W} {σ : St} {p1 : Int32} {rv : Int32} {σf : St} (h : x_X9_told p1 σ = some (.inl (rv, σf))) : CMF l yX9_told cX9_told 2 (some .int) rm_X9_told [.ref (eA E 0), .int p1] E (wC E σ ++ X) (wC E σf ++ X) (qI rv) := by
  refine CMF.start (by decide) (Nat.le_of_ble_eq_true rfl) (fun p e s m a below meth c A ls cx hr hlk hV hF hl => ?_)
  have cx : CallFix p m c cX9_told 2 s a TBL RX9 := cx
  have hx := cx.1
  have hb := cx.2.1
  have hl : lv_has ls 2 [(0, .ref (eA E 0)), (1, .int p1)] := hl
  generalize hQ : EQ E (wC E σf ++ X) (qI rv) A s a below = QQ
  obtain ⟨H, hH⟩ : ∃ H, H = s.heap := ⟨_, rfl⟩
  obtain ⟨locs, hlocs⟩ : ∃ z, z = ([] : List Loc) := ⟨_, rfl⟩
  have hV : AtW E (wC E σ ++ X) A s H locs := by rw [hH, hlocs]; exact hV
  have goal : W p l e rm_X9_told s m a below meth c H locs 0 0 QQ (F0 m 0 ls []) := by
    unfold x_X9_told at h
    have hj81 : ∀ (w1 : Int32) (w2 : Int32) (σ3 : St) (H : Heap) (locs : List Loc) (ls : Array Slot), x_X9_told_b81 w1 w2 σ3 = some (.inl (rv, σf)) → AtW E (wC E σ3 ++ X) A s H locs → lv_has ls 2 [(0, .ref (eA E 0)), (1, .int w1)] → W p l e rm_X9_told s m a below meth c H locs 0 0 QQ (F0 m 81 ls [.int w2, .ref (eA E 0)]) := by
      intro w1 w2 σ3 H locs ls h hV hl
      unfold x_X9_told_b81 at h
      refine bt_e h (fun σ4 hq h => ?_) (fun q hq h => ?_)
      rotate_left
      · exact (inrl' h).elim
      refine k_X9_need hq cx hV hF mk_3_178 ⟨Nat.le_of_ble_eq_true rfl, Nat.le_of_ble_eq_true rfl⟩ ⟨Nat.zero_le _, Nat.zero_le _⟩ hl.1 (Nat.le_of_ble_eq_true rfl) dX9_told_81 (fun H locs hV => ?_)
      refine lv_aload_n hx hb dX9_told_84 rfl (lv_at hl 0 rfl) ?_
      refine G_X9_told cx hV mk_2_141 dX9_told_85 ?_
      refine G_X7_weights cx hV (by decide) mk_1_86 dX9_told_88 ?_
      refine lv_iload_n hx hb dX9_told_91 rfl (lv_at hl 1 rfl) ?_
      refine lv_iconst (v := 4) hx hb dX9_told_92 (by decide) ?_
      refine lv_isub hx hb dX9_told_93 ?_
      refine bd_e h (fun v5 hq h => ?_)
      refine k_X2_at (by decide) hq cx hV mk_3_93 ⟨Nat.le_of_ble_eq_true rfl, Nat.le_of_ble_eq_true rfl⟩ ⟨Nat.zero_le _, Nat.zero_le _⟩ hl.1 (Nat.le_of_ble_eq_true rfl) dX9_told_94 (fun H locs hV => ?_)
      have h := congrArg some (Sum.inl.inj (Option.some.inj h))
      obtain ⟨h1, h2⟩ := Prod.mk.inj (Option.some.inj h)
      subst h1
      subst h2
      subst hQ
      exact r_ireti cx hr hlk hV dX9_told_97
    have hj80 : ∀ (w6 : Int32) (σ7 : St) (H : Heap) (locs : List Loc) (ls : Array Slot), x_X9_told_b80 w6 σ7 = some (.inl (rv, σf)) → AtW E (wC E σ7 ++ X) A s H locs → lv_has ls 2 [(0, .ref (eA E 0)), (1, .int w6)] → W p l e rm_X9_told s m a below meth c H locs 0 0 QQ (F0 m 80 ls [.ref (eA E 0)]) := by
      intro w6 σ7 H locs ls h hV hl
      unfold x_X9_told_b80 at h
      refine lv_iconst (v := 0) hx hb dX9_told_80 (by decide) ?_
      exact hj81 w6 0 σ7 _ _ _ h hV (lv_sub hl [0, 1] rfl)
    refine lv_iload_n hx hb dX9_told_0 rfl (lv_at hl 1 rfl) ?_
    by_cases hc0 : p1 = 0
    · have h := ifp hc0 h
      refine r_swIn (tgt := 32) cx hc0 dX9_told_1 (by decide) (by decide) rfl (by decide) ?_
      refine lv_aload_n hx hb dX9_told_32 rfl (lv_at hl 0 rfl) ?_
      refine G_X9_told cx hV mk_2_141 dX9_told_33 ?_
      refine G_X7_crates cx hV (by decide) mk_1_54 dX9_told_36 ?_
      have h := congrArg some (Sum.inl.inj (Option.some.inj h))
      obtain ⟨h1, h2⟩ := Prod.mk.inj (Option.some.inj h)
      subst h1
      subst h2
      subst hQ
      exact r_ireti cx hr hlk hV dX9_told_39
    have h := ifn hc0 h
    by_cases hc1 : p1 = 1
    · have h := ifp hc1 h
      refine r_swIn (tgt := 40) cx hc1 dX9_told_1 (by decide) (by decide) rfl (by decide) ?_
      refine lv_aload_n hx hb dX9_told_40 rfl (lv_at hl 0 rfl) ?_
      refine G_X9_told cx hV mk_2_141 dX9_told_41 ?_
      refine G_X7_sleeves cx hV (by decide) mk_1_60 dX9_told_44 ?_
      have h := congrArg some (Sum.inl.inj (Option.some.inj h))
      obtain ⟨h1, h2⟩ := Prod.mk.inj (Option.some.inj h)
      subst h1
      subst h2
      subst hQ
      exact r_ireti cx hr hlk hV dX9_told_47
    have h := ifn hc1 h
    by_cases hc2 : p1 = 2
    · have h := ifp hc2 h
      refine r_swIn (tgt := 48) cx hc2 dX9_told_1 (by decide) (by decide) rfl (by decide) ?_
      refine lv_aload_n hx hb dX9_told_48 rfl (lv_at hl 0 rfl) ?_
      refine G_X9_told cx hV mk_2_141 dX9_told_49 ?_
      refine G_X7_lookers cx hV (by decide) mk_1_65 dX9_told_52 ?_
      have h := congrArg some (Sum.inl.inj (Option.some.inj h))
      obtain ⟨h1, h2⟩ := Prod.mk.inj (Option.some.inj h)
      subst h1
      subst h2
      subst hQ
      exact r_ireti cx hr hlk hV dX9_told_55
    have h := ifn hc2 h
    by_cases hc3 : p1 = 3
    · have h := ifp hc3 h
      refine r_swIn (tgt := 56) cx hc3 dX9_told_1 (by decide) (by decide) rfl (by decide) ?_
      refine lv_aload_n hx hb dX9_told_56 rfl (lv_at hl 0 rfl) ?_
      refine G_X9_told cx hV mk_2_141 dX9_told_57 ?_
      refine G_X7_stop cx hV (by decide) mk_1_67 dX9_told_60 ?_
      have h := congrArg some (Sum.inl.inj (Option.some.inj h))
      obtain ⟨h1, h2⟩ := Prod.mk.inj (Option.some.inj h)
      subst h1
      subst h2
      subst hQ
      exact r_ireti cx hr hlk hV dX9_told_63
    have h := ifn hc3 h
    have hout : (p1).toInt < 0 ∨ 3 < (p1).toInt := by
      have g0 := lv_neT hc0 (a := 0) rfl
      have g1 := lv_neT hc1 (a := 1) rfl
      have g2 := lv_neT hc2 (a := 2) rfl
      have g3 := lv_neT hc3 (a := 3) rfl
      omega
    refine lv_tableOut (tgt := 64) hx hb dX9_told_1 hout (by decide) ?_
    refine lv_aload_n hx hb dX9_told_64 rfl (lv_at hl 0 rfl) ?_
    refine lv_iload_n hx hb dX9_told_65 rfl (lv_at hl 1 rfl) ?_
    refine lv_iconst (v := 4) hx hb dX9_told_66 (by decide) ?_
    refine lv_icmp_lt (tgt := 80) hx hb dX9_told_67 (by decide) (fun hc => ?_) (fun hc => ?_)
    · have h := ifp hc h
      exact hj80 p1 σ _ _ _ h hV (lv_sub hl [0, 1] rfl)
    · have h := ifn hc h
      refine lv_iload_n hx hb dX9_told_70 rfl (lv_at hl 1 rfl) ?_
      refine lv_bipush (v := 8) hx hb dX9_told_71 (by decide) ?_
      refine lv_icmp_ge (tgt := 80) hx hb dX9_told_73 (by decide) (fun hc => ?_) (fun hc => ?_)
      · have h := ifp hc h
        exact hj80 p1 σ _ _ _ h hV (lv_sub hl [0, 1] rfl)
      · have h := ifn hc h
        refine lv_iconst (v := 1) hx hb dX9_told_76 (by decide) ?_
        refine lv_goto (tgt := 81) hx hb dX9_told_77 (by decide) ?_
        exact hj81 p1 1 σ _ _ _ h hV (lv_sub hl [0, 1] rfl)
  rw [hH, hlocs] at goal
  exact goal
set_option maxHeartbeats 4000000 in
set_option maxRecDepth 100000 in
theorem t_X9_told {l : Launch} (hT : l.stackTraces = false) {E : EV} {X : va_W} {σ : St} {p1 : Int32} {nx : Nat} {σf : St} (h : x_X9_told p1 σ = some (.inr (nx, σf))) : CXF l yX9_told cX9_told 2 (some .int) rmx_X9_told [.ref (eA E 0), .int p1] E (wC E σ ++ X) (wC E σf ++ X) (exN nx) := by
  refine CXF.start (by decide) (Nat.le_of_ble_eq_true rfl) (fun p e s m a below meth c A ls cx hx0 hlk hV hF hl => ?_)
  have cx : CallFix p m c cX9_told 2 s a TBL RX9 := cx
  have hx := cx.1
  have hb := cx.2.1
  have hl : lv_has ls 2 [(0, .ref (eA E 0)), (1, .int p1)] := hl
  generalize hQ : EX E (wC E σf ++ X) (exN nx) A s a below = QQ
  obtain ⟨H, hH⟩ : ∃ H, H = s.heap := ⟨_, rfl⟩
  obtain ⟨locs, hlocs⟩ : ∃ z, z = ([] : List Loc) := ⟨_, rfl⟩
  have hV : AtW E (wC E σ ++ X) A s H locs := by rw [hH, hlocs]; exact hV
  have goal : W p l e rmx_X9_told s m a below meth c H locs 0 0 QQ (F0 m 0 ls []) := by
    unfold x_X9_told at h
    have hj81 : ∀ (w1 : Int32) (w2 : Int32) (σ3 : St) (H : Heap) (locs : List Loc) (ls : Array Slot), x_X9_told_b81 w1 w2 σ3 = some (.inr (nx, σf)) → AtW E (wC E σ3 ++ X) A s H locs → lv_has ls 2 [(0, .ref (eA E 0)), (1, .int w1)] → W p l e rmx_X9_told s m a below meth c H locs 0 0 QQ (F0 m 81 ls [.int w2, .ref (eA E 0)]) := by
      intro w1 w2 σ3 H locs ls h hV hl
      unfold x_X9_told_b81 at h
      refine bt_e h (fun σ4 hq h => ?_) (fun q hq h => ?_)
      rotate_left
      · have h := Sum.inr.inj h
        subst h
        subst hQ
        exact kx_X9_need hT hq cx hV hF hx0 hlk mk_3_178 ⟨Nat.le_of_ble_eq_true rfl, Nat.le_of_ble_eq_true rfl⟩ ⟨Nat.le_of_ble_eq_true rfl, Nat.le_of_ble_eq_true rfl⟩ hl.1 (Nat.le_of_ble_eq_true rfl) dX9_told_81
      refine k_X9_need hq cx hV hF mk_3_178 ⟨Nat.le_of_ble_eq_true rfl, Nat.le_of_ble_eq_true rfl⟩ ⟨Nat.zero_le _, Nat.zero_le _⟩ hl.1 (Nat.le_of_ble_eq_true rfl) dX9_told_81 (fun H locs hV => ?_)
      refine lv_aload_n hx hb dX9_told_84 rfl (lv_at hl 0 rfl) ?_
      refine G_X9_told cx hV mk_2_141 dX9_told_85 ?_
      refine G_X7_weights cx hV (by decide) mk_1_86 dX9_told_88 ?_
      refine lv_iload_n hx hb dX9_told_91 rfl (lv_at hl 1 rfl) ?_
      refine lv_iconst (v := 4) hx hb dX9_told_92 (by decide) ?_
      refine lv_isub hx hb dX9_told_93 ?_
      refine bd_e h (fun v5 hq h => ?_)
      refine k_X2_at (by decide) hq cx hV mk_3_93 ⟨Nat.le_of_ble_eq_true rfl, Nat.le_of_ble_eq_true rfl⟩ ⟨Nat.zero_le _, Nat.zero_le _⟩ hl.1 (Nat.le_of_ble_eq_true rfl) dX9_told_94 (fun H locs hV => ?_)
      exact (inlr h).elim
    have hj80 : ∀ (w6 : Int32) (σ7 : St) (H : Heap) (locs : List Loc) (ls : Array Slot), x_X9_told_b80 w6 σ7 = some (.inr (nx, σf)) → AtW E (wC E σ7 ++ X) A s H locs → lv_has ls 2 [(0, .ref (eA E 0)), (1, .int w6)] → W p l e rmx_X9_told s m a below meth c H locs 0 0 QQ (F0 m 80 ls [.ref (eA E 0)]) := by
      intro w6 σ7 H locs ls h hV hl
      unfold x_X9_told_b80 at h
      refine lv_iconst (v := 0) hx hb dX9_told_80 (by decide) ?_
      exact hj81 w6 0 σ7 _ _ _ h hV (lv_sub hl [0, 1] rfl)
    refine lv_iload_n hx hb dX9_told_0 rfl (lv_at hl 1 rfl) ?_
    by_cases hc0 : p1 = 0
    · have h := ifp hc0 h
      refine r_swIn (tgt := 32) cx hc0 dX9_told_1 (by decide) (by decide) rfl (by decide) ?_
      refine lv_aload_n hx hb dX9_told_32 rfl (lv_at hl 0 rfl) ?_
      refine G_X9_told cx hV mk_2_141 dX9_told_33 ?_
      refine G_X7_crates cx hV (by decide) mk_1_54 dX9_told_36 ?_
      exact (inlr h).elim
    have h := ifn hc0 h
    by_cases hc1 : p1 = 1
    · have h := ifp hc1 h
      refine r_swIn (tgt := 40) cx hc1 dX9_told_1 (by decide) (by decide) rfl (by decide) ?_
      refine lv_aload_n hx hb dX9_told_40 rfl (lv_at hl 0 rfl) ?_
      refine G_X9_told cx hV mk_2_141 dX9_told_41 ?_
      refine G_X7_sleeves cx hV (by decide) mk_1_60 dX9_told_44 ?_
      exact (inlr h).elim
    have h := ifn hc1 h
    by_cases hc2 : p1 = 2
    · have h := ifp hc2 h
      refine r_swIn (tgt := 48) cx hc2 dX9_told_1 (by decide) (by decide) rfl (by decide) ?_
      refine lv_aload_n hx hb dX9_told_48 rfl (lv_at hl 0 rfl) ?_
      refine G_X9_told cx hV mk_2_141 dX9_told_49 ?_
      refine G_X7_lookers cx hV (by decide) mk_1_65 dX9_told_52 ?_
      exact (inlr h).elim
    have h := ifn hc2 h
    by_cases hc3 : p1 = 3
    · have h := ifp hc3 h
      refine r_swIn (tgt := 56) cx hc3 dX9_told_1 (by decide) (by decide) rfl (by decide) ?_
      refine lv_aload_n hx hb dX9_told_56 rfl (lv_at hl 0 rfl) ?_
      refine G_X9_told cx hV mk_2_141 dX9_told_57 ?_
      refine G_X7_stop cx hV (by decide) mk_1_67 dX9_told_60 ?_
      exact (inlr h).elim
    have h := ifn hc3 h
    have hout : (p1).toInt < 0 ∨ 3 < (p1).toInt := by
      have g0 := lv_neT hc0 (a := 0) rfl
      have g1 := lv_neT hc1 (a := 1) rfl
      have g2 := lv_neT hc2 (a := 2) rfl
      have g3 := lv_neT hc3 (a := 3) rfl
      omega
    refine lv_tableOut (tgt := 64) hx hb dX9_told_1 hout (by decide) ?_
    refine lv_aload_n hx hb dX9_told_64 rfl (lv_at hl 0 rfl) ?_
    refine lv_iload_n hx hb dX9_told_65 rfl (lv_at hl 1 rfl) ?_
    refine lv_iconst (v := 4) hx hb dX9_told_66 (by decide) ?_
    refine lv_icmp_lt (tgt := 80) hx hb dX9_told_67 (by decide) (fun hc => ?_) (fun hc => ?_)
    · have h := ifp hc h
      exact hj80 p1 σ _ _ _ h hV (lv_sub hl [0, 1] rfl)
    · have h := ifn hc h
      refine lv_iload_n hx hb dX9_told_70 rfl (lv_at hl 1 rfl) ?_
      refine lv_bipush (v := 8) hx hb dX9_told_71 (by decide) ?_
      refine lv_icmp_ge (tgt := 80) hx hb dX9_told_73 (by decide) (fun hc => ?_) (fun hc => ?_)
      · have h := ifp hc h
        exact hj80 p1 σ _ _ _ h hV (lv_sub hl [0, 1] rfl)
      · have h := ifn hc h
        refine lv_iconst (v := 1) hx hb dX9_told_76 (by decide) ?_
        refine lv_goto (tgt := 81) hx hb dX9_told_77 (by decide) ?_
        exact hj81 p1 1 σ _ _ _ h hV (lv_sub hl [0, 1] rfl)
  rw [hH, hlocs] at goal
  exact goal
theorem k_X9_told {p : Program} {l : Launch} {e : Env} {R : Room} {s : State} {m : MethodId} {a : Array Value} {below : List Frame} {meth : Method} {c : Code} {H : Heap} {locs : List Loc} {cells slots : Nat} {Q : State → Prop} {cc : ByteArray} {own : String} {nL pc : Nat} {ls : Array Slot} {rest : List Value} {A : Nat → Prop} {E : EV} {X : va_W} {σ : St} {p1 : Int32} {rv : Int32} {σf : St} (h : x_X9_told p1 σ = some (.inl (rv, σf))) (cx : CallFix p m c cc nL s a TBL own) (hV : AtW E (wC E σ ++ X) A s H locs) (hF : FZ E A s s.heap) {idx : Nat} (w1 : Cond.methodLink own idx yX9_told ∈ TBL) (hR : (rm_X9_told).frames + 1 ≤ R.frames ∧ 8 + (2 + 11) + (rm_X9_told).locals ≤ R.locals) (hcs : cells ≤ R.cells ∧ slots ≤ R.slots) (hls : ls.size = nL) (hcat : (rest.map fun v => v.category).sum ≤ 8) (d : decode cc pc = .ok (.invokevirtual idx, 3)) (kk : ∀ (H1 : Heap) (locs1 : List Loc), AtW E (wC E σf ++ X) A s H1 locs1 → W p l e R s m a below meth c H1 locs1 cells slots Q (F0 m (pc + 3) ls (.int rv :: rest))) : W p l e R s m a below meth c H locs cells slots Q (F0 m pc ls (.int p1 :: .ref (eA E 0) :: rest)) :=
  r_callFi (n := 1) (As := [.int p1]) (q0 := 0) (ci := 9) (qq := (RX9, TX9, 14)) (c_X9_told h) wC_fst rfl rfl mk_4_186 mk_4_187 mk_1_1 mk_4_188 (by decide +kernel) rfl ⟨rfl, rfl⟩ cx hV hF w1 hR hcs hls rfl hcat d kk
theorem kx_X9_told {p : Program} {l : Launch} {e : Env} {R : Room} {s : State} {m : MethodId} {a : Array Value} {below : List Frame} {meth : Method} {c : Code} {H : Heap} {locs : List Loc} {cc : ByteArray} {own : String} {nL pc : Nat} {ls : Array Slot} {rest : List Value} {A : Nat → Prop} {E : EV} {X : va_W} {σ : St} {p1 : Int32} (hT : l.stackTraces = false) {nx : Nat} {σf : St} (h : x_X9_told p1 σ = some (.inr (nx, σf))) (cx : CallFix p m c cc nL s a TBL own) (hV : AtW E (wC E σ ++ X) A s H locs) (hF : FZ E A s s.heap) (hx0 : ∀ x ∈ c.exceptionTable.toList, False) (hlk : meth.locks = false) {idx : Nat} (w1 : Cond.methodLink own idx yX9_told ∈ TBL) (hR : (rmx_X9_told).frames + 1 ≤ R.frames ∧ 8 + (2 + 11) + (rmx_X9_told).locals ≤ R.locals) (hcs : 1 ≤ R.cells ∧ 6 ≤ R.slots) (hls : ls.size = nL) (hcat : (rest.map fun v => v.category).sum ≤ 8) (d : decode cc pc = .ok (.invokevirtual idx, 3)) : W p l e R s m a below meth c H locs 0 0 (EX E (wC E σf ++ X) (exN nx) A s a below) (F0 m pc ls (.int p1 :: .ref (eA E 0) :: rest)) :=
  r_callx (n := 1) (As := [.int p1]) (q0 := 0) (ci := 9) (qq := (RX9, TX9, 14)) (t_X9_told hT h) rfl rfl mk_4_186 mk_4_187 mk_1_1 mk_4_188 (by decide +kernel) rfl ⟨rfl, rfl⟩ cx hV hF hx0 hlk w1 hR hcs hls rfl hcat d
def x_X9_needCrate (p1 : Int32) (σ : St) : Option (St ⊕ (Nat × St)) :=
  bd (x_X7_hasCrate 0 p1 σ) fun v1 =>
  (if v1 = 0 then
  bd (x_X2_add 35 0 1 σ) fun σ2 =>
  some (.inr (1, σ2))
  else
  some (.inl σ))
abbrev rm_X9_needCrate : Room := { frames := 2, cells := 0, slots := 0, locals := 44 }
abbrev rmx_X9_needCrate : Room := { frames := 6, cells := 1, slots := 6, locals := 82 }
set_option maxHeartbeats 4000000 in
set_option maxRecDepth 100000 in
theorem c_X9_needCrate {l : Launch} {E : EV} {X : va_W} {σ : St} {p1 : Int32} {σf : St} (h : x_X9_needCrate p1 σ = some (.inl σf)) : CMF l yX9_needCrate cX9_needCrate 2 none rm_X9_needCrate [.ref (eA E 0), .int p1] E (wC E σ ++ X) (wC E σf ++ X) qV := by
  refine CMF.start (by decide) (Nat.le_of_ble_eq_true rfl) (fun p e s m a below meth c A ls cx hr hlk hV hF hl => ?_)
  have cx : CallFix p m c cX9_needCrate 2 s a TBL RX9 := cx
  have hx := cx.1
  have hb := cx.2.1
  have hl : lv_has ls 2 [(0, .ref (eA E 0)), (1, .int p1)] := hl
  generalize hQ : EQ E (wC E σf ++ X) qV A s a below = QQ
  obtain ⟨H, hH⟩ : ∃ H, H = s.heap := ⟨_, rfl⟩
  obtain ⟨locs, hlocs⟩ : ∃ z, z = ([] : List Loc) := ⟨_, rfl⟩
  have hV : AtW E (wC E σ ++ X) A s H locs := by rw [hH, hlocs]; exact hV
  have goal : W p l e rm_X9_needCrate s m a below meth c H locs 0 0 QQ (F0 m 0 ls []) := by
    unfold x_X9_needCrate at h
    refine lv_aload_n hx hb dX9_needCrate_0 rfl (lv_at hl 0 rfl) ?_
    refine G_X9_told cx hV mk_2_141 dX9_needCrate_1 ?_
    refine lv_iload_n hx hb dX9_needCrate_4 rfl (lv_at hl 1 rfl) ?_
    refine bd_e h (fun v1 hq h => ?_)
    refine k_X7_hasCrate (by decide) hq cx hV mk_3_145 ⟨Nat.le_of_ble_eq_true rfl, Nat.le_of_ble_eq_true rfl⟩ ⟨Nat.zero_le _, Nat.zero_le _⟩ hl.1 (Nat.le_of_ble_eq_true rfl) dX9_needCrate_5 (fun H locs hV => ?_)
    refine lv_if_ne (tgt := 31) hx hb dX9_needCrate_8 (by decide) (fun hc => ?_) (fun hc => ?_)
    · have h := ifn hc h
      have h := congrArg some (Sum.inl.inj (Option.some.inj h))
      have h1 := Option.some.inj h
      subst h1
      subst hQ
      exact r_vret cx hr hlk hV dX9_needCrate_31
    · have h := ifp hc h
      refine lv_aload_n hx hb dX9_needCrate_11 rfl (lv_at hl 0 rfl) ?_
      refine G_X9_refused cx hV mk_2_145 dX9_needCrate_12 ?_
      refine lv_iconst (v := 0) hx hb dX9_needCrate_15 (by decide) ?_
      refine lv_iconst (v := 1) hx hb dX9_needCrate_16 (by decide) ?_
      refine bd_e h (fun σ2 hq h => ?_)
      refine k_X2_add (by decide) hq cx hV mk_3_182 ⟨Nat.le_of_ble_eq_true rfl, Nat.le_of_ble_eq_true rfl⟩ ⟨Nat.zero_le _, Nat.zero_le _⟩ hl.1 (Nat.le_of_ble_eq_true rfl) dX9_needCrate_17 (fun H locs hV => ?_)
      exact (inrl h).elim
  rw [hH, hlocs] at goal
  exact goal
set_option maxHeartbeats 4000000 in
set_option maxRecDepth 100000 in
theorem t_X9_needCrate {l : Launch} (hT : l.stackTraces = false) {E : EV} {X : va_W} {σ : St} {p1 : Int32} {nx : Nat} {σf : St} (h : x_X9_needCrate p1 σ = some (.inr (nx, σf))) : CXF l yX9_needCrate cX9_needCrate 2 none rmx_X9_needCrate [.ref (eA E 0), .int p1] E (wC E σ ++ X) (wC E σf ++ X) (exN nx) := by
  refine CXF.start (by decide) (Nat.le_of_ble_eq_true rfl) (fun p e s m a below meth c A ls cx hx0 hlk hV hF hl => ?_)
  have cx : CallFix p m c cX9_needCrate 2 s a TBL RX9 := cx
  have hx := cx.1
  have hb := cx.2.1
  have hl : lv_has ls 2 [(0, .ref (eA E 0)), (1, .int p1)] := hl
  generalize hQ : EX E (wC E σf ++ X) (exN nx) A s a below = QQ
  obtain ⟨H, hH⟩ : ∃ H, H = s.heap := ⟨_, rfl⟩
  obtain ⟨locs, hlocs⟩ : ∃ z, z = ([] : List Loc) := ⟨_, rfl⟩
  have hV : AtW E (wC E σ ++ X) A s H locs := by rw [hH, hlocs]; exact hV
  have goal : W p l e rmx_X9_needCrate s m a below meth c H locs 0 0 QQ (F0 m 0 ls []) := by
    unfold x_X9_needCrate at h
    refine lv_aload_n hx hb dX9_needCrate_0 rfl (lv_at hl 0 rfl) ?_
    refine G_X9_told cx hV mk_2_141 dX9_needCrate_1 ?_
    refine lv_iload_n hx hb dX9_needCrate_4 rfl (lv_at hl 1 rfl) ?_
    refine bd_e h (fun v1 hq h => ?_)
    refine k_X7_hasCrate (by decide) hq cx hV mk_3_145 ⟨Nat.le_of_ble_eq_true rfl, Nat.le_of_ble_eq_true rfl⟩ ⟨Nat.zero_le _, Nat.zero_le _⟩ hl.1 (Nat.le_of_ble_eq_true rfl) dX9_needCrate_5 (fun H locs hV => ?_)
    refine lv_if_ne (tgt := 31) hx hb dX9_needCrate_8 (by decide) (fun hc => ?_) (fun hc => ?_)
    · have h := ifn hc h
      exact (inlr h).elim
    · have h := ifp hc h
      refine lv_aload_n hx hb dX9_needCrate_11 rfl (lv_at hl 0 rfl) ?_
      refine G_X9_refused cx hV mk_2_145 dX9_needCrate_12 ?_
      refine lv_iconst (v := 0) hx hb dX9_needCrate_15 (by decide) ?_
      refine lv_iconst (v := 1) hx hb dX9_needCrate_16 (by decide) ?_
      refine bd_e h (fun σ2 hq h => ?_)
      refine k_X2_add (by decide) hq cx hV mk_3_182 ⟨Nat.le_of_ble_eq_true rfl, Nat.le_of_ble_eq_true rfl⟩ ⟨Nat.zero_le _, Nat.zero_le _⟩ hl.1 (Nat.le_of_ble_eq_true rfl) dX9_needCrate_17 (fun H locs hV => ?_)
      obtain ⟨h1, h2⟩ := Prod.mk.inj (Sum.inr.inj (Option.some.inj h))
      subst h1
      subst h2
      subst hQ
      exact r_new_crate cx hT hV hF hx0 hlk hl.1 ⟨Nat.le_of_ble_eq_true rfl, Nat.le_of_ble_eq_true rfl, Nat.le_of_ble_eq_true rfl, Nat.le_of_ble_eq_true rfl⟩ dX9_needCrate_20 dX9_needCrate_23 dX9_needCrate_24 dX9_needCrate_27 dX9_needCrate_30
  rw [hH, hlocs] at goal
  exact goal
theorem k_X9_needCrate {p : Program} {l : Launch} {e : Env} {R : Room} {s : State} {m : MethodId} {a : Array Value} {below : List Frame} {meth : Method} {c : Code} {H : Heap} {locs : List Loc} {cells slots : Nat} {Q : State → Prop} {cc : ByteArray} {own : String} {nL pc : Nat} {ls : Array Slot} {rest : List Value} {A : Nat → Prop} {E : EV} {X : va_W} {σ : St} {p1 : Int32} {σf : St} (h : x_X9_needCrate p1 σ = some (.inl σf)) (cx : CallFix p m c cc nL s a TBL own) (hV : AtW E (wC E σ ++ X) A s H locs) (hF : FZ E A s s.heap) {idx : Nat} (w1 : Cond.methodLink own idx yX9_needCrate ∈ TBL) (hR : (rm_X9_needCrate).frames + 1 ≤ R.frames ∧ 8 + (2 + 11) + (rm_X9_needCrate).locals ≤ R.locals) (hcs : cells ≤ R.cells ∧ slots ≤ R.slots) (hls : ls.size = nL) (hcat : (rest.map fun v => v.category).sum ≤ 8) (d : decode cc pc = .ok (.invokevirtual idx, 3)) (kk : ∀ (H1 : Heap) (locs1 : List Loc), AtW E (wC E σf ++ X) A s H1 locs1 → W p l e R s m a below meth c H1 locs1 cells slots Q (F0 m (pc + 3) ls (rest))) : W p l e R s m a below meth c H locs cells slots Q (F0 m pc ls (.int p1 :: .ref (eA E 0) :: rest)) :=
  r_callFv (n := 1) (As := [.int p1]) (q0 := 0) (ci := 9) (qq := (RX9, TX9, 14)) (c_X9_needCrate h) wC_fst rfl rfl mk_4_199 mk_P_37 mk_1_1 mk_4_200 (by decide +kernel) rfl ⟨rfl, rfl⟩ cx hV hF w1 hR hcs hls rfl hcat d kk
theorem kx_X9_needCrate {p : Program} {l : Launch} {e : Env} {R : Room} {s : State} {m : MethodId} {a : Array Value} {below : List Frame} {meth : Method} {c : Code} {H : Heap} {locs : List Loc} {cc : ByteArray} {own : String} {nL pc : Nat} {ls : Array Slot} {rest : List Value} {A : Nat → Prop} {E : EV} {X : va_W} {σ : St} {p1 : Int32} (hT : l.stackTraces = false) {nx : Nat} {σf : St} (h : x_X9_needCrate p1 σ = some (.inr (nx, σf))) (cx : CallFix p m c cc nL s a TBL own) (hV : AtW E (wC E σ ++ X) A s H locs) (hF : FZ E A s s.heap) (hx0 : ∀ x ∈ c.exceptionTable.toList, False) (hlk : meth.locks = false) {idx : Nat} (w1 : Cond.methodLink own idx yX9_needCrate ∈ TBL) (hR : (rmx_X9_needCrate).frames + 1 ≤ R.frames ∧ 8 + (2 + 11) + (rmx_X9_needCrate).locals ≤ R.locals) (hcs : 1 ≤ R.cells ∧ 6 ≤ R.slots) (hls : ls.size = nL) (hcat : (rest.map fun v => v.category).sum ≤ 8) (d : decode cc pc = .ok (.invokevirtual idx, 3)) : W p l e R s m a below meth c H locs 0 0 (EX E (wC E σf ++ X) (exN nx) A s a below) (F0 m pc ls (.int p1 :: .ref (eA E 0) :: rest)) :=
  r_callx (n := 1) (As := [.int p1]) (q0 := 0) (ci := 9) (qq := (RX9, TX9, 14)) (t_X9_needCrate hT h) rfl rfl mk_4_199 mk_P_37 mk_1_1 mk_4_200 (by decide +kernel) rfl ⟨rfl, rfl⟩ cx hV hF hx0 hlk w1 hR hcs hls rfl hcat d
def x_X9_crate_b20 (w1 : Int32) (w2 : Int32) (w3 : Int32) (σ4 : St) : Option ((Int32 × St) ⊕ (Nat × St)) :=
  bt (x_X9_need w3 σ4) fun σ5 =>
  (if w2 = 0 then
  bd (x_X2_at 1 w1 σ5) fun v7 =>
  some (.inl (v7, σ5))
  else
  bd (x_X5_size 0 w1 σ5) fun v6 =>
  some (.inl (v6, σ5)))
def x_X9_crate_b15 (w8 : Int32) (w9 : Int32) (σ10 : St) : Option ((Int32 × St) ⊕ (Nat × St)) :=
  x_X9_crate_b20 w8 w9 1 σ10
def x_X9_crate (p1 : Int32) (p2 : Int32) (σ : St) : Option ((Int32 × St) ⊕ (Nat × St)) :=
  bt (x_X9_needCrate p1 σ) fun σ11 =>
  (if p2 = 0 then
  x_X9_crate_b15 p1 p2 σ11
  else
  (if p2 = 1 then
  x_X9_crate_b15 p1 p2 σ11
  else
  x_X9_crate_b20 p1 p2 0 σ11))
abbrev rm_X9_crate : Room := { frames := 3, cells := 0, slots := 0, locals := 65 }
abbrev rmx_X9_crate : Room := { frames := 7, cells := 1, slots := 6, locals := 103 }
set_option maxHeartbeats 4000000 in
set_option maxRecDepth 100000 in
theorem c_X9_crate {l : Launch} {E : EV} {X : va_W} {σ : St} {p1 : Int32} {p2 : Int32} {rv : Int32} {σf : St} (h : x_X9_crate p1 p2 σ = some (.inl (rv, σf))) : CMF l yX9_crate cX9_crate 3 (some .int) rm_X9_crate [.ref (eA E 0), .int p1, .int p2] E (wC E σ ++ X) (wC E σf ++ X) (qI rv) := by
  refine CMF.start (by decide) (Nat.le_of_ble_eq_true rfl) (fun p e s m a below meth c A ls cx hr hlk hV hF hl => ?_)
  have cx : CallFix p m c cX9_crate 3 s a TBL RX9 := cx
  have hx := cx.1
  have hb := cx.2.1
  have hl : lv_has ls 3 [(0, .ref (eA E 0)), (1, .int p1), (2, .int p2)] := hl
  generalize hQ : EQ E (wC E σf ++ X) (qI rv) A s a below = QQ
  obtain ⟨H, hH⟩ : ∃ H, H = s.heap := ⟨_, rfl⟩
  obtain ⟨locs, hlocs⟩ : ∃ z, z = ([] : List Loc) := ⟨_, rfl⟩
  have hV : AtW E (wC E σ ++ X) A s H locs := by rw [hH, hlocs]; exact hV
  have goal : W p l e rm_X9_crate s m a below meth c H locs 0 0 QQ (F0 m 0 ls []) := by
    unfold x_X9_crate at h
    have hj20 : ∀ (w1 : Int32) (w2 : Int32) (w3 : Int32) (σ4 : St) (H : Heap) (locs : List Loc) (ls : Array Slot), x_X9_crate_b20 w1 w2 w3 σ4 = some (.inl (rv, σf)) → AtW E (wC E σ4 ++ X) A s H locs → lv_has ls 3 [(0, .ref (eA E 0)), (1, .int w1), (2, .int w2)] → W p l e rm_X9_crate s m a below meth c H locs 0 0 QQ (F0 m 20 ls [.int w3, .ref (eA E 0)]) := by
      intro w1 w2 w3 σ4 H locs ls h hV hl
      unfold x_X9_crate_b20 at h
      refine bt_e h (fun σ5 hq h => ?_) (fun q hq h => ?_)
      rotate_left
      · exact (inrl' h).elim
      refine k_X9_need hq cx hV hF mk_3_178 ⟨Nat.le_of_ble_eq_true rfl, Nat.le_of_ble_eq_true rfl⟩ ⟨Nat.zero_le _, Nat.zero_le _⟩ hl.1 (Nat.le_of_ble_eq_true rfl) dX9_crate_20 (fun H locs hV => ?_)
      refine lv_iload_n hx hb dX9_crate_23 rfl (lv_at hl 2 rfl) ?_
      refine lv_if_ne (tgt := 41) hx hb dX9_crate_24 (by decide) (fun hc => ?_) (fun hc => ?_)
      · have h := ifn hc h
        refine lv_aload_n hx hb dX9_crate_41 rfl (lv_at hl 0 rfl) ?_
        refine G_X9_stock cx hV mk_2_142 dX9_crate_42 ?_
        refine lv_iload_n hx hb dX9_crate_45 rfl (lv_at hl 1 rfl) ?_
        refine bd_e h (fun v6 hq h => ?_)
        refine k_X5_size (by decide) hq cx hV mk_4_217 ⟨Nat.le_of_ble_eq_true rfl, Nat.le_of_ble_eq_true rfl⟩ ⟨Nat.zero_le _, Nat.zero_le _⟩ hl.1 (Nat.le_of_ble_eq_true rfl) dX9_crate_46 (fun H locs hV => ?_)
        have h := congrArg some (Sum.inl.inj (Option.some.inj h))
        obtain ⟨h1, h2⟩ := Prod.mk.inj (Option.some.inj h)
        subst h1
        subst h2
        subst hQ
        exact r_ireti cx hr hlk hV dX9_crate_49
      · have h := ifp hc h
        refine lv_aload_n hx hb dX9_crate_27 rfl (lv_at hl 0 rfl) ?_
        refine G_X9_told cx hV mk_2_141 dX9_crate_28 ?_
        refine G_X7_letters cx hV (by decide) mk_1_72 dX9_crate_31 ?_
        refine lv_iload_n hx hb dX9_crate_34 rfl (lv_at hl 1 rfl) ?_
        refine bd_e h (fun v7 hq h => ?_)
        refine k_X2_at (by decide) hq cx hV mk_3_93 ⟨Nat.le_of_ble_eq_true rfl, Nat.le_of_ble_eq_true rfl⟩ ⟨Nat.zero_le _, Nat.zero_le _⟩ hl.1 (Nat.le_of_ble_eq_true rfl) dX9_crate_35 (fun H locs hV => ?_)
        refine lv_goto (tgt := 49) hx hb dX9_crate_38 (by decide) ?_
        have h := congrArg some (Sum.inl.inj (Option.some.inj h))
        obtain ⟨h1, h2⟩ := Prod.mk.inj (Option.some.inj h)
        subst h1
        subst h2
        subst hQ
        exact r_ireti cx hr hlk hV dX9_crate_49
    have hj15 : ∀ (w8 : Int32) (w9 : Int32) (σ10 : St) (H : Heap) (locs : List Loc) (ls : Array Slot), x_X9_crate_b15 w8 w9 σ10 = some (.inl (rv, σf)) → AtW E (wC E σ10 ++ X) A s H locs → lv_has ls 3 [(0, .ref (eA E 0)), (1, .int w8), (2, .int w9)] → W p l e rm_X9_crate s m a below meth c H locs 0 0 QQ (F0 m 15 ls [.ref (eA E 0)]) := by
      intro w8 w9 σ10 H locs ls h hV hl
      unfold x_X9_crate_b15 at h
      refine lv_iconst (v := 1) hx hb dX9_crate_15 (by decide) ?_
      refine lv_goto (tgt := 20) hx hb dX9_crate_16 (by decide) ?_
      exact hj20 w8 w9 1 σ10 _ _ _ h hV (lv_sub hl [0, 1, 2] rfl)
    refine lv_aload_n hx hb dX9_crate_0 rfl (lv_at hl 0 rfl) ?_
    refine lv_iload_n hx hb dX9_crate_1 rfl (lv_at hl 1 rfl) ?_
    refine bt_e h (fun σ11 hq h => ?_) (fun q hq h => ?_)
    rotate_left
    · exact (inrl' h).elim
    refine k_X9_needCrate hq cx hV hF mk_4_197 ⟨Nat.le_of_ble_eq_true rfl, Nat.le_of_ble_eq_true rfl⟩ ⟨Nat.zero_le _, Nat.zero_le _⟩ hl.1 (Nat.le_of_ble_eq_true rfl) dX9_crate_2 (fun H locs hV => ?_)
    refine lv_aload_n hx hb dX9_crate_5 rfl (lv_at hl 0 rfl) ?_
    refine lv_iload_n hx hb dX9_crate_6 rfl (lv_at hl 2 rfl) ?_
    refine lv_if_eq (tgt := 15) hx hb dX9_crate_7 (by decide) (fun hc => ?_) (fun hc => ?_)
    · have h := ifp hc h
      exact hj15 p1 p2 σ11 _ _ _ h hV (lv_sub hl [0, 1, 2] rfl)
    · have h := ifn hc h
      refine lv_iload_n hx hb dX9_crate_10 rfl (lv_at hl 2 rfl) ?_
      refine lv_iconst (v := 1) hx hb dX9_crate_11 (by decide) ?_
      refine lv_icmp_ne (tgt := 19) hx hb dX9_crate_12 (by decide) (fun hc => ?_) (fun hc => ?_)
      · have h := ifn hc h
        refine lv_iconst (v := 0) hx hb dX9_crate_19 (by decide) ?_
        exact hj20 p1 p2 0 σ11 _ _ _ h hV (lv_sub hl [0, 1, 2] rfl)
      · have h := ifp hc h
        exact hj15 p1 p2 σ11 _ _ _ h hV (lv_sub hl [0, 1, 2] rfl)
  rw [hH, hlocs] at goal
  exact goal
set_option maxHeartbeats 4000000 in
set_option maxRecDepth 100000 in
theorem t_X9_crate {l : Launch} (hT : l.stackTraces = false) {E : EV} {X : va_W} {σ : St} {p1 : Int32} {p2 : Int32} {nx : Nat} {σf : St} (h : x_X9_crate p1 p2 σ = some (.inr (nx, σf))) : CXF l yX9_crate cX9_crate 3 (some .int) rmx_X9_crate [.ref (eA E 0), .int p1, .int p2] E (wC E σ ++ X) (wC E σf ++ X) (exN nx) := by
  refine CXF.start (by decide) (Nat.le_of_ble_eq_true rfl) (fun p e s m a below meth c A ls cx hx0 hlk hV hF hl => ?_)
  have cx : CallFix p m c cX9_crate 3 s a TBL RX9 := cx
  have hx := cx.1
  have hb := cx.2.1
  have hl : lv_has ls 3 [(0, .ref (eA E 0)), (1, .int p1), (2, .int p2)] := hl
  generalize hQ : EX E (wC E σf ++ X) (exN nx) A s a below = QQ
  obtain ⟨H, hH⟩ : ∃ H, H = s.heap := ⟨_, rfl⟩
  obtain ⟨locs, hlocs⟩ : ∃ z, z = ([] : List Loc) := ⟨_, rfl⟩
  have hV : AtW E (wC E σ ++ X) A s H locs := by rw [hH, hlocs]; exact hV
  have goal : W p l e rmx_X9_crate s m a below meth c H locs 0 0 QQ (F0 m 0 ls []) := by
    unfold x_X9_crate at h
    have hj20 : ∀ (w1 : Int32) (w2 : Int32) (w3 : Int32) (σ4 : St) (H : Heap) (locs : List Loc) (ls : Array Slot), x_X9_crate_b20 w1 w2 w3 σ4 = some (.inr (nx, σf)) → AtW E (wC E σ4 ++ X) A s H locs → lv_has ls 3 [(0, .ref (eA E 0)), (1, .int w1), (2, .int w2)] → W p l e rmx_X9_crate s m a below meth c H locs 0 0 QQ (F0 m 20 ls [.int w3, .ref (eA E 0)]) := by
      intro w1 w2 w3 σ4 H locs ls h hV hl
      unfold x_X9_crate_b20 at h
      refine bt_e h (fun σ5 hq h => ?_) (fun q hq h => ?_)
      rotate_left
      · have h := Sum.inr.inj h
        subst h
        subst hQ
        exact kx_X9_need hT hq cx hV hF hx0 hlk mk_3_178 ⟨Nat.le_of_ble_eq_true rfl, Nat.le_of_ble_eq_true rfl⟩ ⟨Nat.le_of_ble_eq_true rfl, Nat.le_of_ble_eq_true rfl⟩ hl.1 (Nat.le_of_ble_eq_true rfl) dX9_crate_20
      refine k_X9_need hq cx hV hF mk_3_178 ⟨Nat.le_of_ble_eq_true rfl, Nat.le_of_ble_eq_true rfl⟩ ⟨Nat.zero_le _, Nat.zero_le _⟩ hl.1 (Nat.le_of_ble_eq_true rfl) dX9_crate_20 (fun H locs hV => ?_)
      refine lv_iload_n hx hb dX9_crate_23 rfl (lv_at hl 2 rfl) ?_
      refine lv_if_ne (tgt := 41) hx hb dX9_crate_24 (by decide) (fun hc => ?_) (fun hc => ?_)
      · have h := ifn hc h
        refine lv_aload_n hx hb dX9_crate_41 rfl (lv_at hl 0 rfl) ?_
        refine G_X9_stock cx hV mk_2_142 dX9_crate_42 ?_
        refine lv_iload_n hx hb dX9_crate_45 rfl (lv_at hl 1 rfl) ?_
        refine bd_e h (fun v6 hq h => ?_)
        refine k_X5_size (by decide) hq cx hV mk_4_217 ⟨Nat.le_of_ble_eq_true rfl, Nat.le_of_ble_eq_true rfl⟩ ⟨Nat.zero_le _, Nat.zero_le _⟩ hl.1 (Nat.le_of_ble_eq_true rfl) dX9_crate_46 (fun H locs hV => ?_)
        exact (inlr h).elim
      · have h := ifp hc h
        refine lv_aload_n hx hb dX9_crate_27 rfl (lv_at hl 0 rfl) ?_
        refine G_X9_told cx hV mk_2_141 dX9_crate_28 ?_
        refine G_X7_letters cx hV (by decide) mk_1_72 dX9_crate_31 ?_
        refine lv_iload_n hx hb dX9_crate_34 rfl (lv_at hl 1 rfl) ?_
        refine bd_e h (fun v7 hq h => ?_)
        refine k_X2_at (by decide) hq cx hV mk_3_93 ⟨Nat.le_of_ble_eq_true rfl, Nat.le_of_ble_eq_true rfl⟩ ⟨Nat.zero_le _, Nat.zero_le _⟩ hl.1 (Nat.le_of_ble_eq_true rfl) dX9_crate_35 (fun H locs hV => ?_)
        refine lv_goto (tgt := 49) hx hb dX9_crate_38 (by decide) ?_
        exact (inlr h).elim
    have hj15 : ∀ (w8 : Int32) (w9 : Int32) (σ10 : St) (H : Heap) (locs : List Loc) (ls : Array Slot), x_X9_crate_b15 w8 w9 σ10 = some (.inr (nx, σf)) → AtW E (wC E σ10 ++ X) A s H locs → lv_has ls 3 [(0, .ref (eA E 0)), (1, .int w8), (2, .int w9)] → W p l e rmx_X9_crate s m a below meth c H locs 0 0 QQ (F0 m 15 ls [.ref (eA E 0)]) := by
      intro w8 w9 σ10 H locs ls h hV hl
      unfold x_X9_crate_b15 at h
      refine lv_iconst (v := 1) hx hb dX9_crate_15 (by decide) ?_
      refine lv_goto (tgt := 20) hx hb dX9_crate_16 (by decide) ?_
      exact hj20 w8 w9 1 σ10 _ _ _ h hV (lv_sub hl [0, 1, 2] rfl)
    refine lv_aload_n hx hb dX9_crate_0 rfl (lv_at hl 0 rfl) ?_
    refine lv_iload_n hx hb dX9_crate_1 rfl (lv_at hl 1 rfl) ?_
    refine bt_e h (fun σ11 hq h => ?_) (fun q hq h => ?_)
    rotate_left
    · have h := Sum.inr.inj h
      subst h
      subst hQ
      exact kx_X9_needCrate hT hq cx hV hF hx0 hlk mk_4_197 ⟨Nat.le_of_ble_eq_true rfl, Nat.le_of_ble_eq_true rfl⟩ ⟨Nat.le_of_ble_eq_true rfl, Nat.le_of_ble_eq_true rfl⟩ hl.1 (Nat.le_of_ble_eq_true rfl) dX9_crate_2
    refine k_X9_needCrate hq cx hV hF mk_4_197 ⟨Nat.le_of_ble_eq_true rfl, Nat.le_of_ble_eq_true rfl⟩ ⟨Nat.zero_le _, Nat.zero_le _⟩ hl.1 (Nat.le_of_ble_eq_true rfl) dX9_crate_2 (fun H locs hV => ?_)
    refine lv_aload_n hx hb dX9_crate_5 rfl (lv_at hl 0 rfl) ?_
    refine lv_iload_n hx hb dX9_crate_6 rfl (lv_at hl 2 rfl) ?_
    refine lv_if_eq (tgt := 15) hx hb dX9_crate_7 (by decide) (fun hc => ?_) (fun hc => ?_)
    · have h := ifp hc h
      exact hj15 p1 p2 σ11 _ _ _ h hV (lv_sub hl [0, 1, 2] rfl)
    · have h := ifn hc h
      refine lv_iload_n hx hb dX9_crate_10 rfl (lv_at hl 2 rfl) ?_
      refine lv_iconst (v := 1) hx hb dX9_crate_11 (by decide) ?_
      refine lv_icmp_ne (tgt := 19) hx hb dX9_crate_12 (by decide) (fun hc => ?_) (fun hc => ?_)
      · have h := ifn hc h
        refine lv_iconst (v := 0) hx hb dX9_crate_19 (by decide) ?_
        exact hj20 p1 p2 0 σ11 _ _ _ h hV (lv_sub hl [0, 1, 2] rfl)
      · have h := ifp hc h
        exact hj15 p1 p2 σ11 _ _ _ h hV (lv_sub hl [0, 1, 2] rfl)
  rw [hH, hlocs] at goal
  exact goal
theorem k_X9_crate {p : Program} {l : Launch} {e : Env} {R : Room} {s : State} {m : MethodId} {a : Array Value} {below : List Frame} {meth : Method} {c : Code} {H : Heap} {locs : List Loc} {cells slots : Nat} {Q : State → Prop} {cc : ByteArray} {own : String} {nL pc : Nat} {ls : Array Slot} {rest : List Value} {A : Nat → Prop} {E : EV} {X : va_W} {σ : St} {p1 : Int32} {p2 : Int32} {rv : Int32} {σf : St} (h : x_X9_crate p1 p2 σ = some (.inl (rv, σf))) (cx : CallFix p m c cc nL s a TBL own) (hV : AtW E (wC E σ ++ X) A s H locs) (hF : FZ E A s s.heap) {idx : Nat} (w1 : Cond.methodLink own idx yX9_crate ∈ TBL) (hR : (rm_X9_crate).frames + 1 ≤ R.frames ∧ 8 + (3 + 11) + (rm_X9_crate).locals ≤ R.locals) (hcs : cells ≤ R.cells ∧ slots ≤ R.slots) (hls : ls.size = nL) (hcat : (rest.map fun v => v.category).sum ≤ 8) (d : decode cc pc = .ok (.invokevirtual idx, 3)) (kk : ∀ (H1 : Heap) (locs1 : List Loc), AtW E (wC E σf ++ X) A s H1 locs1 → W p l e R s m a below meth c H1 locs1 cells slots Q (F0 m (pc + 3) ls (.int rv :: rest))) : W p l e R s m a below meth c H locs cells slots Q (F0 m pc ls (.int p2 :: .int p1 :: .ref (eA E 0) :: rest)) :=
  r_callFi (n := 2) (As := [.int p1, .int p2]) (q0 := 0) (ci := 9) (qq := (RX9, TX9, 14)) (c_X9_crate h) wC_fst rfl rfl mk_4_194 mk_4_195 mk_1_1 mk_4_196 (by decide +kernel) rfl ⟨rfl, rfl⟩ cx hV hF w1 hR hcs hls rfl hcat d kk
theorem kx_X9_crate {p : Program} {l : Launch} {e : Env} {R : Room} {s : State} {m : MethodId} {a : Array Value} {below : List Frame} {meth : Method} {c : Code} {H : Heap} {locs : List Loc} {cc : ByteArray} {own : String} {nL pc : Nat} {ls : Array Slot} {rest : List Value} {A : Nat → Prop} {E : EV} {X : va_W} {σ : St} {p1 : Int32} {p2 : Int32} (hT : l.stackTraces = false) {nx : Nat} {σf : St} (h : x_X9_crate p1 p2 σ = some (.inr (nx, σf))) (cx : CallFix p m c cc nL s a TBL own) (hV : AtW E (wC E σ ++ X) A s H locs) (hF : FZ E A s s.heap) (hx0 : ∀ x ∈ c.exceptionTable.toList, False) (hlk : meth.locks = false) {idx : Nat} (w1 : Cond.methodLink own idx yX9_crate ∈ TBL) (hR : (rmx_X9_crate).frames + 1 ≤ R.frames ∧ 8 + (3 + 11) + (rmx_X9_crate).locals ≤ R.locals) (hcs : 1 ≤ R.cells ∧ 6 ≤ R.slots) (hls : ls.size = nL) (hcat : (rest.map fun v => v.category).sum ≤ 8) (d : decode cc pc = .ok (.invokevirtual idx, 3)) : W p l e R s m a below meth c H locs 0 0 (EX E (wC E σf ++ X) (exN nx) A s a below) (F0 m pc ls (.int p2 :: .int p1 :: .ref (eA E 0) :: rest)) :=
  r_callx (n := 2) (As := [.int p1, .int p2]) (q0 := 0) (ci := 9) (qq := (RX9, TX9, 14)) (t_X9_crate hT h) rfl rfl mk_4_194 mk_4_195 mk_1_1 mk_4_196 (by decide +kernel) rfl ⟨rfl, rfl⟩ cx hV hF hx0 hlk w1 hR hcs hls rfl hcat d
def x_X9_row (p1 : Int32) (p2 : Int32) (σ : St) : Option ((Int32 × St) ⊕ (Nat × St)) :=
  bt (x_X9_needCrate p1 σ) fun σ1 =>
  bd (x_X5_inRow 0 p1 p2 σ1) fun v2 =>
  some (.inl (v2, σ1))
abbrev rm_X9_row : Room := { frames := 3, cells := 0, slots := 0, locals := 65 }
abbrev rmx_X9_row : Room := { frames := 7, cells := 1, slots := 6, locals := 103 }
set_option maxHeartbeats 4000000 in
set_option maxRecDepth 100000 in
theorem c_X9_row {l : Launch} {E : EV} {X : va_W} {σ : St} {p1 : Int32} {p2 : Int32} {rv : Int32} {σf : St} (h : x_X9_row p1 p2 σ = some (.inl (rv, σf))) : CMF l yX9_row cX9_row 3 (some .int) rm_X9_row [.ref (eA E 0), .int p1, .int p2] E (wC E σ ++ X) (wC E σf ++ X) (qI rv) := by
  refine CMF.start (by decide) (Nat.le_of_ble_eq_true rfl) (fun p e s m a below meth c A ls cx hr hlk hV hF hl => ?_)
  have cx : CallFix p m c cX9_row 3 s a TBL RX9 := cx
  have hx := cx.1
  have hb := cx.2.1
  have hl : lv_has ls 3 [(0, .ref (eA E 0)), (1, .int p1), (2, .int p2)] := hl
  generalize hQ : EQ E (wC E σf ++ X) (qI rv) A s a below = QQ
  obtain ⟨H, hH⟩ : ∃ H, H = s.heap := ⟨_, rfl⟩
  obtain ⟨locs, hlocs⟩ : ∃ z, z = ([] : List Loc) := ⟨_, rfl⟩
  have hV : AtW E (wC E σ ++ X) A s H locs := by rw [hH, hlocs]; exact hV
  have goal : W p l e rm_X9_row s m a below meth c H locs 0 0 QQ (F0 m 0 ls []) := by
    unfold x_X9_row at h
    refine lv_aload_n hx hb dX9_row_0 rfl (lv_at hl 0 rfl) ?_
    refine lv_iload_n hx hb dX9_row_1 rfl (lv_at hl 1 rfl) ?_
    refine bt_e h (fun σ1 hq h => ?_) (fun q hq h => ?_)
    rotate_left
    · exact (inrl' h).elim
    refine k_X9_needCrate hq cx hV hF mk_4_197 ⟨Nat.le_of_ble_eq_true rfl, Nat.le_of_ble_eq_true rfl⟩ ⟨Nat.zero_le _, Nat.zero_le _⟩ hl.1 (Nat.le_of_ble_eq_true rfl) dX9_row_2 (fun H locs hV => ?_)
    refine lv_aload_n hx hb dX9_row_5 rfl (lv_at hl 0 rfl) ?_
    refine G_X9_stock cx hV mk_2_142 dX9_row_6 ?_
    refine lv_iload_n hx hb dX9_row_9 rfl (lv_at hl 1 rfl) ?_
    refine lv_iload_n hx hb dX9_row_10 rfl (lv_at hl 2 rfl) ?_
    refine bd_e h (fun v2 hq h => ?_)
    refine k_X5_inRow (by decide) hq cx hV mk_4_225 ⟨Nat.le_of_ble_eq_true rfl, Nat.le_of_ble_eq_true rfl⟩ ⟨Nat.zero_le _, Nat.zero_le _⟩ hl.1 (Nat.le_of_ble_eq_true rfl) dX9_row_11 (fun H locs hV => ?_)
    have h := congrArg some (Sum.inl.inj (Option.some.inj h))
    obtain ⟨h1, h2⟩ := Prod.mk.inj (Option.some.inj h)
    subst h1
    subst h2
    subst hQ
    exact r_ireti cx hr hlk hV dX9_row_14
  rw [hH, hlocs] at goal
  exact goal
set_option maxHeartbeats 4000000 in
set_option maxRecDepth 100000 in
theorem t_X9_row {l : Launch} (hT : l.stackTraces = false) {E : EV} {X : va_W} {σ : St} {p1 : Int32} {p2 : Int32} {nx : Nat} {σf : St} (h : x_X9_row p1 p2 σ = some (.inr (nx, σf))) : CXF l yX9_row cX9_row 3 (some .int) rmx_X9_row [.ref (eA E 0), .int p1, .int p2] E (wC E σ ++ X) (wC E σf ++ X) (exN nx) := by
  refine CXF.start (by decide) (Nat.le_of_ble_eq_true rfl) (fun p e s m a below meth c A ls cx hx0 hlk hV hF hl => ?_)
  have cx : CallFix p m c cX9_row 3 s a TBL RX9 := cx
  have hx := cx.1
  have hb := cx.2.1
  have hl : lv_has ls 3 [(0, .ref (eA E 0)), (1, .int p1), (2, .int p2)] := hl
  generalize hQ : EX E (wC E σf ++ X) (exN nx) A s a below = QQ
  obtain ⟨H, hH⟩ : ∃ H, H = s.heap := ⟨_, rfl⟩
  obtain ⟨locs, hlocs⟩ : ∃ z, z = ([] : List Loc) := ⟨_, rfl⟩
  have hV : AtW E (wC E σ ++ X) A s H locs := by rw [hH, hlocs]; exact hV
  have goal : W p l e rmx_X9_row s m a below meth c H locs 0 0 QQ (F0 m 0 ls []) := by
    unfold x_X9_row at h
    refine lv_aload_n hx hb dX9_row_0 rfl (lv_at hl 0 rfl) ?_
    refine lv_iload_n hx hb dX9_row_1 rfl (lv_at hl 1 rfl) ?_
    refine bt_e h (fun σ1 hq h => ?_) (fun q hq h => ?_)
    rotate_left
    · have h := Sum.inr.inj h
      subst h
      subst hQ
      exact kx_X9_needCrate hT hq cx hV hF hx0 hlk mk_4_197 ⟨Nat.le_of_ble_eq_true rfl, Nat.le_of_ble_eq_true rfl⟩ ⟨Nat.le_of_ble_eq_true rfl, Nat.le_of_ble_eq_true rfl⟩ hl.1 (Nat.le_of_ble_eq_true rfl) dX9_row_2
    refine k_X9_needCrate hq cx hV hF mk_4_197 ⟨Nat.le_of_ble_eq_true rfl, Nat.le_of_ble_eq_true rfl⟩ ⟨Nat.zero_le _, Nat.zero_le _⟩ hl.1 (Nat.le_of_ble_eq_true rfl) dX9_row_2 (fun H locs hV => ?_)
    refine lv_aload_n hx hb dX9_row_5 rfl (lv_at hl 0 rfl) ?_
    refine G_X9_stock cx hV mk_2_142 dX9_row_6 ?_
    refine lv_iload_n hx hb dX9_row_9 rfl (lv_at hl 1 rfl) ?_
    refine lv_iload_n hx hb dX9_row_10 rfl (lv_at hl 2 rfl) ?_
    refine bd_e h (fun v2 hq h => ?_)
    refine k_X5_inRow (by decide) hq cx hV mk_4_225 ⟨Nat.le_of_ble_eq_true rfl, Nat.le_of_ble_eq_true rfl⟩ ⟨Nat.zero_le _, Nat.zero_le _⟩ hl.1 (Nat.le_of_ble_eq_true rfl) dX9_row_11 (fun H locs hV => ?_)
    exact (inlr h).elim
  rw [hH, hlocs] at goal
  exact goal
theorem k_X9_row {p : Program} {l : Launch} {e : Env} {R : Room} {s : State} {m : MethodId} {a : Array Value} {below : List Frame} {meth : Method} {c : Code} {H : Heap} {locs : List Loc} {cells slots : Nat} {Q : State → Prop} {cc : ByteArray} {own : String} {nL pc : Nat} {ls : Array Slot} {rest : List Value} {A : Nat → Prop} {E : EV} {X : va_W} {σ : St} {p1 : Int32} {p2 : Int32} {rv : Int32} {σf : St} (h : x_X9_row p1 p2 σ = some (.inl (rv, σf))) (cx : CallFix p m c cc nL s a TBL own) (hV : AtW E (wC E σ ++ X) A s H locs) (hF : FZ E A s s.heap) {idx : Nat} (w1 : Cond.methodLink own idx yX9_row ∈ TBL) (hR : (rm_X9_row).frames + 1 ≤ R.frames ∧ 8 + (3 + 11) + (rm_X9_row).locals ≤ R.locals) (hcs : cells ≤ R.cells ∧ slots ≤ R.slots) (hls : ls.size = nL) (hcat : (rest.map fun v => v.category).sum ≤ 8) (d : decode cc pc = .ok (.invokevirtual idx, 3)) (kk : ∀ (H1 : Heap) (locs1 : List Loc), AtW E (wC E σf ++ X) A s H1 locs1 → W p l e R s m a below meth c H1 locs1 cells slots Q (F0 m (pc + 3) ls (.int rv :: rest))) : W p l e R s m a below meth c H locs cells slots Q (F0 m pc ls (.int p2 :: .int p1 :: .ref (eA E 0) :: rest)) :=
  r_callFi (n := 2) (As := [.int p1, .int p2]) (q0 := 0) (ci := 9) (qq := (RX9, TX9, 14)) (c_X9_row h) wC_fst rfl rfl mk_4_222 mk_4_223 mk_1_1 mk_4_224 (by decide +kernel) rfl ⟨rfl, rfl⟩ cx hV hF w1 hR hcs hls rfl hcat d kk
theorem kx_X9_row {p : Program} {l : Launch} {e : Env} {R : Room} {s : State} {m : MethodId} {a : Array Value} {below : List Frame} {meth : Method} {c : Code} {H : Heap} {locs : List Loc} {cc : ByteArray} {own : String} {nL pc : Nat} {ls : Array Slot} {rest : List Value} {A : Nat → Prop} {E : EV} {X : va_W} {σ : St} {p1 : Int32} {p2 : Int32} (hT : l.stackTraces = false) {nx : Nat} {σf : St} (h : x_X9_row p1 p2 σ = some (.inr (nx, σf))) (cx : CallFix p m c cc nL s a TBL own) (hV : AtW E (wC E σ ++ X) A s H locs) (hF : FZ E A s s.heap) (hx0 : ∀ x ∈ c.exceptionTable.toList, False) (hlk : meth.locks = false) {idx : Nat} (w1 : Cond.methodLink own idx yX9_row ∈ TBL) (hR : (rmx_X9_row).frames + 1 ≤ R.frames ∧ 8 + (3 + 11) + (rmx_X9_row).locals ≤ R.locals) (hcs : 1 ≤ R.cells ∧ 6 ≤ R.slots) (hls : ls.size = nL) (hcat : (rest.map fun v => v.category).sum ≤ 8) (d : decode cc pc = .ok (.invokevirtual idx, 3)) : W p l e R s m a below meth c H locs 0 0 (EX E (wC E σf ++ X) (exN nx) A s a below) (F0 m pc ls (.int p2 :: .int p1 :: .ref (eA E 0) :: rest)) :=
  r_callx (n := 2) (As := [.int p1, .int p2]) (q0 := 0) (ci := 9) (qq := (RX9, TX9, 14)) (t_X9_row hT h) rfl rfl mk_4_222 mk_4_223 mk_1_1 mk_4_224 (by decide +kernel) rfl ⟨rfl, rfl⟩ cx hV hF hx0 hlk w1 hR hcs hls rfl hcat d
def x_X9_needSleeve_b15 (σ1 : St) : Option (St ⊕ (Nat × St)) :=
  bd (x_X2_add 35 1 1 σ1) fun σ2 =>
  some (.inr (2, σ2))
def x_X9_needSleeve (p1 : Int32) (σ : St) : Option (St ⊕ (Nat × St)) :=
  (if p1 < 0 then
  x_X9_needSleeve_b15 σ
  else
  (if p1 < (gI σ 1) then
  some (.inl σ)
  else
  x_X9_needSleeve_b15 σ))
abbrev rm_X9_needSleeve : Room := { frames := 2, cells := 0, slots := 0, locals := 44 }
abbrev rmx_X9_needSleeve : Room := { frames := 6, cells := 1, slots := 6, locals := 82 }
set_option maxHeartbeats 4000000 in
set_option maxRecDepth 100000 in
theorem c_X9_needSleeve {l : Launch} {E : EV} {X : va_W} {σ : St} {p1 : Int32} {σf : St} (h : x_X9_needSleeve p1 σ = some (.inl σf)) : CMF l yX9_needSleeve cX9_needSleeve 2 none rm_X9_needSleeve [.ref (eA E 0), .int p1] E (wC E σ ++ X) (wC E σf ++ X) qV := by
  refine CMF.start (by decide) (Nat.le_of_ble_eq_true rfl) (fun p e s m a below meth c A ls cx hr hlk hV hF hl => ?_)
  have cx : CallFix p m c cX9_needSleeve 2 s a TBL RX9 := cx
  have hx := cx.1
  have hb := cx.2.1
  have hl : lv_has ls 2 [(0, .ref (eA E 0)), (1, .int p1)] := hl
  generalize hQ : EQ E (wC E σf ++ X) qV A s a below = QQ
  obtain ⟨H, hH⟩ : ∃ H, H = s.heap := ⟨_, rfl⟩
  obtain ⟨locs, hlocs⟩ : ∃ z, z = ([] : List Loc) := ⟨_, rfl⟩
  have hV : AtW E (wC E σ ++ X) A s H locs := by rw [hH, hlocs]; exact hV
  have goal : W p l e rm_X9_needSleeve s m a below meth c H locs 0 0 QQ (F0 m 0 ls []) := by
    unfold x_X9_needSleeve at h
    have hj15 : ∀ (σ1 : St) (H : Heap) (locs : List Loc) (ls : Array Slot), x_X9_needSleeve_b15 σ1 = some (.inl σf) → AtW E (wC E σ1 ++ X) A s H locs → lv_has ls 2 [(0, .ref (eA E 0))] → W p l e rm_X9_needSleeve s m a below meth c H locs 0 0 QQ (F0 m 15 ls []) := by
      intro σ1 H locs ls h hV hl
      unfold x_X9_needSleeve_b15 at h
      refine lv_aload_n hx hb dX9_needSleeve_15 rfl (lv_at hl 0 rfl) ?_
      refine G_X9_refused cx hV mk_2_145 dX9_needSleeve_16 ?_
      refine lv_iconst (v := 1) hx hb dX9_needSleeve_19 (by decide) ?_
      refine lv_iconst (v := 1) hx hb dX9_needSleeve_20 (by decide) ?_
      refine bd_e h (fun σ2 hq h => ?_)
      refine k_X2_add (by decide) hq cx hV mk_3_182 ⟨Nat.le_of_ble_eq_true rfl, Nat.le_of_ble_eq_true rfl⟩ ⟨Nat.zero_le _, Nat.zero_le _⟩ hl.1 (Nat.le_of_ble_eq_true rfl) dX9_needSleeve_21 (fun H locs hV => ?_)
      exact (inrl h).elim
    refine lv_iload_n hx hb dX9_needSleeve_0 rfl (lv_at hl 1 rfl) ?_
    refine lv_if_lt (tgt := 15) hx hb dX9_needSleeve_1 (by decide) (fun hc => ?_) (fun hc => ?_)
    · have h := ifp hc h
      exact hj15 σ _ _ _ h hV (lv_sub hl [0] rfl)
    · have h := ifn hc h
      refine lv_iload_n hx hb dX9_needSleeve_4 rfl (lv_at hl 1 rfl) ?_
      refine lv_aload_n hx hb dX9_needSleeve_5 rfl (lv_at hl 0 rfl) ?_
      refine G_X9_told cx hV mk_2_141 dX9_needSleeve_6 ?_
      refine G_X7_sleeves cx hV (by decide) mk_1_60 dX9_needSleeve_9 ?_
      refine lv_icmp_lt (tgt := 35) hx hb dX9_needSleeve_12 (by decide) (fun hc => ?_) (fun hc => ?_)
      · have h := ifp hc h
        have h := congrArg some (Sum.inl.inj (Option.some.inj h))
        have h1 := Option.some.inj h
        subst h1
        subst hQ
        exact r_vret cx hr hlk hV dX9_needSleeve_35
      · have h := ifn hc h
        exact hj15 σ _ _ _ h hV (lv_sub hl [0] rfl)
  rw [hH, hlocs] at goal
  exact goal
set_option maxHeartbeats 4000000 in
set_option maxRecDepth 100000 in
theorem t_X9_needSleeve {l : Launch} (hT : l.stackTraces = false) {E : EV} {X : va_W} {σ : St} {p1 : Int32} {nx : Nat} {σf : St} (h : x_X9_needSleeve p1 σ = some (.inr (nx, σf))) : CXF l yX9_needSleeve cX9_needSleeve 2 none rmx_X9_needSleeve [.ref (eA E 0), .int p1] E (wC E σ ++ X) (wC E σf ++ X) (exN nx) := by
  refine CXF.start (by decide) (Nat.le_of_ble_eq_true rfl) (fun p e s m a below meth c A ls cx hx0 hlk hV hF hl => ?_)
  have cx : CallFix p m c cX9_needSleeve 2 s a TBL RX9 := cx
  have hx := cx.1
  have hb := cx.2.1
  have hl : lv_has ls 2 [(0, .ref (eA E 0)), (1, .int p1)] := hl
  generalize hQ : EX E (wC E σf ++ X) (exN nx) A s a below = QQ
  obtain ⟨H, hH⟩ : ∃ H, H = s.heap := ⟨_, rfl⟩
  obtain ⟨locs, hlocs⟩ : ∃ z, z = ([] : List Loc) := ⟨_, rfl⟩
  have hV : AtW E (wC E σ ++ X) A s H locs := by rw [hH, hlocs]; exact hV
  have goal : W p l e rmx_X9_needSleeve s m a below meth c H locs 0 0 QQ (F0 m 0 ls []) := by
    unfold x_X9_needSleeve at h
    have hj15 : ∀ (σ1 : St) (H : Heap) (locs : List Loc) (ls : Array Slot), x_X9_needSleeve_b15 σ1 = some (.inr (nx, σf)) → AtW E (wC E σ1 ++ X) A s H locs → lv_has ls 2 [(0, .ref (eA E 0))] → W p l e rmx_X9_needSleeve s m a below meth c H locs 0 0 QQ (F0 m 15 ls []) := by
      intro σ1 H locs ls h hV hl
      unfold x_X9_needSleeve_b15 at h
      refine lv_aload_n hx hb dX9_needSleeve_15 rfl (lv_at hl 0 rfl) ?_
      refine G_X9_refused cx hV mk_2_145 dX9_needSleeve_16 ?_
      refine lv_iconst (v := 1) hx hb dX9_needSleeve_19 (by decide) ?_
      refine lv_iconst (v := 1) hx hb dX9_needSleeve_20 (by decide) ?_
      refine bd_e h (fun σ2 hq h => ?_)
      refine k_X2_add (by decide) hq cx hV mk_3_182 ⟨Nat.le_of_ble_eq_true rfl, Nat.le_of_ble_eq_true rfl⟩ ⟨Nat.zero_le _, Nat.zero_le _⟩ hl.1 (Nat.le_of_ble_eq_true rfl) dX9_needSleeve_21 (fun H locs hV => ?_)
      obtain ⟨h1, h2⟩ := Prod.mk.inj (Sum.inr.inj (Option.some.inj h))
      subst h1
      subst h2
      subst hQ
      exact r_new_sleeve cx hT hV hF hx0 hlk hl.1 ⟨Nat.le_of_ble_eq_true rfl, Nat.le_of_ble_eq_true rfl, Nat.le_of_ble_eq_true rfl, Nat.le_of_ble_eq_true rfl⟩ dX9_needSleeve_24 dX9_needSleeve_27 dX9_needSleeve_28 dX9_needSleeve_31 dX9_needSleeve_34
    refine lv_iload_n hx hb dX9_needSleeve_0 rfl (lv_at hl 1 rfl) ?_
    refine lv_if_lt (tgt := 15) hx hb dX9_needSleeve_1 (by decide) (fun hc => ?_) (fun hc => ?_)
    · have h := ifp hc h
      exact hj15 σ _ _ _ h hV (lv_sub hl [0] rfl)
    · have h := ifn hc h
      refine lv_iload_n hx hb dX9_needSleeve_4 rfl (lv_at hl 1 rfl) ?_
      refine lv_aload_n hx hb dX9_needSleeve_5 rfl (lv_at hl 0 rfl) ?_
      refine G_X9_told cx hV mk_2_141 dX9_needSleeve_6 ?_
      refine G_X7_sleeves cx hV (by decide) mk_1_60 dX9_needSleeve_9 ?_
      refine lv_icmp_lt (tgt := 35) hx hb dX9_needSleeve_12 (by decide) (fun hc => ?_) (fun hc => ?_)
      · have h := ifp hc h
        exact (inlr h).elim
      · have h := ifn hc h
        exact hj15 σ _ _ _ h hV (lv_sub hl [0] rfl)
  rw [hH, hlocs] at goal
  exact goal
theorem k_X9_needSleeve {p : Program} {l : Launch} {e : Env} {R : Room} {s : State} {m : MethodId} {a : Array Value} {below : List Frame} {meth : Method} {c : Code} {H : Heap} {locs : List Loc} {cells slots : Nat} {Q : State → Prop} {cc : ByteArray} {own : String} {nL pc : Nat} {ls : Array Slot} {rest : List Value} {A : Nat → Prop} {E : EV} {X : va_W} {σ : St} {p1 : Int32} {σf : St} (h : x_X9_needSleeve p1 σ = some (.inl σf)) (cx : CallFix p m c cc nL s a TBL own) (hV : AtW E (wC E σ ++ X) A s H locs) (hF : FZ E A s s.heap) {idx : Nat} (w1 : Cond.methodLink own idx yX9_needSleeve ∈ TBL) (hR : (rm_X9_needSleeve).frames + 1 ≤ R.frames ∧ 8 + (2 + 11) + (rm_X9_needSleeve).locals ≤ R.locals) (hcs : cells ≤ R.cells ∧ slots ≤ R.slots) (hls : ls.size = nL) (hcat : (rest.map fun v => v.category).sum ≤ 8) (d : decode cc pc = .ok (.invokevirtual idx, 3)) (kk : ∀ (H1 : Heap) (locs1 : List Loc), AtW E (wC E σf ++ X) A s H1 locs1 → W p l e R s m a below meth c H1 locs1 cells slots Q (F0 m (pc + 3) ls (rest))) : W p l e R s m a below meth c H locs cells slots Q (F0 m pc ls (.int p1 :: .ref (eA E 0) :: rest)) :=
  r_callFv (n := 1) (As := [.int p1]) (q0 := 0) (ci := 9) (qq := (RX9, TX9, 14)) (c_X9_needSleeve h) wC_fst rfl rfl mk_4_239 mk_P_38 mk_1_1 mk_5_0 (by decide +kernel) rfl ⟨rfl, rfl⟩ cx hV hF w1 hR hcs hls rfl hcat d kk
theorem kx_X9_needSleeve {p : Program} {l : Launch} {e : Env} {R : Room} {s : State} {m : MethodId} {a : Array Value} {below : List Frame} {meth : Method} {c : Code} {H : Heap} {locs : List Loc} {cc : ByteArray} {own : String} {nL pc : Nat} {ls : Array Slot} {rest : List Value} {A : Nat → Prop} {E : EV} {X : va_W} {σ : St} {p1 : Int32} (hT : l.stackTraces = false) {nx : Nat} {σf : St} (h : x_X9_needSleeve p1 σ = some (.inr (nx, σf))) (cx : CallFix p m c cc nL s a TBL own) (hV : AtW E (wC E σ ++ X) A s H locs) (hF : FZ E A s s.heap) (hx0 : ∀ x ∈ c.exceptionTable.toList, False) (hlk : meth.locks = false) {idx : Nat} (w1 : Cond.methodLink own idx yX9_needSleeve ∈ TBL) (hR : (rmx_X9_needSleeve).frames + 1 ≤ R.frames ∧ 8 + (2 + 11) + (rmx_X9_needSleeve).locals ≤ R.locals) (hcs : 1 ≤ R.cells ∧ 6 ≤ R.slots) (hls : ls.size = nL) (hcat : (rest.map fun v => v.category).sum ≤ 8) (d : decode cc pc = .ok (.invokevirtual idx, 3)) : W p l e R s m a below meth c H locs 0 0 (EX E (wC E σf ++ X) (exN nx) A s a below) (F0 m pc ls (.int p1 :: .ref (eA E 0) :: rest)) :=
  r_callx (n := 1) (As := [.int p1]) (q0 := 0) (ci := 9) (qq := (RX9, TX9, 14)) (t_X9_needSleeve hT h) rfl rfl mk_4_239 mk_P_38 mk_1_1 mk_5_0 (by decide +kernel) rfl ⟨rfl, rfl⟩ cx hV hF hx0 hlk w1 hR hcs hls rfl hcat d
def x_X9_kindOf (p1 : Int32) (σ : St) : Option Int32 :=
  bd (x_X5_lies 0 p1 σ) fun v1 =>
  (if v1 = 0 then
  some 4
  else
  bd (x_X2_at 17 p1 σ) fun v2 =>
  (if v2 = p1 then
  bd (x_X5_offOwn 0 0 p1 σ) fun v3 =>
  some (mnI 2 v3)
  else
  some 3))
abbrev rm_X9_kindOf : Room := { frames := 3, cells := 0, slots := 0, locals := 65 }
set_option maxHeartbeats 4000000 in
set_option maxRecDepth 100000 in
theorem c_X9_kindOf {l : Launch} {E : EV} {X : va_W} {σ : St} {p1 : Int32} {rv : Int32} (h : x_X9_kindOf p1 σ = some rv) : CM l yX9_kindOf cX9_kindOf 2 (some .int) rm_X9_kindOf [.ref (eA E 0), .int p1] E (wC E σ ++ X) (wC E σ ++ X) (qI rv) := by
  refine CM.start (by decide) (Nat.le_of_ble_eq_true rfl) (fun p e s m a below meth c A ls cx hr hlk hV hl => ?_)
  have cx : CallFix p m c cX9_kindOf 2 s a TBL RX9 := cx
  have hx := cx.1
  have hb := cx.2.1
  have hl : lv_has ls 2 [(0, .ref (eA E 0)), (1, .int p1)] := hl
  generalize hQ : EQ E (wC E σ ++ X) (qI rv) A s a below = QQ
  obtain ⟨H, hH⟩ : ∃ H, H = s.heap := ⟨_, rfl⟩
  obtain ⟨locs, hlocs⟩ : ∃ z, z = ([] : List Loc) := ⟨_, rfl⟩
  have hV : AtW E (wC E σ ++ X) A s H locs := by rw [hH, hlocs]; exact hV
  have goal : W p l e rm_X9_kindOf s m a below meth c H locs 0 0 QQ (F0 m 0 ls []) := by
    unfold x_X9_kindOf at h
    refine lv_aload_n hx hb dX9_kindOf_0 rfl (lv_at hl 0 rfl) ?_
    refine G_X9_stock cx hV mk_2_142 dX9_kindOf_1 ?_
    refine lv_iload_n hx hb dX9_kindOf_4 rfl (lv_at hl 1 rfl) ?_
    refine bd_e h (fun v1 hq h => ?_)
    refine k_X5_lies (by decide) hq cx hV mk_5_21 ⟨Nat.le_of_ble_eq_true rfl, Nat.le_of_ble_eq_true rfl⟩ ⟨Nat.zero_le _, Nat.zero_le _⟩ hl.1 (Nat.le_of_ble_eq_true rfl) dX9_kindOf_5 (fun H locs hV => ?_)
    refine lv_if_ne (tgt := 13) hx hb dX9_kindOf_8 (by decide) (fun hc => ?_) (fun hc => ?_)
    · have h := ifn hc h
      refine lv_aload_n hx hb dX9_kindOf_13 rfl (lv_at hl 0 rfl) ?_
      refine G_X9_stock cx hV mk_2_142 dX9_kindOf_14 ?_
      refine G_X5_discs cx hV (by decide) mk_1_129 dX9_kindOf_17 ?_
      refine lv_iload_n hx hb dX9_kindOf_20 rfl (lv_at hl 1 rfl) ?_
      refine bd_e h (fun v2 hq h => ?_)
      refine k_X2_at (by decide) hq cx hV mk_3_93 ⟨Nat.le_of_ble_eq_true rfl, Nat.le_of_ble_eq_true rfl⟩ ⟨Nat.zero_le _, Nat.zero_le _⟩ hl.1 (Nat.le_of_ble_eq_true rfl) dX9_kindOf_21 (fun H locs hV => ?_)
      refine lv_iload_n hx hb dX9_kindOf_24 rfl (lv_at hl 1 rfl) ?_
      refine lv_icmp_eq (tgt := 30) hx hb dX9_kindOf_25 (by decide) (fun hc => ?_) (fun hc => ?_)
      · have h := ifp hc h
        refine lv_iconst (v := 2) hx hb dX9_kindOf_30 (by decide) ?_
        refine lv_aload_n hx hb dX9_kindOf_31 rfl (lv_at hl 0 rfl) ?_
        refine G_X9_stock cx hV mk_2_142 dX9_kindOf_32 ?_
        refine lv_aload_n hx hb dX9_kindOf_35 rfl (lv_at hl 0 rfl) ?_
        refine G_X9_told cx hV mk_2_141 dX9_kindOf_36 ?_
        refine lv_iload_n hx hb dX9_kindOf_39 rfl (lv_at hl 1 rfl) ?_
        refine bd_e h (fun v3 hq h => ?_)
        refine k_X5_offOwn (by decide) (by decide) hq cx hV mk_3_98 ⟨Nat.le_of_ble_eq_true rfl, Nat.le_of_ble_eq_true rfl⟩ ⟨Nat.zero_le _, Nat.zero_le _⟩ hl.1 (Nat.le_of_ble_eq_true rfl) dX9_kindOf_40 (fun H locs hV => ?_)
        refine r_min cx hl.1 mk_5_22 mk_3_78 mk_1_20 mk_3_79 (Nat.le_of_ble_eq_true rfl) (Nat.le_of_ble_eq_true rfl) ⟨Nat.zero_le _, Nat.zero_le _⟩ dX9_kindOf_43 ?_
        have h1 := Option.some.inj h
        subst h1
        subst hQ
        exact r_ireti cx hr hlk hV dX9_kindOf_46
      · have h := ifn hc h
        refine lv_iconst (v := 3) hx hb dX9_kindOf_28 (by decide) ?_
        have h1 := Option.some.inj h
        subst h1
        subst hQ
        exact r_ireti cx hr hlk hV dX9_kindOf_29
    · have h := ifp hc h
      refine lv_iconst (v := 4) hx hb dX9_kindOf_11 (by decide) ?_
      have h1 := Option.some.inj h
      subst h1
      subst hQ
      exact r_ireti cx hr hlk hV dX9_kindOf_12
  rw [hH, hlocs] at goal
  exact goal
theorem k_X9_kindOf {p : Program} {l : Launch} {e : Env} {R : Room} {s : State} {m : MethodId} {a : Array Value} {below : List Frame} {meth : Method} {c : Code} {H : Heap} {locs : List Loc} {cells slots : Nat} {Q : State → Prop} {cc : ByteArray} {own : String} {nL pc : Nat} {ls : Array Slot} {rest : List Value} {A : Nat → Prop} {E : EV} {X : va_W} {σ : St} {p1 : Int32} {rv : Int32} (h : x_X9_kindOf p1 σ = some rv) (cx : CallFix p m c cc nL s a TBL own) (hV : AtW E (wC E σ ++ X) A s H locs) {idx : Nat} (w1 : Cond.methodLink own idx yX9_kindOf ∈ TBL) (hR : (rm_X9_kindOf).frames + 1 ≤ R.frames ∧ 8 + (2 + 11) + (rm_X9_kindOf).locals ≤ R.locals) (hcs : cells ≤ R.cells ∧ slots ≤ R.slots) (hls : ls.size = nL) (hcat : (rest.map fun v => v.category).sum ≤ 8) (d : decode cc pc = .ok (.invokevirtual idx, 3)) (kk : ∀ (H1 : Heap) (locs1 : List Loc), AtW E (wC E σ ++ X) A s H1 locs1 → W p l e R s m a below meth c H1 locs1 cells slots Q (F0 m (pc + 3) ls (.int rv :: rest))) : W p l e R s m a below meth c H locs cells slots Q (F0 m pc ls (.int p1 :: .ref (eA E 0) :: rest)) :=
  r_calli (n := 1) (As := [.int p1]) (q0 := 0) (ci := 9) (qq := (RX9, TX9, 14)) (c_X9_kindOf h) rfl rfl rfl mk_5_19 mk_P_39 mk_1_1 mk_5_20 (by decide +kernel) rfl ⟨rfl, rfl⟩ cx hV w1 hR hcs hls rfl hcat d kk
def x_X9_sleeve_b21 (w1 : Int32) (w2 : Int32) (w3 : Int32) (σ4 : St) : Option ((Int32 × St) ⊕ (Nat × St)) :=
  bt (x_X9_need w3 σ4) fun σ5 =>
  (if w2 = 4 then
  bd (x_X2_at 15 w1 σ5) fun v6 =>
  some (.inl (v6, σ5))
  else
  (if w2 = 5 then
  bd (x_X2_at 17 w1 σ5) fun v7 =>
  some (.inl (v7, σ5))
  else
  (if w2 = 6 then
  bd (x_X9_kindOf w1 σ5) fun v8 =>
  some (.inl (v8, σ5))
  else
  bd (x_X7_ofSleeve 0 w1 w2 σ5) fun v9 =>
  some (.inl (v9, σ5)))))
def x_X9_sleeve_b20 (w10 : Int32) (w11 : Int32) (σ12 : St) : Option ((Int32 × St) ⊕ (Nat × St)) :=
  x_X9_sleeve_b21 w10 w11 0 σ12
def x_X9_sleeve (p1 : Int32) (p2 : Int32) (σ : St) : Option ((Int32 × St) ⊕ (Nat × St)) :=
  bt (x_X9_needSleeve p1 σ) fun σ13 =>
  (if p2 < 0 then
  x_X9_sleeve_b20 p1 p2 σ13
  else
  (if 6 < p2 then
  x_X9_sleeve_b20 p1 p2 σ13
  else
  x_X9_sleeve_b21 p1 p2 1 σ13))
abbrev rm_X9_sleeve : Room := { frames := 4, cells := 0, slots := 0, locals := 86 }
abbrev rmx_X9_sleeve : Room := { frames := 7, cells := 1, slots := 6, locals := 103 }
set_option maxHeartbeats 4000000 in
set_option maxRecDepth 100000 in
theorem c_X9_sleeve {l : Launch} {E : EV} {X : va_W} {σ : St} {p1 : Int32} {p2 : Int32} {rv : Int32} {σf : St} (h : x_X9_sleeve p1 p2 σ = some (.inl (rv, σf))) : CMF l yX9_sleeve cX9_sleeve 3 (some .int) rm_X9_sleeve [.ref (eA E 0), .int p1, .int p2] E (wC E σ ++ X) (wC E σf ++ X) (qI rv) := by
  refine CMF.start (by decide) (Nat.le_of_ble_eq_true rfl) (fun p e s m a below meth c A ls cx hr hlk hV hF hl => ?_)
  have cx : CallFix p m c cX9_sleeve 3 s a TBL RX9 := cx
  have hx := cx.1
  have hb := cx.2.1
  have hl : lv_has ls 3 [(0, .ref (eA E 0)), (1, .int p1), (2, .int p2)] := hl
  generalize hQ : EQ E (wC E σf ++ X) (qI rv) A s a below = QQ
  obtain ⟨H, hH⟩ : ∃ H, H = s.heap := ⟨_, rfl⟩
  obtain ⟨locs, hlocs⟩ : ∃ z, z = ([] : List Loc) := ⟨_, rfl⟩
  have hV : AtW E (wC E σ ++ X) A s H locs := by rw [hH, hlocs]; exact hV
  have goal : W p l e rm_X9_sleeve s m a below meth c H locs 0 0 QQ (F0 m 0 ls []) := by
    unfold x_X9_sleeve at h
    have hj21 : ∀ (w1 : Int32) (w2 : Int32) (w3 : Int32) (σ4 : St) (H : Heap) (locs : List Loc) (ls : Array Slot), x_X9_sleeve_b21 w1 w2 w3 σ4 = some (.inl (rv, σf)) → AtW E (wC E σ4 ++ X) A s H locs → lv_has ls 3 [(0, .ref (eA E 0)), (1, .int w1), (2, .int w2)] → W p l e rm_X9_sleeve s m a below meth c H locs 0 0 QQ (F0 m 21 ls [.int w3, .ref (eA E 0)]) := by
      intro w1 w2 w3 σ4 H locs ls h hV hl
      unfold x_X9_sleeve_b21 at h
      refine bt_e h (fun σ5 hq h => ?_) (fun q hq h => ?_)
      rotate_left
      · exact (inrl' h).elim
      refine k_X9_need hq cx hV hF mk_3_178 ⟨Nat.le_of_ble_eq_true rfl, Nat.le_of_ble_eq_true rfl⟩ ⟨Nat.zero_le _, Nat.zero_le _⟩ hl.1 (Nat.le_of_ble_eq_true rfl) dX9_sleeve_21 (fun H locs hV => ?_)
      refine lv_iload_n hx hb dX9_sleeve_24 rfl (lv_at hl 2 rfl) ?_
      by_cases hc4 : w2 = 4
      · have h := ifp hc4 h
        refine r_swIn (tgt := 52) cx hc4 dX9_sleeve_25 (by decide) (by decide) rfl (by decide) ?_
        refine lv_aload_n hx hb dX9_sleeve_52 rfl (lv_at hl 0 rfl) ?_
        refine G_X9_stock cx hV mk_2_142 dX9_sleeve_53 ?_
        refine G_X5_where cx hV (by decide) mk_1_123 dX9_sleeve_56 ?_
        refine lv_iload_n hx hb dX9_sleeve_59 rfl (lv_at hl 1 rfl) ?_
        refine bd_e h (fun v6 hq h => ?_)
        refine k_X2_at (by decide) hq cx hV mk_3_93 ⟨Nat.le_of_ble_eq_true rfl, Nat.le_of_ble_eq_true rfl⟩ ⟨Nat.zero_le _, Nat.zero_le _⟩ hl.1 (Nat.le_of_ble_eq_true rfl) dX9_sleeve_60 (fun H locs hV => ?_)
        have h := congrArg some (Sum.inl.inj (Option.some.inj h))
        obtain ⟨h1, h2⟩ := Prod.mk.inj (Option.some.inj h)
        subst h1
        subst h2
        subst hQ
        exact r_ireti cx hr hlk hV dX9_sleeve_63
      have h := ifn hc4 h
      by_cases hc5 : w2 = 5
      · have h := ifp hc5 h
        refine r_swIn (tgt := 64) cx hc5 dX9_sleeve_25 (by decide) (by decide) rfl (by decide) ?_
        refine lv_aload_n hx hb dX9_sleeve_64 rfl (lv_at hl 0 rfl) ?_
        refine G_X9_stock cx hV mk_2_142 dX9_sleeve_65 ?_
        refine G_X5_discs cx hV (by decide) mk_1_129 dX9_sleeve_68 ?_
        refine lv_iload_n hx hb dX9_sleeve_71 rfl (lv_at hl 1 rfl) ?_
        refine bd_e h (fun v7 hq h => ?_)
        refine k_X2_at (by decide) hq cx hV mk_3_93 ⟨Nat.le_of_ble_eq_true rfl, Nat.le_of_ble_eq_true rfl⟩ ⟨Nat.zero_le _, Nat.zero_le _⟩ hl.1 (Nat.le_of_ble_eq_true rfl) dX9_sleeve_72 (fun H locs hV => ?_)
        have h := congrArg some (Sum.inl.inj (Option.some.inj h))
        obtain ⟨h1, h2⟩ := Prod.mk.inj (Option.some.inj h)
        subst h1
        subst h2
        subst hQ
        exact r_ireti cx hr hlk hV dX9_sleeve_75
      have h := ifn hc5 h
      by_cases hc6 : w2 = 6
      · have h := ifp hc6 h
        refine r_swIn (tgt := 76) cx hc6 dX9_sleeve_25 (by decide) (by decide) rfl (by decide) ?_
        refine lv_aload_n hx hb dX9_sleeve_76 rfl (lv_at hl 0 rfl) ?_
        refine lv_iload_n hx hb dX9_sleeve_77 rfl (lv_at hl 1 rfl) ?_
        refine bd_e h (fun v8 hq h => ?_)
        refine k_X9_kindOf hq cx hV mk_5_17 ⟨Nat.le_of_ble_eq_true rfl, Nat.le_of_ble_eq_true rfl⟩ ⟨Nat.zero_le _, Nat.zero_le _⟩ hl.1 (Nat.le_of_ble_eq_true rfl) dX9_sleeve_78 (fun H locs hV => ?_)
        have h := congrArg some (Sum.inl.inj (Option.some.inj h))
        obtain ⟨h1, h2⟩ := Prod.mk.inj (Option.some.inj h)
        subst h1
        subst h2
        subst hQ
        exact r_ireti cx hr hlk hV dX9_sleeve_81
      have h := ifn hc6 h
      have hout : (w2).toInt < 4 ∨ 6 < (w2).toInt := by
        have g4 := lv_neT hc4 (a := 4) rfl
        have g5 := lv_neT hc5 (a := 5) rfl
        have g6 := lv_neT hc6 (a := 6) rfl
        omega
      refine lv_tableOut (tgt := 82) hx hb dX9_sleeve_25 hout (by decide) ?_
      refine lv_aload_n hx hb dX9_sleeve_82 rfl (lv_at hl 0 rfl) ?_
      refine G_X9_told cx hV mk_2_141 dX9_sleeve_83 ?_
      refine lv_iload_n hx hb dX9_sleeve_86 rfl (lv_at hl 1 rfl) ?_
      refine lv_iload_n hx hb dX9_sleeve_87 rfl (lv_at hl 2 rfl) ?_
      refine bd_e h (fun v9 hq h => ?_)
      refine k_X7_ofSleeve (by decide) hq cx hV mk_3_110 ⟨Nat.le_of_ble_eq_true rfl, Nat.le_of_ble_eq_true rfl⟩ ⟨Nat.zero_le _, Nat.zero_le _⟩ hl.1 (Nat.le_of_ble_eq_true rfl) dX9_sleeve_88 (fun H locs hV => ?_)
      have h := congrArg some (Sum.inl.inj (Option.some.inj h))
      obtain ⟨h1, h2⟩ := Prod.mk.inj (Option.some.inj h)
      subst h1
      subst h2
      subst hQ
      exact r_ireti cx hr hlk hV dX9_sleeve_91
    have hj20 : ∀ (w10 : Int32) (w11 : Int32) (σ12 : St) (H : Heap) (locs : List Loc) (ls : Array Slot), x_X9_sleeve_b20 w10 w11 σ12 = some (.inl (rv, σf)) → AtW E (wC E σ12 ++ X) A s H locs → lv_has ls 3 [(0, .ref (eA E 0)), (1, .int w10), (2, .int w11)] → W p l e rm_X9_sleeve s m a below meth c H locs 0 0 QQ (F0 m 20 ls [.ref (eA E 0)]) := by
      intro w10 w11 σ12 H locs ls h hV hl
      unfold x_X9_sleeve_b20 at h
      refine lv_iconst (v := 0) hx hb dX9_sleeve_20 (by decide) ?_
      exact hj21 w10 w11 0 σ12 _ _ _ h hV (lv_sub hl [0, 1, 2] rfl)
    refine lv_aload_n hx hb dX9_sleeve_0 rfl (lv_at hl 0 rfl) ?_
    refine lv_iload_n hx hb dX9_sleeve_1 rfl (lv_at hl 1 rfl) ?_
    refine bt_e h (fun σ13 hq h => ?_) (fun q hq h => ?_)
    rotate_left
    · exact (inrl' h).elim
    refine k_X9_needSleeve hq cx hV hF mk_4_237 ⟨Nat.le_of_ble_eq_true rfl, Nat.le_of_ble_eq_true rfl⟩ ⟨Nat.zero_le _, Nat.zero_le _⟩ hl.1 (Nat.le_of_ble_eq_true rfl) dX9_sleeve_2 (fun H locs hV => ?_)
    refine lv_aload_n hx hb dX9_sleeve_5 rfl (lv_at hl 0 rfl) ?_
    refine lv_iload_n hx hb dX9_sleeve_6 rfl (lv_at hl 2 rfl) ?_
    refine lv_if_lt (tgt := 20) hx hb dX9_sleeve_7 (by decide) (fun hc => ?_) (fun hc => ?_)
    · have h := ifp hc h
      exact hj20 p1 p2 σ13 _ _ _ h hV (lv_sub hl [0, 1, 2] rfl)
    · have h := ifn hc h
      refine lv_iload_n hx hb dX9_sleeve_10 rfl (lv_at hl 2 rfl) ?_
      refine lv_bipush (v := 6) hx hb dX9_sleeve_11 (by decide) ?_
      refine lv_icmp_gt (tgt := 20) hx hb dX9_sleeve_13 (by decide) (fun hc => ?_) (fun hc => ?_)
      · have h := ifp hc h
        exact hj20 p1 p2 σ13 _ _ _ h hV (lv_sub hl [0, 1, 2] rfl)
      · have h := ifn hc h
        refine lv_iconst (v := 1) hx hb dX9_sleeve_16 (by decide) ?_
        refine lv_goto (tgt := 21) hx hb dX9_sleeve_17 (by decide) ?_
        exact hj21 p1 p2 1 σ13 _ _ _ h hV (lv_sub hl [0, 1, 2] rfl)
  rw [hH, hlocs] at goal
  exact goal
set_option maxHeartbeats 4000000 in
set_option maxRecDepth 100000 in
theorem t_X9_sleeve {l : Launch} (hT : l.stackTraces = false) {E : EV} {X : va_W} {σ : St} {p1 : Int32} {p2 : Int32} {nx : Nat} {σf : St} (h : x_X9_sleeve p1 p2 σ = some (.inr (nx, σf))) : CXF l yX9_sleeve cX9_sleeve 3 (some .int) rmx_X9_sleeve [.ref (eA E 0), .int p1, .int p2] E (wC E σ ++ X) (wC E σf ++ X) (exN nx) := by
  refine CXF.start (by decide) (Nat.le_of_ble_eq_true rfl) (fun p e s m a below meth c A ls cx hx0 hlk hV hF hl => ?_)
  have cx : CallFix p m c cX9_sleeve 3 s a TBL RX9 := cx
  have hx := cx.1
  have hb := cx.2.1
  have hl : lv_has ls 3 [(0, .ref (eA E 0)), (1, .int p1), (2, .int p2)] := hl
  generalize hQ : EX E (wC E σf ++ X) (exN nx) A s a below = QQ
  obtain ⟨H, hH⟩ : ∃ H, H = s.heap := ⟨_, rfl⟩
  obtain ⟨locs, hlocs⟩ : ∃ z, z = ([] : List Loc) := ⟨_, rfl⟩
  have hV : AtW E (wC E σ ++ X) A s H locs := by rw [hH, hlocs]; exact hV
  have goal : W p l e rmx_X9_sleeve s m a below meth c H locs 0 0 QQ (F0 m 0 ls []) := by
    unfold x_X9_sleeve at h
    have hj21 : ∀ (w1 : Int32) (w2 : Int32) (w3 : Int32) (σ4 : St) (H : Heap) (locs : List Loc) (ls : Array Slot), x_X9_sleeve_b21 w1 w2 w3 σ4 = some (.inr (nx, σf)) → AtW E (wC E σ4 ++ X) A s H locs → lv_has ls 3 [(0, .ref (eA E 0)), (1, .int w1), (2, .int w2)] → W p l e rmx_X9_sleeve s m a below meth c H locs 0 0 QQ (F0 m 21 ls [.int w3, .ref (eA E 0)]) := by
      intro w1 w2 w3 σ4 H locs ls h hV hl
      unfold x_X9_sleeve_b21 at h
      refine bt_e h (fun σ5 hq h => ?_) (fun q hq h => ?_)
      rotate_left
      · have h := Sum.inr.inj h
        subst h
        subst hQ
        exact kx_X9_need hT hq cx hV hF hx0 hlk mk_3_178 ⟨Nat.le_of_ble_eq_true rfl, Nat.le_of_ble_eq_true rfl⟩ ⟨Nat.le_of_ble_eq_true rfl, Nat.le_of_ble_eq_true rfl⟩ hl.1 (Nat.le_of_ble_eq_true rfl) dX9_sleeve_21
      refine k_X9_need hq cx hV hF mk_3_178 ⟨Nat.le_of_ble_eq_true rfl, Nat.le_of_ble_eq_true rfl⟩ ⟨Nat.zero_le _, Nat.zero_le _⟩ hl.1 (Nat.le_of_ble_eq_true rfl) dX9_sleeve_21 (fun H locs hV => ?_)
      refine lv_iload_n hx hb dX9_sleeve_24 rfl (lv_at hl 2 rfl) ?_
      by_cases hc4 : w2 = 4
      · have h := ifp hc4 h
        refine r_swIn (tgt := 52) cx hc4 dX9_sleeve_25 (by decide) (by decide) rfl (by decide) ?_
        refine lv_aload_n hx hb dX9_sleeve_52 rfl (lv_at hl 0 rfl) ?_
        refine G_X9_stock cx hV mk_2_142 dX9_sleeve_53 ?_
        refine G_X5_where cx hV (by decide) mk_1_123 dX9_sleeve_56 ?_
        refine lv_iload_n hx hb dX9_sleeve_59 rfl (lv_at hl 1 rfl) ?_
        refine bd_e h (fun v6 hq h => ?_)
        refine k_X2_at (by decide) hq cx hV mk_3_93 ⟨Nat.le_of_ble_eq_true rfl, Nat.le_of_ble_eq_true rfl⟩ ⟨Nat.zero_le _, Nat.zero_le _⟩ hl.1 (Nat.le_of_ble_eq_true rfl) dX9_sleeve_60 (fun H locs hV => ?_)
        exact (inlr h).elim
      have h := ifn hc4 h
      by_cases hc5 : w2 = 5
      · have h := ifp hc5 h
        refine r_swIn (tgt := 64) cx hc5 dX9_sleeve_25 (by decide) (by decide) rfl (by decide) ?_
        refine lv_aload_n hx hb dX9_sleeve_64 rfl (lv_at hl 0 rfl) ?_
        refine G_X9_stock cx hV mk_2_142 dX9_sleeve_65 ?_
        refine G_X5_discs cx hV (by decide) mk_1_129 dX9_sleeve_68 ?_
        refine lv_iload_n hx hb dX9_sleeve_71 rfl (lv_at hl 1 rfl) ?_
        refine bd_e h (fun v7 hq h => ?_)
        refine k_X2_at (by decide) hq cx hV mk_3_93 ⟨Nat.le_of_ble_eq_true rfl, Nat.le_of_ble_eq_true rfl⟩ ⟨Nat.zero_le _, Nat.zero_le _⟩ hl.1 (Nat.le_of_ble_eq_true rfl) dX9_sleeve_72 (fun H locs hV => ?_)
        exact (inlr h).elim
      have h := ifn hc5 h
      by_cases hc6 : w2 = 6
      · have h := ifp hc6 h
        refine r_swIn (tgt := 76) cx hc6 dX9_sleeve_25 (by decide) (by decide) rfl (by decide) ?_
        refine lv_aload_n hx hb dX9_sleeve_76 rfl (lv_at hl 0 rfl) ?_
        refine lv_iload_n hx hb dX9_sleeve_77 rfl (lv_at hl 1 rfl) ?_
        refine bd_e h (fun v8 hq h => ?_)
        refine k_X9_kindOf hq cx hV mk_5_17 ⟨Nat.le_of_ble_eq_true rfl, Nat.le_of_ble_eq_true rfl⟩ ⟨Nat.zero_le _, Nat.zero_le _⟩ hl.1 (Nat.le_of_ble_eq_true rfl) dX9_sleeve_78 (fun H locs hV => ?_)
        exact (inlr h).elim
      have h := ifn hc6 h
      have hout : (w2).toInt < 4 ∨ 6 < (w2).toInt := by
        have g4 := lv_neT hc4 (a := 4) rfl
        have g5 := lv_neT hc5 (a := 5) rfl
        have g6 := lv_neT hc6 (a := 6) rfl
        omega
      refine lv_tableOut (tgt := 82) hx hb dX9_sleeve_25 hout (by decide) ?_
      refine lv_aload_n hx hb dX9_sleeve_82 rfl (lv_at hl 0 rfl) ?_
      refine G_X9_told cx hV mk_2_141 dX9_sleeve_83 ?_
      refine lv_iload_n hx hb dX9_sleeve_86 rfl (lv_at hl 1 rfl) ?_
      refine lv_iload_n hx hb dX9_sleeve_87 rfl (lv_at hl 2 rfl) ?_
      refine bd_e h (fun v9 hq h => ?_)
      refine k_X7_ofSleeve (by decide) hq cx hV mk_3_110 ⟨Nat.le_of_ble_eq_true rfl, Nat.le_of_ble_eq_true rfl⟩ ⟨Nat.zero_le _, Nat.zero_le _⟩ hl.1 (Nat.le_of_ble_eq_true rfl) dX9_sleeve_88 (fun H locs hV => ?_)
      exact (inlr h).elim
    have hj20 : ∀ (w10 : Int32) (w11 : Int32) (σ12 : St) (H : Heap) (locs : List Loc) (ls : Array Slot), x_X9_sleeve_b20 w10 w11 σ12 = some (.inr (nx, σf)) → AtW E (wC E σ12 ++ X) A s H locs → lv_has ls 3 [(0, .ref (eA E 0)), (1, .int w10), (2, .int w11)] → W p l e rmx_X9_sleeve s m a below meth c H locs 0 0 QQ (F0 m 20 ls [.ref (eA E 0)]) := by
      intro w10 w11 σ12 H locs ls h hV hl
      unfold x_X9_sleeve_b20 at h
      refine lv_iconst (v := 0) hx hb dX9_sleeve_20 (by decide) ?_
      exact hj21 w10 w11 0 σ12 _ _ _ h hV (lv_sub hl [0, 1, 2] rfl)
    refine lv_aload_n hx hb dX9_sleeve_0 rfl (lv_at hl 0 rfl) ?_
    refine lv_iload_n hx hb dX9_sleeve_1 rfl (lv_at hl 1 rfl) ?_
    refine bt_e h (fun σ13 hq h => ?_) (fun q hq h => ?_)
    rotate_left
    · have h := Sum.inr.inj h
      subst h
      subst hQ
      exact kx_X9_needSleeve hT hq cx hV hF hx0 hlk mk_4_237 ⟨Nat.le_of_ble_eq_true rfl, Nat.le_of_ble_eq_true rfl⟩ ⟨Nat.le_of_ble_eq_true rfl, Nat.le_of_ble_eq_true rfl⟩ hl.1 (Nat.le_of_ble_eq_true rfl) dX9_sleeve_2
    refine k_X9_needSleeve hq cx hV hF mk_4_237 ⟨Nat.le_of_ble_eq_true rfl, Nat.le_of_ble_eq_true rfl⟩ ⟨Nat.zero_le _, Nat.zero_le _⟩ hl.1 (Nat.le_of_ble_eq_true rfl) dX9_sleeve_2 (fun H locs hV => ?_)
    refine lv_aload_n hx hb dX9_sleeve_5 rfl (lv_at hl 0 rfl) ?_
    refine lv_iload_n hx hb dX9_sleeve_6 rfl (lv_at hl 2 rfl) ?_
    refine lv_if_lt (tgt := 20) hx hb dX9_sleeve_7 (by decide) (fun hc => ?_) (fun hc => ?_)
    · have h := ifp hc h
      exact hj20 p1 p2 σ13 _ _ _ h hV (lv_sub hl [0, 1, 2] rfl)
    · have h := ifn hc h
      refine lv_iload_n hx hb dX9_sleeve_10 rfl (lv_at hl 2 rfl) ?_
      refine lv_bipush (v := 6) hx hb dX9_sleeve_11 (by decide) ?_
      refine lv_icmp_gt (tgt := 20) hx hb dX9_sleeve_13 (by decide) (fun hc => ?_) (fun hc => ?_)
      · have h := ifp hc h
        exact hj20 p1 p2 σ13 _ _ _ h hV (lv_sub hl [0, 1, 2] rfl)
      · have h := ifn hc h
        refine lv_iconst (v := 1) hx hb dX9_sleeve_16 (by decide) ?_
        refine lv_goto (tgt := 21) hx hb dX9_sleeve_17 (by decide) ?_
        exact hj21 p1 p2 1 σ13 _ _ _ h hV (lv_sub hl [0, 1, 2] rfl)
  rw [hH, hlocs] at goal
  exact goal
theorem k_X9_sleeve {p : Program} {l : Launch} {e : Env} {R : Room} {s : State} {m : MethodId} {a : Array Value} {below : List Frame} {meth : Method} {c : Code} {H : Heap} {locs : List Loc} {cells slots : Nat} {Q : State → Prop} {cc : ByteArray} {own : String} {nL pc : Nat} {ls : Array Slot} {rest : List Value} {A : Nat → Prop} {E : EV} {X : va_W} {σ : St} {p1 : Int32} {p2 : Int32} {rv : Int32} {σf : St} (h : x_X9_sleeve p1 p2 σ = some (.inl (rv, σf))) (cx : CallFix p m c cc nL s a TBL own) (hV : AtW E (wC E σ ++ X) A s H locs) (hF : FZ E A s s.heap) {idx : Nat} (w1 : Cond.methodLink own idx yX9_sleeve ∈ TBL) (hR : (rm_X9_sleeve).frames + 1 ≤ R.frames ∧ 8 + (3 + 11) + (rm_X9_sleeve).locals ≤ R.locals) (hcs : cells ≤ R.cells ∧ slots ≤ R.slots) (hls : ls.size = nL) (hcat : (rest.map fun v => v.category).sum ≤ 8) (d : decode cc pc = .ok (.invokevirtual idx, 3)) (kk : ∀ (H1 : Heap) (locs1 : List Loc), AtW E (wC E σf ++ X) A s H1 locs1 → W p l e R s m a below meth c H1 locs1 cells slots Q (F0 m (pc + 3) ls (.int rv :: rest))) : W p l e R s m a below meth c H locs cells slots Q (F0 m pc ls (.int p2 :: .int p1 :: .ref (eA E 0) :: rest)) :=
  r_callFi (n := 2) (As := [.int p1, .int p2]) (q0 := 0) (ci := 9) (qq := (RX9, TX9, 14)) (c_X9_sleeve h) wC_fst rfl rfl mk_4_234 mk_4_235 mk_1_1 mk_4_236 (by decide +kernel) rfl ⟨rfl, rfl⟩ cx hV hF w1 hR hcs hls rfl hcat d kk
theorem kx_X9_sleeve {p : Program} {l : Launch} {e : Env} {R : Room} {s : State} {m : MethodId} {a : Array Value} {below : List Frame} {meth : Method} {c : Code} {H : Heap} {locs : List Loc} {cc : ByteArray} {own : String} {nL pc : Nat} {ls : Array Slot} {rest : List Value} {A : Nat → Prop} {E : EV} {X : va_W} {σ : St} {p1 : Int32} {p2 : Int32} (hT : l.stackTraces = false) {nx : Nat} {σf : St} (h : x_X9_sleeve p1 p2 σ = some (.inr (nx, σf))) (cx : CallFix p m c cc nL s a TBL own) (hV : AtW E (wC E σ ++ X) A s H locs) (hF : FZ E A s s.heap) (hx0 : ∀ x ∈ c.exceptionTable.toList, False) (hlk : meth.locks = false) {idx : Nat} (w1 : Cond.methodLink own idx yX9_sleeve ∈ TBL) (hR : (rmx_X9_sleeve).frames + 1 ≤ R.frames ∧ 8 + (3 + 11) + (rmx_X9_sleeve).locals ≤ R.locals) (hcs : 1 ≤ R.cells ∧ 6 ≤ R.slots) (hls : ls.size = nL) (hcat : (rest.map fun v => v.category).sum ≤ 8) (d : decode cc pc = .ok (.invokevirtual idx, 3)) : W p l e R s m a below meth c H locs 0 0 (EX E (wC E σf ++ X) (exN nx) A s a below) (F0 m pc ls (.int p2 :: .int p1 :: .ref (eA E 0) :: rest)) :=
  r_callx (n := 2) (As := [.int p1, .int p2]) (q0 := 0) (ci := 9) (qq := (RX9, TX9, 14)) (t_X9_sleeve hT h) rfl rfl mk_4_234 mk_4_235 mk_1_1 mk_4_236 (by decide +kernel) rfl ⟨rfl, rfl⟩ cx hV hF hx0 hlk w1 hR hcs hls rfl hcat d
def x_X9_needLooker_b15 (σ1 : St) : Option (St ⊕ (Nat × St)) :=
  bd (x_X2_add 35 1 1 σ1) fun σ2 =>
  some (.inr (2, σ2))
def x_X9_needLooker (p1 : Int32) (σ : St) : Option (St ⊕ (Nat × St)) :=
  (if p1 < 0 then
  x_X9_needLooker_b15 σ
  else
  (if p1 < (gI σ 2) then
  some (.inl σ)
  else
  x_X9_needLooker_b15 σ))
abbrev rm_X9_needLooker : Room := { frames := 2, cells := 0, slots := 0, locals := 44 }
abbrev rmx_X9_needLooker : Room := { frames := 6, cells := 1, slots := 6, locals := 82 }
set_option maxHeartbeats 4000000 in
set_option maxRecDepth 100000 in
theorem c_X9_needLooker {l : Launch} {E : EV} {X : va_W} {σ : St} {p1 : Int32} {σf : St} (h : x_X9_needLooker p1 σ = some (.inl σf)) : CMF l yX9_needLooker cX9_needLooker 2 none rm_X9_needLooker [.ref (eA E 0), .int p1] E (wC E σ ++ X) (wC E σf ++ X) qV := by
  refine CMF.start (by decide) (Nat.le_of_ble_eq_true rfl) (fun p e s m a below meth c A ls cx hr hlk hV hF hl => ?_)
  have cx : CallFix p m c cX9_needLooker 2 s a TBL RX9 := cx
  have hx := cx.1
  have hb := cx.2.1
  have hl : lv_has ls 2 [(0, .ref (eA E 0)), (1, .int p1)] := hl
  generalize hQ : EQ E (wC E σf ++ X) qV A s a below = QQ
  obtain ⟨H, hH⟩ : ∃ H, H = s.heap := ⟨_, rfl⟩
  obtain ⟨locs, hlocs⟩ : ∃ z, z = ([] : List Loc) := ⟨_, rfl⟩
  have hV : AtW E (wC E σ ++ X) A s H locs := by rw [hH, hlocs]; exact hV
  have goal : W p l e rm_X9_needLooker s m a below meth c H locs 0 0 QQ (F0 m 0 ls []) := by
    unfold x_X9_needLooker at h
    have hj15 : ∀ (σ1 : St) (H : Heap) (locs : List Loc) (ls : Array Slot), x_X9_needLooker_b15 σ1 = some (.inl σf) → AtW E (wC E σ1 ++ X) A s H locs → lv_has ls 2 [(0, .ref (eA E 0))] → W p l e rm_X9_needLooker s m a below meth c H locs 0 0 QQ (F0 m 15 ls []) := by
      intro σ1 H locs ls h hV hl
      unfold x_X9_needLooker_b15 at h
      refine lv_aload_n hx hb dX9_needLooker_15 rfl (lv_at hl 0 rfl) ?_
      refine G_X9_refused cx hV mk_2_145 dX9_needLooker_16 ?_
      refine lv_iconst (v := 1) hx hb dX9_needLooker_19 (by decide) ?_
      refine lv_iconst (v := 1) hx hb dX9_needLooker_20 (by decide) ?_
      refine bd_e h (fun σ2 hq h => ?_)
      refine k_X2_add (by decide) hq cx hV mk_3_182 ⟨Nat.le_of_ble_eq_true rfl, Nat.le_of_ble_eq_true rfl⟩ ⟨Nat.zero_le _, Nat.zero_le _⟩ hl.1 (Nat.le_of_ble_eq_true rfl) dX9_needLooker_21 (fun H locs hV => ?_)
      exact (inrl h).elim
    refine lv_iload_n hx hb dX9_needLooker_0 rfl (lv_at hl 1 rfl) ?_
    refine lv_if_lt (tgt := 15) hx hb dX9_needLooker_1 (by decide) (fun hc => ?_) (fun hc => ?_)
    · have h := ifp hc h
      exact hj15 σ _ _ _ h hV (lv_sub hl [0] rfl)
    · have h := ifn hc h
      refine lv_iload_n hx hb dX9_needLooker_4 rfl (lv_at hl 1 rfl) ?_
      refine lv_aload_n hx hb dX9_needLooker_5 rfl (lv_at hl 0 rfl) ?_
      refine G_X9_told cx hV mk_2_141 dX9_needLooker_6 ?_
      refine G_X7_lookers cx hV (by decide) mk_1_65 dX9_needLooker_9 ?_
      refine lv_icmp_lt (tgt := 35) hx hb dX9_needLooker_12 (by decide) (fun hc => ?_) (fun hc => ?_)
      · have h := ifp hc h
        have h := congrArg some (Sum.inl.inj (Option.some.inj h))
        have h1 := Option.some.inj h
        subst h1
        subst hQ
        exact r_vret cx hr hlk hV dX9_needLooker_35
      · have h := ifn hc h
        exact hj15 σ _ _ _ h hV (lv_sub hl [0] rfl)
  rw [hH, hlocs] at goal
  exact goal
set_option maxHeartbeats 4000000 in
set_option maxRecDepth 100000 in
theorem t_X9_needLooker {l : Launch} (hT : l.stackTraces = false) {E : EV} {X : va_W} {σ : St} {p1 : Int32} {nx : Nat} {σf : St} (h : x_X9_needLooker p1 σ = some (.inr (nx, σf))) : CXF l yX9_needLooker cX9_needLooker 2 none rmx_X9_needLooker [.ref (eA E 0), .int p1] E (wC E σ ++ X) (wC E σf ++ X) (exN nx) := by
  refine CXF.start (by decide) (Nat.le_of_ble_eq_true rfl) (fun p e s m a below meth c A ls cx hx0 hlk hV hF hl => ?_)
  have cx : CallFix p m c cX9_needLooker 2 s a TBL RX9 := cx
  have hx := cx.1
  have hb := cx.2.1
  have hl : lv_has ls 2 [(0, .ref (eA E 0)), (1, .int p1)] := hl
  generalize hQ : EX E (wC E σf ++ X) (exN nx) A s a below = QQ
  obtain ⟨H, hH⟩ : ∃ H, H = s.heap := ⟨_, rfl⟩
  obtain ⟨locs, hlocs⟩ : ∃ z, z = ([] : List Loc) := ⟨_, rfl⟩
  have hV : AtW E (wC E σ ++ X) A s H locs := by rw [hH, hlocs]; exact hV
  have goal : W p l e rmx_X9_needLooker s m a below meth c H locs 0 0 QQ (F0 m 0 ls []) := by
    unfold x_X9_needLooker at h
    have hj15 : ∀ (σ1 : St) (H : Heap) (locs : List Loc) (ls : Array Slot), x_X9_needLooker_b15 σ1 = some (.inr (nx, σf)) → AtW E (wC E σ1 ++ X) A s H locs → lv_has ls 2 [(0, .ref (eA E 0))] → W p l e rmx_X9_needLooker s m a below meth c H locs 0 0 QQ (F0 m 15 ls []) := by
      intro σ1 H locs ls h hV hl
      unfold x_X9_needLooker_b15 at h
      refine lv_aload_n hx hb dX9_needLooker_15 rfl (lv_at hl 0 rfl) ?_
      refine G_X9_refused cx hV mk_2_145 dX9_needLooker_16 ?_
      refine lv_iconst (v := 1) hx hb dX9_needLooker_19 (by decide) ?_
      refine lv_iconst (v := 1) hx hb dX9_needLooker_20 (by decide) ?_
      refine bd_e h (fun σ2 hq h => ?_)
      refine k_X2_add (by decide) hq cx hV mk_3_182 ⟨Nat.le_of_ble_eq_true rfl, Nat.le_of_ble_eq_true rfl⟩ ⟨Nat.zero_le _, Nat.zero_le _⟩ hl.1 (Nat.le_of_ble_eq_true rfl) dX9_needLooker_21 (fun H locs hV => ?_)
      obtain ⟨h1, h2⟩ := Prod.mk.inj (Sum.inr.inj (Option.some.inj h))
      subst h1
      subst h2
      subst hQ
      exact r_new_looker cx hT hV hF hx0 hlk hl.1 ⟨Nat.le_of_ble_eq_true rfl, Nat.le_of_ble_eq_true rfl, Nat.le_of_ble_eq_true rfl, Nat.le_of_ble_eq_true rfl⟩ dX9_needLooker_24 dX9_needLooker_27 dX9_needLooker_28 dX9_needLooker_31 dX9_needLooker_34
    refine lv_iload_n hx hb dX9_needLooker_0 rfl (lv_at hl 1 rfl) ?_
    refine lv_if_lt (tgt := 15) hx hb dX9_needLooker_1 (by decide) (fun hc => ?_) (fun hc => ?_)
    · have h := ifp hc h
      exact hj15 σ _ _ _ h hV (lv_sub hl [0] rfl)
    · have h := ifn hc h
      refine lv_iload_n hx hb dX9_needLooker_4 rfl (lv_at hl 1 rfl) ?_
      refine lv_aload_n hx hb dX9_needLooker_5 rfl (lv_at hl 0 rfl) ?_
      refine G_X9_told cx hV mk_2_141 dX9_needLooker_6 ?_
      refine G_X7_lookers cx hV (by decide) mk_1_65 dX9_needLooker_9 ?_
      refine lv_icmp_lt (tgt := 35) hx hb dX9_needLooker_12 (by decide) (fun hc => ?_) (fun hc => ?_)
      · have h := ifp hc h
        exact (inlr h).elim
      · have h := ifn hc h
        exact hj15 σ _ _ _ h hV (lv_sub hl [0] rfl)
  rw [hH, hlocs] at goal
  exact goal
theorem k_X9_needLooker {p : Program} {l : Launch} {e : Env} {R : Room} {s : State} {m : MethodId} {a : Array Value} {below : List Frame} {meth : Method} {c : Code} {H : Heap} {locs : List Loc} {cells slots : Nat} {Q : State → Prop} {cc : ByteArray} {own : String} {nL pc : Nat} {ls : Array Slot} {rest : List Value} {A : Nat → Prop} {E : EV} {X : va_W} {σ : St} {p1 : Int32} {σf : St} (h : x_X9_needLooker p1 σ = some (.inl σf)) (cx : CallFix p m c cc nL s a TBL own) (hV : AtW E (wC E σ ++ X) A s H locs) (hF : FZ E A s s.heap) {idx : Nat} (w1 : Cond.methodLink own idx yX9_needLooker ∈ TBL) (hR : (rm_X9_needLooker).frames + 1 ≤ R.frames ∧ 8 + (2 + 11) + (rm_X9_needLooker).locals ≤ R.locals) (hcs : cells ≤ R.cells ∧ slots ≤ R.slots) (hls : ls.size = nL) (hcat : (rest.map fun v => v.category).sum ≤ 8) (d : decode cc pc = .ok (.invokevirtual idx, 3)) (kk : ∀ (H1 : Heap) (locs1 : List Loc), AtW E (wC E σf ++ X) A s H1 locs1 → W p l e R s m a below meth c H1 locs1 cells slots Q (F0 m (pc + 3) ls (rest))) : W p l e R s m a below meth c H locs cells slots Q (F0 m pc ls (.int p1 :: .ref (eA E 0) :: rest)) :=
  r_callFv (n := 1) (As := [.int p1]) (q0 := 0) (ci := 9) (qq := (RX9, TX9, 14)) (c_X9_needLooker h) wC_fst rfl rfl mk_5_32 mk_P_40 mk_1_1 mk_5_33 (by decide +kernel) rfl ⟨rfl, rfl⟩ cx hV hF w1 hR hcs hls rfl hcat d kk
theorem kx_X9_needLooker {p : Program} {l : Launch} {e : Env} {R : Room} {s : State} {m : MethodId} {a : Array Value} {below : List Frame} {meth : Method} {c : Code} {H : Heap} {locs : List Loc} {cc : ByteArray} {own : String} {nL pc : Nat} {ls : Array Slot} {rest : List Value} {A : Nat → Prop} {E : EV} {X : va_W} {σ : St} {p1 : Int32} (hT : l.stackTraces = false) {nx : Nat} {σf : St} (h : x_X9_needLooker p1 σ = some (.inr (nx, σf))) (cx : CallFix p m c cc nL s a TBL own) (hV : AtW E (wC E σ ++ X) A s H locs) (hF : FZ E A s s.heap) (hx0 : ∀ x ∈ c.exceptionTable.toList, False) (hlk : meth.locks = false) {idx : Nat} (w1 : Cond.methodLink own idx yX9_needLooker ∈ TBL) (hR : (rmx_X9_needLooker).frames + 1 ≤ R.frames ∧ 8 + (2 + 11) + (rmx_X9_needLooker).locals ≤ R.locals) (hcs : 1 ≤ R.cells ∧ 6 ≤ R.slots) (hls : ls.size = nL) (hcat : (rest.map fun v => v.category).sum ≤ 8) (d : decode cc pc = .ok (.invokevirtual idx, 3)) : W p l e R s m a below meth c H locs 0 0 (EX E (wC E σf ++ X) (exN nx) A s a below) (F0 m pc ls (.int p1 :: .ref (eA E 0) :: rest)) :=
  r_callx (n := 1) (As := [.int p1]) (q0 := 0) (ci := 9) (qq := (RX9, TX9, 14)) (t_X9_needLooker hT h) rfl rfl mk_5_32 mk_P_40 mk_1_1 mk_5_33 (by decide +kernel) rfl ⟨rfl, rfl⟩ cx hV hF hx0 hlk w1 hR hcs hls rfl hcat d
def x_X9_looker_b21 (w1 : Int32) (w2 : Int32) (w3 : Int32) (σ4 : St) : Option ((Int32 × St) ⊕ (Nat × St)) :=
  bt (x_X9_need w3 σ4) fun σ5 =>
  bd (x_X7_ofLooker 0 w1 w2 σ5) fun v6 =>
  some (.inl (v6, σ5))
def x_X9_looker_b20 (w7 : Int32) (w8 : Int32) (σ9 : St) : Option ((Int32 × St) ⊕ (Nat × St)) :=
  x_X9_looker_b21 w7 w8 0 σ9
def x_X9_looker (p1 : Int32) (p2 : Int32) (σ : St) : Option ((Int32 × St) ⊕ (Nat × St)) :=
  bt (x_X9_needLooker p1 σ) fun σ10 =>
  (if p2 < 0 then
  x_X9_looker_b20 p1 p2 σ10
  else
  (if 6 ≤ p2 then
  x_X9_looker_b20 p1 p2 σ10
  else
  x_X9_looker_b21 p1 p2 1 σ10))
abbrev rm_X9_looker : Room := { frames := 3, cells := 0, slots := 0, locals := 65 }
abbrev rmx_X9_looker : Room := { frames := 7, cells := 1, slots := 6, locals := 103 }
set_option maxHeartbeats 4000000 in
set_option maxRecDepth 100000 in
theorem c_X9_looker {l : Launch} {E : EV} {X : va_W} {σ : St} {p1 : Int32} {p2 : Int32} {rv : Int32} {σf : St} (h : x_X9_looker p1 p2 σ = some (.inl (rv, σf))) : CMF l yX9_looker cX9_looker 3 (some .int) rm_X9_looker [.ref (eA E 0), .int p1, .int p2] E (wC E σ ++ X) (wC E σf ++ X) (qI rv) := by
  refine CMF.start (by decide) (Nat.le_of_ble_eq_true rfl) (fun p e s m a below meth c A ls cx hr hlk hV hF hl => ?_)
  have cx : CallFix p m c cX9_looker 3 s a TBL RX9 := cx
  have hx := cx.1
  have hb := cx.2.1
  have hl : lv_has ls 3 [(0, .ref (eA E 0)), (1, .int p1), (2, .int p2)] := hl
  generalize hQ : EQ E (wC E σf ++ X) (qI rv) A s a below = QQ
  obtain ⟨H, hH⟩ : ∃ H, H = s.heap := ⟨_, rfl⟩
  obtain ⟨locs, hlocs⟩ : ∃ z, z = ([] : List Loc) := ⟨_, rfl⟩
  have hV : AtW E (wC E σ ++ X) A s H locs := by rw [hH, hlocs]; exact hV
  have goal : W p l e rm_X9_looker s m a below meth c H locs 0 0 QQ (F0 m 0 ls []) := by
    unfold x_X9_looker at h
    have hj21 : ∀ (w1 : Int32) (w2 : Int32) (w3 : Int32) (σ4 : St) (H : Heap) (locs : List Loc) (ls : Array Slot), x_X9_looker_b21 w1 w2 w3 σ4 = some (.inl (rv, σf)) → AtW E (wC E σ4 ++ X) A s H locs → lv_has ls 3 [(0, .ref (eA E 0)), (1, .int w1), (2, .int w2)] → W p l e rm_X9_looker s m a below meth c H locs 0 0 QQ (F0 m 21 ls [.int w3, .ref (eA E 0)]) := by
      intro w1 w2 w3 σ4 H locs ls h hV hl
      unfold x_X9_looker_b21 at h
      refine bt_e h (fun σ5 hq h => ?_) (fun q hq h => ?_)
      rotate_left
      · exact (inrl' h).elim
      refine k_X9_need hq cx hV hF mk_3_178 ⟨Nat.le_of_ble_eq_true rfl, Nat.le_of_ble_eq_true rfl⟩ ⟨Nat.zero_le _, Nat.zero_le _⟩ hl.1 (Nat.le_of_ble_eq_true rfl) dX9_looker_21 (fun H locs hV => ?_)
      refine lv_aload_n hx hb dX9_looker_24 rfl (lv_at hl 0 rfl) ?_
      refine G_X9_told cx hV mk_2_141 dX9_looker_25 ?_
      refine lv_iload_n hx hb dX9_looker_28 rfl (lv_at hl 1 rfl) ?_
      refine lv_iload_n hx hb dX9_looker_29 rfl (lv_at hl 2 rfl) ?_
      refine bd_e h (fun v6 hq h => ?_)
      refine k_X7_ofLooker (by decide) hq cx hV mk_5_35 ⟨Nat.le_of_ble_eq_true rfl, Nat.le_of_ble_eq_true rfl⟩ ⟨Nat.zero_le _, Nat.zero_le _⟩ hl.1 (Nat.le_of_ble_eq_true rfl) dX9_looker_30 (fun H locs hV => ?_)
      have h := congrArg some (Sum.inl.inj (Option.some.inj h))
      obtain ⟨h1, h2⟩ := Prod.mk.inj (Option.some.inj h)
      subst h1
      subst h2
      subst hQ
      exact r_ireti cx hr hlk hV dX9_looker_33
    have hj20 : ∀ (w7 : Int32) (w8 : Int32) (σ9 : St) (H : Heap) (locs : List Loc) (ls : Array Slot), x_X9_looker_b20 w7 w8 σ9 = some (.inl (rv, σf)) → AtW E (wC E σ9 ++ X) A s H locs → lv_has ls 3 [(0, .ref (eA E 0)), (1, .int w7), (2, .int w8)] → W p l e rm_X9_looker s m a below meth c H locs 0 0 QQ (F0 m 20 ls [.ref (eA E 0)]) := by
      intro w7 w8 σ9 H locs ls h hV hl
      unfold x_X9_looker_b20 at h
      refine lv_iconst (v := 0) hx hb dX9_looker_20 (by decide) ?_
      exact hj21 w7 w8 0 σ9 _ _ _ h hV (lv_sub hl [0, 1, 2] rfl)
    refine lv_aload_n hx hb dX9_looker_0 rfl (lv_at hl 0 rfl) ?_
    refine lv_iload_n hx hb dX9_looker_1 rfl (lv_at hl 1 rfl) ?_
    refine bt_e h (fun σ10 hq h => ?_) (fun q hq h => ?_)
    rotate_left
    · exact (inrl' h).elim
    refine k_X9_needLooker hq cx hV hF mk_5_30 ⟨Nat.le_of_ble_eq_true rfl, Nat.le_of_ble_eq_true rfl⟩ ⟨Nat.zero_le _, Nat.zero_le _⟩ hl.1 (Nat.le_of_ble_eq_true rfl) dX9_looker_2 (fun H locs hV => ?_)
    refine lv_aload_n hx hb dX9_looker_5 rfl (lv_at hl 0 rfl) ?_
    refine lv_iload_n hx hb dX9_looker_6 rfl (lv_at hl 2 rfl) ?_
    refine lv_if_lt (tgt := 20) hx hb dX9_looker_7 (by decide) (fun hc => ?_) (fun hc => ?_)
    · have h := ifp hc h
      exact hj20 p1 p2 σ10 _ _ _ h hV (lv_sub hl [0, 1, 2] rfl)
    · have h := ifn hc h
      refine lv_iload_n hx hb dX9_looker_10 rfl (lv_at hl 2 rfl) ?_
      refine lv_bipush (v := 6) hx hb dX9_looker_11 (by decide) ?_
      refine lv_icmp_ge (tgt := 20) hx hb dX9_looker_13 (by decide) (fun hc => ?_) (fun hc => ?_)
      · have h := ifp hc h
        exact hj20 p1 p2 σ10 _ _ _ h hV (lv_sub hl [0, 1, 2] rfl)
      · have h := ifn hc h
        refine lv_iconst (v := 1) hx hb dX9_looker_16 (by decide) ?_
        refine lv_goto (tgt := 21) hx hb dX9_looker_17 (by decide) ?_
        exact hj21 p1 p2 1 σ10 _ _ _ h hV (lv_sub hl [0, 1, 2] rfl)
  rw [hH, hlocs] at goal
  exact goal
set_option maxHeartbeats 4000000 in
set_option maxRecDepth 100000 in
theorem t_X9_looker {l : Launch} (hT : l.stackTraces = false) {E : EV} {X : va_W} {σ : St} {p1 : Int32} {p2 : Int32} {nx : Nat} {σf : St} (h : x_X9_looker p1 p2 σ = some (.inr (nx, σf))) : CXF l yX9_looker cX9_looker 3 (some .int) rmx_X9_looker [.ref (eA E 0), .int p1, .int p2] E (wC E σ ++ X) (wC E σf ++ X) (exN nx) := by
  refine CXF.start (by decide) (Nat.le_of_ble_eq_true rfl) (fun p e s m a below meth c A ls cx hx0 hlk hV hF hl => ?_)
  have cx : CallFix p m c cX9_looker 3 s a TBL RX9 := cx
  have hx := cx.1
  have hb := cx.2.1
  have hl : lv_has ls 3 [(0, .ref (eA E 0)), (1, .int p1), (2, .int p2)] := hl
  generalize hQ : EX E (wC E σf ++ X) (exN nx) A s a below = QQ
  obtain ⟨H, hH⟩ : ∃ H, H = s.heap := ⟨_, rfl⟩
  obtain ⟨locs, hlocs⟩ : ∃ z, z = ([] : List Loc) := ⟨_, rfl⟩
  have hV : AtW E (wC E σ ++ X) A s H locs := by rw [hH, hlocs]; exact hV
  have goal : W p l e rmx_X9_looker s m a below meth c H locs 0 0 QQ (F0 m 0 ls []) := by
    unfold x_X9_looker at h
    have hj21 : ∀ (w1 : Int32) (w2 : Int32) (w3 : Int32) (σ4 : St) (H : Heap) (locs : List Loc) (ls : Array Slot), x_X9_looker_b21 w1 w2 w3 σ4 = some (.inr (nx, σf)) → AtW E (wC E σ4 ++ X) A s H locs → lv_has ls 3 [(0, .ref (eA E 0)), (1, .int w1), (2, .int w2)] → W p l e rmx_X9_looker s m a below meth c H locs 0 0 QQ (F0 m 21 ls [.int w3, .ref (eA E 0)]) := by
      intro w1 w2 w3 σ4 H locs ls h hV hl
      unfold x_X9_looker_b21 at h
      refine bt_e h (fun σ5 hq h => ?_) (fun q hq h => ?_)
      rotate_left
      · have h := Sum.inr.inj h
        subst h
        subst hQ
        exact kx_X9_need hT hq cx hV hF hx0 hlk mk_3_178 ⟨Nat.le_of_ble_eq_true rfl, Nat.le_of_ble_eq_true rfl⟩ ⟨Nat.le_of_ble_eq_true rfl, Nat.le_of_ble_eq_true rfl⟩ hl.1 (Nat.le_of_ble_eq_true rfl) dX9_looker_21
      refine k_X9_need hq cx hV hF mk_3_178 ⟨Nat.le_of_ble_eq_true rfl, Nat.le_of_ble_eq_true rfl⟩ ⟨Nat.zero_le _, Nat.zero_le _⟩ hl.1 (Nat.le_of_ble_eq_true rfl) dX9_looker_21 (fun H locs hV => ?_)
      refine lv_aload_n hx hb dX9_looker_24 rfl (lv_at hl 0 rfl) ?_
      refine G_X9_told cx hV mk_2_141 dX9_looker_25 ?_
      refine lv_iload_n hx hb dX9_looker_28 rfl (lv_at hl 1 rfl) ?_
      refine lv_iload_n hx hb dX9_looker_29 rfl (lv_at hl 2 rfl) ?_
      refine bd_e h (fun v6 hq h => ?_)
      refine k_X7_ofLooker (by decide) hq cx hV mk_5_35 ⟨Nat.le_of_ble_eq_true rfl, Nat.le_of_ble_eq_true rfl⟩ ⟨Nat.zero_le _, Nat.zero_le _⟩ hl.1 (Nat.le_of_ble_eq_true rfl) dX9_looker_30 (fun H locs hV => ?_)
      exact (inlr h).elim
    have hj20 : ∀ (w7 : Int32) (w8 : Int32) (σ9 : St) (H : Heap) (locs : List Loc) (ls : Array Slot), x_X9_looker_b20 w7 w8 σ9 = some (.inr (nx, σf)) → AtW E (wC E σ9 ++ X) A s H locs → lv_has ls 3 [(0, .ref (eA E 0)), (1, .int w7), (2, .int w8)] → W p l e rmx_X9_looker s m a below meth c H locs 0 0 QQ (F0 m 20 ls [.ref (eA E 0)]) := by
      intro w7 w8 σ9 H locs ls h hV hl
      unfold x_X9_looker_b20 at h
      refine lv_iconst (v := 0) hx hb dX9_looker_20 (by decide) ?_
      exact hj21 w7 w8 0 σ9 _ _ _ h hV (lv_sub hl [0, 1, 2] rfl)
    refine lv_aload_n hx hb dX9_looker_0 rfl (lv_at hl 0 rfl) ?_
    refine lv_iload_n hx hb dX9_looker_1 rfl (lv_at hl 1 rfl) ?_
    refine bt_e h (fun σ10 hq h => ?_) (fun q hq h => ?_)
    rotate_left
    · have h := Sum.inr.inj h
      subst h
      subst hQ
      exact kx_X9_needLooker hT hq cx hV hF hx0 hlk mk_5_30 ⟨Nat.le_of_ble_eq_true rfl, Nat.le_of_ble_eq_true rfl⟩ ⟨Nat.le_of_ble_eq_true rfl, Nat.le_of_ble_eq_true rfl⟩ hl.1 (Nat.le_of_ble_eq_true rfl) dX9_looker_2
    refine k_X9_needLooker hq cx hV hF mk_5_30 ⟨Nat.le_of_ble_eq_true rfl, Nat.le_of_ble_eq_true rfl⟩ ⟨Nat.zero_le _, Nat.zero_le _⟩ hl.1 (Nat.le_of_ble_eq_true rfl) dX9_looker_2 (fun H locs hV => ?_)
    refine lv_aload_n hx hb dX9_looker_5 rfl (lv_at hl 0 rfl) ?_
    refine lv_iload_n hx hb dX9_looker_6 rfl (lv_at hl 2 rfl) ?_
    refine lv_if_lt (tgt := 20) hx hb dX9_looker_7 (by decide) (fun hc => ?_) (fun hc => ?_)
    · have h := ifp hc h
      exact hj20 p1 p2 σ10 _ _ _ h hV (lv_sub hl [0, 1, 2] rfl)
    · have h := ifn hc h
      refine lv_iload_n hx hb dX9_looker_10 rfl (lv_at hl 2 rfl) ?_
      refine lv_bipush (v := 6) hx hb dX9_looker_11 (by decide) ?_
      refine lv_icmp_ge (tgt := 20) hx hb dX9_looker_13 (by decide) (fun hc => ?_) (fun hc => ?_)
      · have h := ifp hc h
        exact hj20 p1 p2 σ10 _ _ _ h hV (lv_sub hl [0, 1, 2] rfl)
      · have h := ifn hc h
        refine lv_iconst (v := 1) hx hb dX9_looker_16 (by decide) ?_
        refine lv_goto (tgt := 21) hx hb dX9_looker_17 (by decide) ?_
        exact hj21 p1 p2 1 σ10 _ _ _ h hV (lv_sub hl [0, 1, 2] rfl)
  rw [hH, hlocs] at goal
  exact goal
theorem k_X9_looker {p : Program} {l : Launch} {e : Env} {R : Room} {s : State} {m : MethodId} {a : Array Value} {below : List Frame} {meth : Method} {c : Code} {H : Heap} {locs : List Loc} {cells slots : Nat} {Q : State → Prop} {cc : ByteArray} {own : String} {nL pc : Nat} {ls : Array Slot} {rest : List Value} {A : Nat → Prop} {E : EV} {X : va_W} {σ : St} {p1 : Int32} {p2 : Int32} {rv : Int32} {σf : St} (h : x_X9_looker p1 p2 σ = some (.inl (rv, σf))) (cx : CallFix p m c cc nL s a TBL own) (hV : AtW E (wC E σ ++ X) A s H locs) (hF : FZ E A s s.heap) {idx : Nat} (w1 : Cond.methodLink own idx yX9_looker ∈ TBL) (hR : (rm_X9_looker).frames + 1 ≤ R.frames ∧ 8 + (3 + 11) + (rm_X9_looker).locals ≤ R.locals) (hcs : cells ≤ R.cells ∧ slots ≤ R.slots) (hls : ls.size = nL) (hcat : (rest.map fun v => v.category).sum ≤ 8) (d : decode cc pc = .ok (.invokevirtual idx, 3)) (kk : ∀ (H1 : Heap) (locs1 : List Loc), AtW E (wC E σf ++ X) A s H1 locs1 → W p l e R s m a below meth c H1 locs1 cells slots Q (F0 m (pc + 3) ls (.int rv :: rest))) : W p l e R s m a below meth c H locs cells slots Q (F0 m pc ls (.int p2 :: .int p1 :: .ref (eA E 0) :: rest)) :=
  r_callFi (n := 2) (As := [.int p1, .int p2]) (q0 := 0) (ci := 9) (qq := (RX9, TX9, 14)) (c_X9_looker h) wC_fst rfl rfl mk_5_27 mk_5_28 mk_1_1 mk_5_29 (by decide +kernel) rfl ⟨rfl, rfl⟩ cx hV hF w1 hR hcs hls rfl hcat d kk
theorem kx_X9_looker {p : Program} {l : Launch} {e : Env} {R : Room} {s : State} {m : MethodId} {a : Array Value} {below : List Frame} {meth : Method} {c : Code} {H : Heap} {locs : List Loc} {cc : ByteArray} {own : String} {nL pc : Nat} {ls : Array Slot} {rest : List Value} {A : Nat → Prop} {E : EV} {X : va_W} {σ : St} {p1 : Int32} {p2 : Int32} (hT : l.stackTraces = false) {nx : Nat} {σf : St} (h : x_X9_looker p1 p2 σ = some (.inr (nx, σf))) (cx : CallFix p m c cc nL s a TBL own) (hV : AtW E (wC E σ ++ X) A s H locs) (hF : FZ E A s s.heap) (hx0 : ∀ x ∈ c.exceptionTable.toList, False) (hlk : meth.locks = false) {idx : Nat} (w1 : Cond.methodLink own idx yX9_looker ∈ TBL) (hR : (rmx_X9_looker).frames + 1 ≤ R.frames ∧ 8 + (3 + 11) + (rmx_X9_looker).locals ≤ R.locals) (hcs : 1 ≤ R.cells ∧ 6 ≤ R.slots) (hls : ls.size = nL) (hcat : (rest.map fun v => v.category).sum ≤ 8) (d : decode cc pc = .ok (.invokevirtual idx, 3)) : W p l e R s m a below meth c H locs 0 0 (EX E (wC E σf ++ X) (exN nx) A s a below) (F0 m pc ls (.int p2 :: .int p1 :: .ref (eA E 0) :: rest)) :=
  r_callx (n := 2) (As := [.int p1, .int p2]) (q0 := 0) (ci := 9) (qq := (RX9, TX9, 14)) (t_X9_looker hT h) rfl rfl mk_5_27 mk_5_28 mk_1_1 mk_5_29 (by decide +kernel) rfl ⟨rfl, rfl⟩ cx hV hF hx0 hlk w1 hR hcs hls rfl hcat d
def x_X9_missed (p1 : Int32) (σ : St) : Option ((Int32 × St) ⊕ (Nat × St)) :=
  bd (x_X9_isPace p1) fun v1 =>
  bt (x_X9_need v1 σ) fun σ2 =>
  bd (x_X2_at 6 p1 σ2) fun v3 =>
  some (.inl (v3, σ2))
abbrev rm_X9_missed : Room := { frames := 3, cells := 0, slots := 0, locals := 65 }
abbrev rmx_X9_missed : Room := { frames := 7, cells := 1, slots := 6, locals := 103 }
set_option maxHeartbeats 4000000 in
set_option maxRecDepth 100000 in
theorem c_X9_missed {l : Launch} {E : EV} {X : va_W} {σ : St} {p1 : Int32} {rv : Int32} {σf : St} (h : x_X9_missed p1 σ = some (.inl (rv, σf))) : CMF l yX9_missed cX9_missed 2 (some .int) rm_X9_missed [.ref (eA E 0), .int p1] E (wC E σ ++ X) (wC E σf ++ X) (qI rv) := by
  refine CMF.start (by decide) (Nat.le_of_ble_eq_true rfl) (fun p e s m a below meth c A ls cx hr hlk hV hF hl => ?_)
  have cx : CallFix p m c cX9_missed 2 s a TBL RX9 := cx
  have hx := cx.1
  have hb := cx.2.1
  have hl : lv_has ls 2 [(0, .ref (eA E 0)), (1, .int p1)] := hl
  generalize hQ : EQ E (wC E σf ++ X) (qI rv) A s a below = QQ
  obtain ⟨H, hH⟩ : ∃ H, H = s.heap := ⟨_, rfl⟩
  obtain ⟨locs, hlocs⟩ : ∃ z, z = ([] : List Loc) := ⟨_, rfl⟩
  have hV : AtW E (wC E σ ++ X) A s H locs := by rw [hH, hlocs]; exact hV
  have goal : W p l e rm_X9_missed s m a below meth c H locs 0 0 QQ (F0 m 0 ls []) := by
    unfold x_X9_missed at h
    refine lv_aload_n hx hb dX9_missed_0 rfl (lv_at hl 0 rfl) ?_
    refine lv_iload_n hx hb dX9_missed_1 rfl (lv_at hl 1 rfl) ?_
    refine bd_e h (fun v1 hq h => ?_)
    refine k_X9_isPace hq cx hV mk_5_43 ⟨Nat.le_of_ble_eq_true rfl, Nat.le_of_ble_eq_true rfl⟩ ⟨Nat.zero_le _, Nat.zero_le _⟩ hl.1 (Nat.le_of_ble_eq_true rfl) dX9_missed_2 (fun H locs hV => ?_)
    refine bt_e h (fun σ2 hq h => ?_) (fun q hq h => ?_)
    rotate_left
    · exact (inrl' h).elim
    refine k_X9_need hq cx hV hF mk_3_178 ⟨Nat.le_of_ble_eq_true rfl, Nat.le_of_ble_eq_true rfl⟩ ⟨Nat.zero_le _, Nat.zero_le _⟩ hl.1 (Nat.le_of_ble_eq_true rfl) dX9_missed_5 (fun H locs hV => ?_)
    refine lv_aload_n hx hb dX9_missed_8 rfl (lv_at hl 0 rfl) ?_
    refine G_X9_told cx hV mk_2_141 dX9_missed_9 ?_
    refine G_X7_misses cx hV (by decide) mk_1_82 dX9_missed_12 ?_
    refine lv_iload_n hx hb dX9_missed_15 rfl (lv_at hl 1 rfl) ?_
    refine bd_e h (fun v3 hq h => ?_)
    refine k_X2_at (by decide) hq cx hV mk_3_93 ⟨Nat.le_of_ble_eq_true rfl, Nat.le_of_ble_eq_true rfl⟩ ⟨Nat.zero_le _, Nat.zero_le _⟩ hl.1 (Nat.le_of_ble_eq_true rfl) dX9_missed_16 (fun H locs hV => ?_)
    have h := congrArg some (Sum.inl.inj (Option.some.inj h))
    obtain ⟨h1, h2⟩ := Prod.mk.inj (Option.some.inj h)
    subst h1
    subst h2
    subst hQ
    exact r_ireti cx hr hlk hV dX9_missed_19
  rw [hH, hlocs] at goal
  exact goal
set_option maxHeartbeats 4000000 in
set_option maxRecDepth 100000 in
theorem t_X9_missed {l : Launch} (hT : l.stackTraces = false) {E : EV} {X : va_W} {σ : St} {p1 : Int32} {nx : Nat} {σf : St} (h : x_X9_missed p1 σ = some (.inr (nx, σf))) : CXF l yX9_missed cX9_missed 2 (some .int) rmx_X9_missed [.ref (eA E 0), .int p1] E (wC E σ ++ X) (wC E σf ++ X) (exN nx) := by
  refine CXF.start (by decide) (Nat.le_of_ble_eq_true rfl) (fun p e s m a below meth c A ls cx hx0 hlk hV hF hl => ?_)
  have cx : CallFix p m c cX9_missed 2 s a TBL RX9 := cx
  have hx := cx.1
  have hb := cx.2.1
  have hl : lv_has ls 2 [(0, .ref (eA E 0)), (1, .int p1)] := hl
  generalize hQ : EX E (wC E σf ++ X) (exN nx) A s a below = QQ
  obtain ⟨H, hH⟩ : ∃ H, H = s.heap := ⟨_, rfl⟩
  obtain ⟨locs, hlocs⟩ : ∃ z, z = ([] : List Loc) := ⟨_, rfl⟩
  have hV : AtW E (wC E σ ++ X) A s H locs := by rw [hH, hlocs]; exact hV
  have goal : W p l e rmx_X9_missed s m a below meth c H locs 0 0 QQ (F0 m 0 ls []) := by
    unfold x_X9_missed at h
    refine lv_aload_n hx hb dX9_missed_0 rfl (lv_at hl 0 rfl) ?_
    refine lv_iload_n hx hb dX9_missed_1 rfl (lv_at hl 1 rfl) ?_
    refine bd_e h (fun v1 hq h => ?_)
    refine k_X9_isPace hq cx hV mk_5_43 ⟨Nat.le_of_ble_eq_true rfl, Nat.le_of_ble_eq_true rfl⟩ ⟨Nat.zero_le _, Nat.zero_le _⟩ hl.1 (Nat.le_of_ble_eq_true rfl) dX9_missed_2 (fun H locs hV => ?_)
    refine bt_e h (fun σ2 hq h => ?_) (fun q hq h => ?_)
    rotate_left
    · have h := Sum.inr.inj h
      subst h
      subst hQ
      exact kx_X9_need hT hq cx hV hF hx0 hlk mk_3_178 ⟨Nat.le_of_ble_eq_true rfl, Nat.le_of_ble_eq_true rfl⟩ ⟨Nat.le_of_ble_eq_true rfl, Nat.le_of_ble_eq_true rfl⟩ hl.1 (Nat.le_of_ble_eq_true rfl) dX9_missed_5
    refine k_X9_need hq cx hV hF mk_3_178 ⟨Nat.le_of_ble_eq_true rfl, Nat.le_of_ble_eq_true rfl⟩ ⟨Nat.zero_le _, Nat.zero_le _⟩ hl.1 (Nat.le_of_ble_eq_true rfl) dX9_missed_5 (fun H locs hV => ?_)
    refine lv_aload_n hx hb dX9_missed_8 rfl (lv_at hl 0 rfl) ?_
    refine G_X9_told cx hV mk_2_141 dX9_missed_9 ?_
    refine G_X7_misses cx hV (by decide) mk_1_82 dX9_missed_12 ?_
    refine lv_iload_n hx hb dX9_missed_15 rfl (lv_at hl 1 rfl) ?_
    refine bd_e h (fun v3 hq h => ?_)
    refine k_X2_at (by decide) hq cx hV mk_3_93 ⟨Nat.le_of_ble_eq_true rfl, Nat.le_of_ble_eq_true rfl⟩ ⟨Nat.zero_le _, Nat.zero_le _⟩ hl.1 (Nat.le_of_ble_eq_true rfl) dX9_missed_16 (fun H locs hV => ?_)
    exact (inlr h).elim
  rw [hH, hlocs] at goal
  exact goal
theorem k_X9_missed {p : Program} {l : Launch} {e : Env} {R : Room} {s : State} {m : MethodId} {a : Array Value} {below : List Frame} {meth : Method} {c : Code} {H : Heap} {locs : List Loc} {cells slots : Nat} {Q : State → Prop} {cc : ByteArray} {own : String} {nL pc : Nat} {ls : Array Slot} {rest : List Value} {A : Nat → Prop} {E : EV} {X : va_W} {σ : St} {p1 : Int32} {rv : Int32} {σf : St} (h : x_X9_missed p1 σ = some (.inl (rv, σf))) (cx : CallFix p m c cc nL s a TBL own) (hV : AtW E (wC E σ ++ X) A s H locs) (hF : FZ E A s s.heap) {idx : Nat} (w1 : Cond.methodLink own idx yX9_missed ∈ TBL) (hR : (rm_X9_missed).frames + 1 ≤ R.frames ∧ 8 + (2 + 11) + (rm_X9_missed).locals ≤ R.locals) (hcs : cells ≤ R.cells ∧ slots ≤ R.slots) (hls : ls.size = nL) (hcat : (rest.map fun v => v.category).sum ≤ 8) (d : decode cc pc = .ok (.invokevirtual idx, 3)) (kk : ∀ (H1 : Heap) (locs1 : List Loc), AtW E (wC E σf ++ X) A s H1 locs1 → W p l e R s m a below meth c H1 locs1 cells slots Q (F0 m (pc + 3) ls (.int rv :: rest))) : W p l e R s m a below meth c H locs cells slots Q (F0 m pc ls (.int p1 :: .ref (eA E 0) :: rest)) :=
  r_callFi (n := 1) (As := [.int p1]) (q0 := 0) (ci := 9) (qq := (RX9, TX9, 14)) (c_X9_missed h) wC_fst rfl rfl mk_5_40 mk_5_41 mk_1_1 mk_5_42 (by decide +kernel) rfl ⟨rfl, rfl⟩ cx hV hF w1 hR hcs hls rfl hcat d kk
theorem kx_X9_missed {p : Program} {l : Launch} {e : Env} {R : Room} {s : State} {m : MethodId} {a : Array Value} {below : List Frame} {meth : Method} {c : Code} {H : Heap} {locs : List Loc} {cc : ByteArray} {own : String} {nL pc : Nat} {ls : Array Slot} {rest : List Value} {A : Nat → Prop} {E : EV} {X : va_W} {σ : St} {p1 : Int32} (hT : l.stackTraces = false) {nx : Nat} {σf : St} (h : x_X9_missed p1 σ = some (.inr (nx, σf))) (cx : CallFix p m c cc nL s a TBL own) (hV : AtW E (wC E σ ++ X) A s H locs) (hF : FZ E A s s.heap) (hx0 : ∀ x ∈ c.exceptionTable.toList, False) (hlk : meth.locks = false) {idx : Nat} (w1 : Cond.methodLink own idx yX9_missed ∈ TBL) (hR : (rmx_X9_missed).frames + 1 ≤ R.frames ∧ 8 + (2 + 11) + (rmx_X9_missed).locals ≤ R.locals) (hcs : 1 ≤ R.cells ∧ 6 ≤ R.slots) (hls : ls.size = nL) (hcat : (rest.map fun v => v.category).sum ≤ 8) (d : decode cc pc = .ok (.invokevirtual idx, 3)) : W p l e R s m a below meth c H locs 0 0 (EX E (wC E σf ++ X) (exN nx) A s a below) (F0 m pc ls (.int p1 :: .ref (eA E 0) :: rest)) :=
  r_callx (n := 1) (As := [.int p1]) (q0 := 0) (ci := 9) (qq := (RX9, TX9, 14)) (t_X9_missed hT h) rfl rfl mk_5_40 mk_5_41 mk_1_1 mk_5_42 (by decide +kernel) rfl ⟨rfl, rfl⟩ cx hV hF hx0 hlk w1 hR hcs hls rfl hcat d
def x_X9_needLying (p1 : Int32) (σ : St) : Option (St ⊕ (Nat × St)) :=
  bd (x_X5_lies 0 p1 σ) fun v1 =>
  (if v1 = 0 then
  bd (x_X2_add 35 3 1 σ) fun σ2 =>
  some (.inr (4, σ2))
  else
  some (.inl σ))
abbrev rm_X9_needLying : Room := { frames := 2, cells := 0, slots := 0, locals := 44 }
abbrev rmx_X9_needLying : Room := { frames := 6, cells := 1, slots := 6, locals := 82 }
set_option maxHeartbeats 4000000 in
set_option maxRecDepth 100000 in
theorem c_X9_needLying {l : Launch} {E : EV} {X : va_W} {σ : St} {p1 : Int32} {σf : St} (h : x_X9_needLying p1 σ = some (.inl σf)) : CMF l yX9_needLying cX9_needLying 2 none rm_X9_needLying [.ref (eA E 0), .int p1] E (wC E σ ++ X) (wC E σf ++ X) qV := by
  refine CMF.start (by decide) (Nat.le_of_ble_eq_true rfl) (fun p e s m a below meth c A ls cx hr hlk hV hF hl => ?_)
  have cx : CallFix p m c cX9_needLying 2 s a TBL RX9 := cx
  have hx := cx.1
  have hb := cx.2.1
  have hl : lv_has ls 2 [(0, .ref (eA E 0)), (1, .int p1)] := hl
  generalize hQ : EQ E (wC E σf ++ X) qV A s a below = QQ
  obtain ⟨H, hH⟩ : ∃ H, H = s.heap := ⟨_, rfl⟩
  obtain ⟨locs, hlocs⟩ : ∃ z, z = ([] : List Loc) := ⟨_, rfl⟩
  have hV : AtW E (wC E σ ++ X) A s H locs := by rw [hH, hlocs]; exact hV
  have goal : W p l e rm_X9_needLying s m a below meth c H locs 0 0 QQ (F0 m 0 ls []) := by
    unfold x_X9_needLying at h
    refine lv_aload_n hx hb dX9_needLying_0 rfl (lv_at hl 0 rfl) ?_
    refine G_X9_stock cx hV mk_2_142 dX9_needLying_1 ?_
    refine lv_iload_n hx hb dX9_needLying_4 rfl (lv_at hl 1 rfl) ?_
    refine bd_e h (fun v1 hq h => ?_)
    refine k_X5_lies (by decide) hq cx hV mk_5_21 ⟨Nat.le_of_ble_eq_true rfl, Nat.le_of_ble_eq_true rfl⟩ ⟨Nat.zero_le _, Nat.zero_le _⟩ hl.1 (Nat.le_of_ble_eq_true rfl) dX9_needLying_5 (fun H locs hV => ?_)
    refine lv_if_ne (tgt := 31) hx hb dX9_needLying_8 (by decide) (fun hc => ?_) (fun hc => ?_)
    · have h := ifn hc h
      have h := congrArg some (Sum.inl.inj (Option.some.inj h))
      have h1 := Option.some.inj h
      subst h1
      subst hQ
      exact r_vret cx hr hlk hV dX9_needLying_31
    · have h := ifp hc h
      refine lv_aload_n hx hb dX9_needLying_11 rfl (lv_at hl 0 rfl) ?_
      refine G_X9_refused cx hV mk_2_145 dX9_needLying_12 ?_
      refine lv_iconst (v := 3) hx hb dX9_needLying_15 (by decide) ?_
      refine lv_iconst (v := 1) hx hb dX9_needLying_16 (by decide) ?_
      refine bd_e h (fun σ2 hq h => ?_)
      refine k_X2_add (by decide) hq cx hV mk_3_182 ⟨Nat.le_of_ble_eq_true rfl, Nat.le_of_ble_eq_true rfl⟩ ⟨Nat.zero_le _, Nat.zero_le _⟩ hl.1 (Nat.le_of_ble_eq_true rfl) dX9_needLying_17 (fun H locs hV => ?_)
      exact (inrl h).elim
  rw [hH, hlocs] at goal
  exact goal
set_option maxHeartbeats 4000000 in
set_option maxRecDepth 100000 in
theorem t_X9_needLying {l : Launch} (hT : l.stackTraces = false) {E : EV} {X : va_W} {σ : St} {p1 : Int32} {nx : Nat} {σf : St} (h : x_X9_needLying p1 σ = some (.inr (nx, σf))) : CXF l yX9_needLying cX9_needLying 2 none rmx_X9_needLying [.ref (eA E 0), .int p1] E (wC E σ ++ X) (wC E σf ++ X) (exN nx) := by
  refine CXF.start (by decide) (Nat.le_of_ble_eq_true rfl) (fun p e s m a below meth c A ls cx hx0 hlk hV hF hl => ?_)
  have cx : CallFix p m c cX9_needLying 2 s a TBL RX9 := cx
  have hx := cx.1
  have hb := cx.2.1
  have hl : lv_has ls 2 [(0, .ref (eA E 0)), (1, .int p1)] := hl
  generalize hQ : EX E (wC E σf ++ X) (exN nx) A s a below = QQ
  obtain ⟨H, hH⟩ : ∃ H, H = s.heap := ⟨_, rfl⟩
  obtain ⟨locs, hlocs⟩ : ∃ z, z = ([] : List Loc) := ⟨_, rfl⟩
  have hV : AtW E (wC E σ ++ X) A s H locs := by rw [hH, hlocs]; exact hV
  have goal : W p l e rmx_X9_needLying s m a below meth c H locs 0 0 QQ (F0 m 0 ls []) := by
    unfold x_X9_needLying at h
    refine lv_aload_n hx hb dX9_needLying_0 rfl (lv_at hl 0 rfl) ?_
    refine G_X9_stock cx hV mk_2_142 dX9_needLying_1 ?_
    refine lv_iload_n hx hb dX9_needLying_4 rfl (lv_at hl 1 rfl) ?_
    refine bd_e h (fun v1 hq h => ?_)
    refine k_X5_lies (by decide) hq cx hV mk_5_21 ⟨Nat.le_of_ble_eq_true rfl, Nat.le_of_ble_eq_true rfl⟩ ⟨Nat.zero_le _, Nat.zero_le _⟩ hl.1 (Nat.le_of_ble_eq_true rfl) dX9_needLying_5 (fun H locs hV => ?_)
    refine lv_if_ne (tgt := 31) hx hb dX9_needLying_8 (by decide) (fun hc => ?_) (fun hc => ?_)
    · have h := ifn hc h
      exact (inlr h).elim
    · have h := ifp hc h
      refine lv_aload_n hx hb dX9_needLying_11 rfl (lv_at hl 0 rfl) ?_
      refine G_X9_refused cx hV mk_2_145 dX9_needLying_12 ?_
      refine lv_iconst (v := 3) hx hb dX9_needLying_15 (by decide) ?_
      refine lv_iconst (v := 1) hx hb dX9_needLying_16 (by decide) ?_
      refine bd_e h (fun σ2 hq h => ?_)
      refine k_X2_add (by decide) hq cx hV mk_3_182 ⟨Nat.le_of_ble_eq_true rfl, Nat.le_of_ble_eq_true rfl⟩ ⟨Nat.zero_le _, Nat.zero_le _⟩ hl.1 (Nat.le_of_ble_eq_true rfl) dX9_needLying_17 (fun H locs hV => ?_)
      obtain ⟨h1, h2⟩ := Prod.mk.inj (Sum.inr.inj (Option.some.inj h))
      subst h1
      subst h2
      subst hQ
      exact r_new_lying cx hT hV hF hx0 hlk hl.1 ⟨Nat.le_of_ble_eq_true rfl, Nat.le_of_ble_eq_true rfl, Nat.le_of_ble_eq_true rfl, Nat.le_of_ble_eq_true rfl⟩ dX9_needLying_20 dX9_needLying_23 dX9_needLying_24 dX9_needLying_27 dX9_needLying_30
  rw [hH, hlocs] at goal
  exact goal
theorem k_X9_needLying {p : Program} {l : Launch} {e : Env} {R : Room} {s : State} {m : MethodId} {a : Array Value} {below : List Frame} {meth : Method} {c : Code} {H : Heap} {locs : List Loc} {cells slots : Nat} {Q : State → Prop} {cc : ByteArray} {own : String} {nL pc : Nat} {ls : Array Slot} {rest : List Value} {A : Nat → Prop} {E : EV} {X : va_W} {σ : St} {p1 : Int32} {σf : St} (h : x_X9_needLying p1 σ = some (.inl σf)) (cx : CallFix p m c cc nL s a TBL own) (hV : AtW E (wC E σ ++ X) A s H locs) (hF : FZ E A s s.heap) {idx : Nat} (w1 : Cond.methodLink own idx yX9_needLying ∈ TBL) (hR : (rm_X9_needLying).frames + 1 ≤ R.frames ∧ 8 + (2 + 11) + (rm_X9_needLying).locals ≤ R.locals) (hcs : cells ≤ R.cells ∧ slots ≤ R.slots) (hls : ls.size = nL) (hcat : (rest.map fun v => v.category).sum ≤ 8) (d : decode cc pc = .ok (.invokevirtual idx, 3)) (kk : ∀ (H1 : Heap) (locs1 : List Loc), AtW E (wC E σf ++ X) A s H1 locs1 → W p l e R s m a below meth c H1 locs1 cells slots Q (F0 m (pc + 3) ls (rest))) : W p l e R s m a below meth c H locs cells slots Q (F0 m pc ls (.int p1 :: .ref (eA E 0) :: rest)) :=
  r_callFv (n := 1) (As := [.int p1]) (q0 := 0) (ci := 9) (qq := (RX9, TX9, 14)) (c_X9_needLying h) wC_fst rfl rfl mk_5_56 mk_P_41 mk_1_1 mk_5_57 (by decide +kernel) rfl ⟨rfl, rfl⟩ cx hV hF w1 hR hcs hls rfl hcat d kk
theorem kx_X9_needLying {p : Program} {l : Launch} {e : Env} {R : Room} {s : State} {m : MethodId} {a : Array Value} {below : List Frame} {meth : Method} {c : Code} {H : Heap} {locs : List Loc} {cc : ByteArray} {own : String} {nL pc : Nat} {ls : Array Slot} {rest : List Value} {A : Nat → Prop} {E : EV} {X : va_W} {σ : St} {p1 : Int32} (hT : l.stackTraces = false) {nx : Nat} {σf : St} (h : x_X9_needLying p1 σ = some (.inr (nx, σf))) (cx : CallFix p m c cc nL s a TBL own) (hV : AtW E (wC E σ ++ X) A s H locs) (hF : FZ E A s s.heap) (hx0 : ∀ x ∈ c.exceptionTable.toList, False) (hlk : meth.locks = false) {idx : Nat} (w1 : Cond.methodLink own idx yX9_needLying ∈ TBL) (hR : (rmx_X9_needLying).frames + 1 ≤ R.frames ∧ 8 + (2 + 11) + (rmx_X9_needLying).locals ≤ R.locals) (hcs : 1 ≤ R.cells ∧ 6 ≤ R.slots) (hls : ls.size = nL) (hcat : (rest.map fun v => v.category).sum ≤ 8) (d : decode cc pc = .ok (.invokevirtual idx, 3)) : W p l e R s m a below meth c H locs 0 0 (EX E (wC E σf ++ X) (exN nx) A s a below) (F0 m pc ls (.int p1 :: .ref (eA E 0) :: rest)) :=
  r_callx (n := 1) (As := [.int p1]) (q0 := 0) (ci := 9) (qq := (RX9, TX9, 14)) (t_X9_needLying hT h) rfl rfl mk_5_56 mk_P_41 mk_1_1 mk_5_57 (by decide +kernel) rfl ⟨rfl, rfl⟩ cx hV hF hx0 hlk w1 hR hcs hls rfl hcat d
def x_X9_lay (p1 : Int32) (p2 : Int32) (σ : St) : Option ((Int32 × St) ⊕ (Nat × St)) :=
  bt (x_X9_needCrate p2 σ) fun σ1 =>
  bt (x_X9_needSleeve p1 σ1) fun σ2 =>
  bt (x_X9_needLying p1 σ2) fun σ3 =>
  bd (x_X2_at 15 p1 σ3) fun v4 =>
  bd (x_X5_putBehind 0 p1 p2 σ3) fun σ5 =>
  some (.inl (v4, σ5))
abbrev rm_X9_lay : Room := { frames := 3, cells := 0, slots := 0, locals := 68 }
abbrev rmx_X9_lay : Room := { frames := 7, cells := 1, slots := 6, locals := 103 }
set_option maxHeartbeats 4000000 in
set_option maxRecDepth 100000 in
theorem c_X9_lay {l : Launch} {E : EV} {X : va_W} {σ : St} {p1 : Int32} {p2 : Int32} {rv : Int32} {σf : St} (h : x_X9_lay p1 p2 σ = some (.inl (rv, σf))) : CMF l yX9_lay cX9_lay 4 (some .int) rm_X9_lay [.ref (eA E 0), .int p1, .int p2] E (wC E σ ++ X) (wC E σf ++ X) (qI rv) := by
  refine CMF.start (by decide) (Nat.le_of_ble_eq_true rfl) (fun p e s m a below meth c A ls cx hr hlk hV hF hl => ?_)
  have cx : CallFix p m c cX9_lay 4 s a TBL RX9 := cx
  have hx := cx.1
  have hb := cx.2.1
  have hl : lv_has ls 4 [(0, .ref (eA E 0)), (1, .int p1), (2, .int p2)] := hl
  generalize hQ : EQ E (wC E σf ++ X) (qI rv) A s a below = QQ
  obtain ⟨H, hH⟩ : ∃ H, H = s.heap := ⟨_, rfl⟩
  obtain ⟨locs, hlocs⟩ : ∃ z, z = ([] : List Loc) := ⟨_, rfl⟩
  have hV : AtW E (wC E σ ++ X) A s H locs := by rw [hH, hlocs]; exact hV
  have goal : W p l e rm_X9_lay s m a below meth c H locs 0 0 QQ (F0 m 0 ls []) := by
    unfold x_X9_lay at h
    refine lv_aload_n hx hb dX9_lay_0 rfl (lv_at hl 0 rfl) ?_
    refine lv_iload_n hx hb dX9_lay_1 rfl (lv_at hl 2 rfl) ?_
    refine bt_e h (fun σ1 hq h => ?_) (fun q hq h => ?_)
    rotate_left
    · exact (inrl' h).elim
    refine k_X9_needCrate hq cx hV hF mk_4_197 ⟨Nat.le_of_ble_eq_true rfl, Nat.le_of_ble_eq_true rfl⟩ ⟨Nat.zero_le _, Nat.zero_le _⟩ hl.1 (Nat.le_of_ble_eq_true rfl) dX9_lay_2 (fun H locs hV => ?_)
    refine lv_aload_n hx hb dX9_lay_5 rfl (lv_at hl 0 rfl) ?_
    refine lv_iload_n hx hb dX9_lay_6 rfl (lv_at hl 1 rfl) ?_
    refine bt_e h (fun σ2 hq h => ?_) (fun q hq h => ?_)
    rotate_left
    · exact (inrl' h).elim
    refine k_X9_needSleeve hq cx hV hF mk_4_237 ⟨Nat.le_of_ble_eq_true rfl, Nat.le_of_ble_eq_true rfl⟩ ⟨Nat.zero_le _, Nat.zero_le _⟩ hl.1 (Nat.le_of_ble_eq_true rfl) dX9_lay_7 (fun H locs hV => ?_)
    refine lv_aload_n hx hb dX9_lay_10 rfl (lv_at hl 0 rfl) ?_
    refine lv_iload_n hx hb dX9_lay_11 rfl (lv_at hl 1 rfl) ?_
    refine bt_e h (fun σ3 hq h => ?_) (fun q hq h => ?_)
    rotate_left
    · exact (inrl' h).elim
    refine k_X9_needLying hq cx hV hF mk_5_54 ⟨Nat.le_of_ble_eq_true rfl, Nat.le_of_ble_eq_true rfl⟩ ⟨Nat.zero_le _, Nat.zero_le _⟩ hl.1 (Nat.le_of_ble_eq_true rfl) dX9_lay_12 (fun H locs hV => ?_)
    refine lv_aload_n hx hb dX9_lay_15 rfl (lv_at hl 0 rfl) ?_
    refine G_X9_stock cx hV mk_2_142 dX9_lay_16 ?_
    refine G_X5_where cx hV (by decide) mk_1_123 dX9_lay_19 ?_
    refine lv_iload_n hx hb dX9_lay_22 rfl (lv_at hl 1 rfl) ?_
    refine bd_e h (fun v4 hq h => ?_)
    refine k_X2_at (by decide) hq cx hV mk_3_93 ⟨Nat.le_of_ble_eq_true rfl, Nat.le_of_ble_eq_true rfl⟩ ⟨Nat.zero_le _, Nat.zero_le _⟩ hl.1 (Nat.le_of_ble_eq_true rfl) dX9_lay_23 (fun H locs hV => ?_)
    refine lv_istore_n (lv' := [(3, .int v4), (0, .ref (eA E 0)), (1, .int p1), (2, .int p2)]) hx hb dX9_lay_26 rfl hl (by decide) rfl (fun ls hl => ?_)
    refine lv_aload_n hx hb dX9_lay_27 rfl (lv_at hl 1 rfl) ?_
    refine G_X9_stock cx hV mk_2_142 dX9_lay_28 ?_
    refine lv_iload_n hx hb dX9_lay_31 rfl (lv_at hl 2 rfl) ?_
    refine lv_iload_n hx hb dX9_lay_32 rfl (lv_at hl 3 rfl) ?_
    refine bd_e h (fun σ5 hq h => ?_)
    refine k_X5_putBehind (by decide) hq cx hV mk_3_111 ⟨Nat.le_of_ble_eq_true rfl, Nat.le_of_ble_eq_true rfl⟩ ⟨Nat.zero_le _, Nat.zero_le _⟩ hl.1 (Nat.le_of_ble_eq_true rfl) dX9_lay_33 (fun H locs hV => ?_)
    refine lv_iload_n hx hb dX9_lay_36 rfl (lv_at hl 0 rfl) ?_
    have h := congrArg some (Sum.inl.inj (Option.some.inj h))
    obtain ⟨h1, h2⟩ := Prod.mk.inj (Option.some.inj h)
    subst h1
    subst h2
    subst hQ
    exact r_ireti cx hr hlk hV dX9_lay_37
  rw [hH, hlocs] at goal
  exact goal
set_option maxHeartbeats 4000000 in
set_option maxRecDepth 100000 in
theorem t_X9_lay {l : Launch} (hT : l.stackTraces = false) {E : EV} {X : va_W} {σ : St} {p1 : Int32} {p2 : Int32} {nx : Nat} {σf : St} (h : x_X9_lay p1 p2 σ = some (.inr (nx, σf))) : CXF l yX9_lay cX9_lay 4 (some .int) rmx_X9_lay [.ref (eA E 0), .int p1, .int p2] E (wC E σ ++ X) (wC E σf ++ X) (exN nx) := by
  refine CXF.start (by decide) (Nat.le_of_ble_eq_true rfl) (fun p e s m a below meth c A ls cx hx0 hlk hV hF hl => ?_)
  have cx : CallFix p m c cX9_lay 4 s a TBL RX9 := cx
  have hx := cx.1
  have hb := cx.2.1
  have hl : lv_has ls 4 [(0, .ref (eA E 0)), (1, .int p1), (2, .int p2)] := hl
  generalize hQ : EX E (wC E σf ++ X) (exN nx) A s a below = QQ
  obtain ⟨H, hH⟩ : ∃ H, H = s.heap := ⟨_, rfl⟩
  obtain ⟨locs, hlocs⟩ : ∃ z, z = ([] : List Loc) := ⟨_, rfl⟩
  have hV : AtW E (wC E σ ++ X) A s H locs := by rw [hH, hlocs]; exact hV
  have goal : W p l e rmx_X9_lay s m a below meth c H locs 0 0 QQ (F0 m 0 ls []) := by
    unfold x_X9_lay at h
    refine lv_aload_n hx hb dX9_lay_0 rfl (lv_at hl 0 rfl) ?_
    refine lv_iload_n hx hb dX9_lay_1 rfl (lv_at hl 2 rfl) ?_
    refine bt_e h (fun σ1 hq h => ?_) (fun q hq h => ?_)
    rotate_left
    · have h := Sum.inr.inj h
      subst h
      subst hQ
      exact kx_X9_needCrate hT hq cx hV hF hx0 hlk mk_4_197 ⟨Nat.le_of_ble_eq_true rfl, Nat.le_of_ble_eq_true rfl⟩ ⟨Nat.le_of_ble_eq_true rfl, Nat.le_of_ble_eq_true rfl⟩ hl.1 (Nat.le_of_ble_eq_true rfl) dX9_lay_2
    refine k_X9_needCrate hq cx hV hF mk_4_197 ⟨Nat.le_of_ble_eq_true rfl, Nat.le_of_ble_eq_true rfl⟩ ⟨Nat.zero_le _, Nat.zero_le _⟩ hl.1 (Nat.le_of_ble_eq_true rfl) dX9_lay_2 (fun H locs hV => ?_)
    refine lv_aload_n hx hb dX9_lay_5 rfl (lv_at hl 0 rfl) ?_
    refine lv_iload_n hx hb dX9_lay_6 rfl (lv_at hl 1 rfl) ?_
    refine bt_e h (fun σ2 hq h => ?_) (fun q hq h => ?_)
    rotate_left
    · have h := Sum.inr.inj h
      subst h
      subst hQ
      exact kx_X9_needSleeve hT hq cx hV hF hx0 hlk mk_4_237 ⟨Nat.le_of_ble_eq_true rfl, Nat.le_of_ble_eq_true rfl⟩ ⟨Nat.le_of_ble_eq_true rfl, Nat.le_of_ble_eq_true rfl⟩ hl.1 (Nat.le_of_ble_eq_true rfl) dX9_lay_7
    refine k_X9_needSleeve hq cx hV hF mk_4_237 ⟨Nat.le_of_ble_eq_true rfl, Nat.le_of_ble_eq_true rfl⟩ ⟨Nat.zero_le _, Nat.zero_le _⟩ hl.1 (Nat.le_of_ble_eq_true rfl) dX9_lay_7 (fun H locs hV => ?_)
    refine lv_aload_n hx hb dX9_lay_10 rfl (lv_at hl 0 rfl) ?_
    refine lv_iload_n hx hb dX9_lay_11 rfl (lv_at hl 1 rfl) ?_
    refine bt_e h (fun σ3 hq h => ?_) (fun q hq h => ?_)
    rotate_left
    · have h := Sum.inr.inj h
      subst h
      subst hQ
      exact kx_X9_needLying hT hq cx hV hF hx0 hlk mk_5_54 ⟨Nat.le_of_ble_eq_true rfl, Nat.le_of_ble_eq_true rfl⟩ ⟨Nat.le_of_ble_eq_true rfl, Nat.le_of_ble_eq_true rfl⟩ hl.1 (Nat.le_of_ble_eq_true rfl) dX9_lay_12
    refine k_X9_needLying hq cx hV hF mk_5_54 ⟨Nat.le_of_ble_eq_true rfl, Nat.le_of_ble_eq_true rfl⟩ ⟨Nat.zero_le _, Nat.zero_le _⟩ hl.1 (Nat.le_of_ble_eq_true rfl) dX9_lay_12 (fun H locs hV => ?_)
    refine lv_aload_n hx hb dX9_lay_15 rfl (lv_at hl 0 rfl) ?_
    refine G_X9_stock cx hV mk_2_142 dX9_lay_16 ?_
    refine G_X5_where cx hV (by decide) mk_1_123 dX9_lay_19 ?_
    refine lv_iload_n hx hb dX9_lay_22 rfl (lv_at hl 1 rfl) ?_
    refine bd_e h (fun v4 hq h => ?_)
    refine k_X2_at (by decide) hq cx hV mk_3_93 ⟨Nat.le_of_ble_eq_true rfl, Nat.le_of_ble_eq_true rfl⟩ ⟨Nat.zero_le _, Nat.zero_le _⟩ hl.1 (Nat.le_of_ble_eq_true rfl) dX9_lay_23 (fun H locs hV => ?_)
    refine lv_istore_n (lv' := [(3, .int v4), (0, .ref (eA E 0)), (1, .int p1), (2, .int p2)]) hx hb dX9_lay_26 rfl hl (by decide) rfl (fun ls hl => ?_)
    refine lv_aload_n hx hb dX9_lay_27 rfl (lv_at hl 1 rfl) ?_
    refine G_X9_stock cx hV mk_2_142 dX9_lay_28 ?_
    refine lv_iload_n hx hb dX9_lay_31 rfl (lv_at hl 2 rfl) ?_
    refine lv_iload_n hx hb dX9_lay_32 rfl (lv_at hl 3 rfl) ?_
    refine bd_e h (fun σ5 hq h => ?_)
    refine k_X5_putBehind (by decide) hq cx hV mk_3_111 ⟨Nat.le_of_ble_eq_true rfl, Nat.le_of_ble_eq_true rfl⟩ ⟨Nat.zero_le _, Nat.zero_le _⟩ hl.1 (Nat.le_of_ble_eq_true rfl) dX9_lay_33 (fun H locs hV => ?_)
    refine lv_iload_n hx hb dX9_lay_36 rfl (lv_at hl 0 rfl) ?_
    exact (inlr h).elim
  rw [hH, hlocs] at goal
  exact goal
theorem k_X9_lay {p : Program} {l : Launch} {e : Env} {R : Room} {s : State} {m : MethodId} {a : Array Value} {below : List Frame} {meth : Method} {c : Code} {H : Heap} {locs : List Loc} {cells slots : Nat} {Q : State → Prop} {cc : ByteArray} {own : String} {nL pc : Nat} {ls : Array Slot} {rest : List Value} {A : Nat → Prop} {E : EV} {X : va_W} {σ : St} {p1 : Int32} {p2 : Int32} {rv : Int32} {σf : St} (h : x_X9_lay p1 p2 σ = some (.inl (rv, σf))) (cx : CallFix p m c cc nL s a TBL own) (hV : AtW E (wC E σ ++ X) A s H locs) (hF : FZ E A s s.heap) {idx : Nat} (w1 : Cond.methodLink own idx yX9_lay ∈ TBL) (hR : (rm_X9_lay).frames + 1 ≤ R.frames ∧ 8 + (4 + 11) + (rm_X9_lay).locals ≤ R.locals) (hcs : cells ≤ R.cells ∧ slots ≤ R.slots) (hls : ls.size = nL) (hcat : (rest.map fun v => v.category).sum ≤ 8) (d : decode cc pc = .ok (.invokevirtual idx, 3)) (kk : ∀ (H1 : Heap) (locs1 : List Loc), AtW E (wC E σf ++ X) A s H1 locs1 → W p l e R s m a below meth c H1 locs1 cells slots Q (F0 m (pc + 3) ls (.int rv :: rest))) : W p l e R s m a below meth c H locs cells slots Q (F0 m pc ls (.int p2 :: .int p1 :: .ref (eA E 0) :: rest)) :=
  r_callFi (n := 2) (As := [.int p1, .int p2]) (q0 := 0) (ci := 9) (qq := (RX9, TX9, 14)) (c_X9_lay h) wC_fst rfl rfl mk_5_51 mk_5_52 mk_1_1 mk_5_53 (by decide +kernel) rfl ⟨rfl, rfl⟩ cx hV hF w1 hR hcs hls rfl hcat d kk
theorem kx_X9_lay {p : Program} {l : Launch} {e : Env} {R : Room} {s : State} {m : MethodId} {a : Array Value} {below : List Frame} {meth : Method} {c : Code} {H : Heap} {locs : List Loc} {cc : ByteArray} {own : String} {nL pc : Nat} {ls : Array Slot} {rest : List Value} {A : Nat → Prop} {E : EV} {X : va_W} {σ : St} {p1 : Int32} {p2 : Int32} (hT : l.stackTraces = false) {nx : Nat} {σf : St} (h : x_X9_lay p1 p2 σ = some (.inr (nx, σf))) (cx : CallFix p m c cc nL s a TBL own) (hV : AtW E (wC E σ ++ X) A s H locs) (hF : FZ E A s s.heap) (hx0 : ∀ x ∈ c.exceptionTable.toList, False) (hlk : meth.locks = false) {idx : Nat} (w1 : Cond.methodLink own idx yX9_lay ∈ TBL) (hR : (rmx_X9_lay).frames + 1 ≤ R.frames ∧ 8 + (4 + 11) + (rmx_X9_lay).locals ≤ R.locals) (hcs : 1 ≤ R.cells ∧ 6 ≤ R.slots) (hls : ls.size = nL) (hcat : (rest.map fun v => v.category).sum ≤ 8) (d : decode cc pc = .ok (.invokevirtual idx, 3)) : W p l e R s m a below meth c H locs 0 0 (EX E (wC E σf ++ X) (exN nx) A s a below) (F0 m pc ls (.int p2 :: .int p1 :: .ref (eA E 0) :: rest)) :=
  r_callx (n := 2) (As := [.int p1, .int p2]) (q0 := 0) (ci := 9) (qq := (RX9, TX9, 14)) (t_X9_lay hT h) rfl rfl mk_5_51 mk_5_52 mk_1_1 mk_5_53 (by decide +kernel) rfl ⟨rfl, rfl⟩ cx hV hF hx0 hlk w1 hR hcs hls rfl hcat d
def x_X9_change_b21 (w1 : Int32) (w2 : Int32) (w3 : Int32) (σ4 : St) : Option ((Int32 × St) ⊕ (Nat × St)) :=
  bt (x_X9_need w3 σ4) fun σ5 =>
  bd (x_X2_swap 17 w1 w2 σ5) fun σ6 =>
  bd (x_X2_at 17 w1 σ6) fun v7 =>
  some (.inl (v7, σ6))
def x_X9_change (p1 : Int32) (p2 : Int32) (σ : St) : Option ((Int32 × St) ⊕ (Nat × St)) :=
  bt (x_X9_needSleeve p1 σ) fun σ8 =>
  bt (x_X9_needSleeve p2 σ8) fun σ9 =>
  (if p1 = p2 then
  x_X9_change_b21 p1 p2 0 σ9
  else
  x_X9_change_b21 p1 p2 1 σ9)
abbrev rm_X9_change : Room := { frames := 3, cells := 0, slots := 0, locals := 65 }
abbrev rmx_X9_change : Room := { frames := 7, cells := 1, slots := 6, locals := 103 }
set_option maxHeartbeats 4000000 in
set_option maxRecDepth 100000 in
theorem c_X9_change {l : Launch} {E : EV} {X : va_W} {σ : St} {p1 : Int32} {p2 : Int32} {rv : Int32} {σf : St} (h : x_X9_change p1 p2 σ = some (.inl (rv, σf))) : CMF l yX9_change cX9_change 3 (some .int) rm_X9_change [.ref (eA E 0), .int p1, .int p2] E (wC E σ ++ X) (wC E σf ++ X) (qI rv) := by
  refine CMF.start (by decide) (Nat.le_of_ble_eq_true rfl) (fun p e s m a below meth c A ls cx hr hlk hV hF hl => ?_)
  have cx : CallFix p m c cX9_change 3 s a TBL RX9 := cx
  have hx := cx.1
  have hb := cx.2.1
  have hl : lv_has ls 3 [(0, .ref (eA E 0)), (1, .int p1), (2, .int p2)] := hl
  generalize hQ : EQ E (wC E σf ++ X) (qI rv) A s a below = QQ
  obtain ⟨H, hH⟩ : ∃ H, H = s.heap := ⟨_, rfl⟩
  obtain ⟨locs, hlocs⟩ : ∃ z, z = ([] : List Loc) := ⟨_, rfl⟩
  have hV : AtW E (wC E σ ++ X) A s H locs := by rw [hH, hlocs]; exact hV
  have goal : W p l e rm_X9_change s m a below meth c H locs 0 0 QQ (F0 m 0 ls []) := by
    unfold x_X9_change at h
    have hj21 : ∀ (w1 : Int32) (w2 : Int32) (w3 : Int32) (σ4 : St) (H : Heap) (locs : List Loc) (ls : Array Slot), x_X9_change_b21 w1 w2 w3 σ4 = some (.inl (rv, σf)) → AtW E (wC E σ4 ++ X) A s H locs → lv_has ls 3 [(0, .ref (eA E 0)), (1, .int w1), (2, .int w2)] → W p l e rm_X9_change s m a below meth c H locs 0 0 QQ (F0 m 21 ls [.int w3, .ref (eA E 0)]) := by
      intro w1 w2 w3 σ4 H locs ls h hV hl
      unfold x_X9_change_b21 at h
      refine bt_e h (fun σ5 hq h => ?_) (fun q hq h => ?_)
      rotate_left
      · exact (inrl' h).elim
      refine k_X9_need hq cx hV hF mk_3_178 ⟨Nat.le_of_ble_eq_true rfl, Nat.le_of_ble_eq_true rfl⟩ ⟨Nat.zero_le _, Nat.zero_le _⟩ hl.1 (Nat.le_of_ble_eq_true rfl) dX9_change_21 (fun H locs hV => ?_)
      refine lv_aload_n hx hb dX9_change_24 rfl (lv_at hl 0 rfl) ?_
      refine G_X9_stock cx hV mk_2_142 dX9_change_25 ?_
      refine G_X5_discs cx hV (by decide) mk_1_129 dX9_change_28 ?_
      refine lv_iload_n hx hb dX9_change_31 rfl (lv_at hl 1 rfl) ?_
      refine lv_iload_n hx hb dX9_change_32 rfl (lv_at hl 2 rfl) ?_
      refine bd_e h (fun σ6 hq h => ?_)
      refine k_X2_swap (by decide) hq cx hV mk_5_81 ⟨Nat.le_of_ble_eq_true rfl, Nat.le_of_ble_eq_true rfl⟩ ⟨Nat.zero_le _, Nat.zero_le _⟩ hl.1 (Nat.le_of_ble_eq_true rfl) dX9_change_33 (fun H locs hV => ?_)
      refine lv_aload_n hx hb dX9_change_36 rfl (lv_at hl 0 rfl) ?_
      refine G_X9_stock cx hV mk_2_142 dX9_change_37 ?_
      refine G_X5_discs cx hV (by decide) mk_1_129 dX9_change_40 ?_
      refine lv_iload_n hx hb dX9_change_43 rfl (lv_at hl 1 rfl) ?_
      refine bd_e h (fun v7 hq h => ?_)
      refine k_X2_at (by decide) hq cx hV mk_3_93 ⟨Nat.le_of_ble_eq_true rfl, Nat.le_of_ble_eq_true rfl⟩ ⟨Nat.zero_le _, Nat.zero_le _⟩ hl.1 (Nat.le_of_ble_eq_true rfl) dX9_change_44 (fun H locs hV => ?_)
      have h := congrArg some (Sum.inl.inj (Option.some.inj h))
      obtain ⟨h1, h2⟩ := Prod.mk.inj (Option.some.inj h)
      subst h1
      subst h2
      subst hQ
      exact r_ireti cx hr hlk hV dX9_change_47
    refine lv_aload_n hx hb dX9_change_0 rfl (lv_at hl 0 rfl) ?_
    refine lv_iload_n hx hb dX9_change_1 rfl (lv_at hl 1 rfl) ?_
    refine bt_e h (fun σ8 hq h => ?_) (fun q hq h => ?_)
    rotate_left
    · exact (inrl' h).elim
    refine k_X9_needSleeve hq cx hV hF mk_4_237 ⟨Nat.le_of_ble_eq_true rfl, Nat.le_of_ble_eq_true rfl⟩ ⟨Nat.zero_le _, Nat.zero_le _⟩ hl.1 (Nat.le_of_ble_eq_true rfl) dX9_change_2 (fun H locs hV => ?_)
    refine lv_aload_n hx hb dX9_change_5 rfl (lv_at hl 0 rfl) ?_
    refine lv_iload_n hx hb dX9_change_6 rfl (lv_at hl 2 rfl) ?_
    refine bt_e h (fun σ9 hq h => ?_) (fun q hq h => ?_)
    rotate_left
    · exact (inrl' h).elim
    refine k_X9_needSleeve hq cx hV hF mk_4_237 ⟨Nat.le_of_ble_eq_true rfl, Nat.le_of_ble_eq_true rfl⟩ ⟨Nat.zero_le _, Nat.zero_le _⟩ hl.1 (Nat.le_of_ble_eq_true rfl) dX9_change_7 (fun H locs hV => ?_)
    refine lv_aload_n hx hb dX9_change_10 rfl (lv_at hl 0 rfl) ?_
    refine lv_iload_n hx hb dX9_change_11 rfl (lv_at hl 1 rfl) ?_
    refine lv_iload_n hx hb dX9_change_12 rfl (lv_at hl 2 rfl) ?_
    refine lv_icmp_eq (tgt := 20) hx hb dX9_change_13 (by decide) (fun hc => ?_) (fun hc => ?_)
    · have h := ifp hc h
      refine lv_iconst (v := 0) hx hb dX9_change_20 (by decide) ?_
      exact hj21 p1 p2 0 σ9 _ _ _ h hV (lv_sub hl [0, 1, 2] rfl)
    · have h := ifn hc h
      refine lv_iconst (v := 1) hx hb dX9_change_16 (by decide) ?_
      refine lv_goto (tgt := 21) hx hb dX9_change_17 (by decide) ?_
      exact hj21 p1 p2 1 σ9 _ _ _ h hV (lv_sub hl [0, 1, 2] rfl)
  rw [hH, hlocs] at goal
  exact goal
set_option maxHeartbeats 4000000 in
set_option maxRecDepth 100000 in
theorem t_X9_change {l : Launch} (hT : l.stackTraces = false) {E : EV} {X : va_W} {σ : St} {p1 : Int32} {p2 : Int32} {nx : Nat} {σf : St} (h : x_X9_change p1 p2 σ = some (.inr (nx, σf))) : CXF l yX9_change cX9_change 3 (some .int) rmx_X9_change [.ref (eA E 0), .int p1, .int p2] E (wC E σ ++ X) (wC E σf ++ X) (exN nx) := by
  refine CXF.start (by decide) (Nat.le_of_ble_eq_true rfl) (fun p e s m a below meth c A ls cx hx0 hlk hV hF hl => ?_)
  have cx : CallFix p m c cX9_change 3 s a TBL RX9 := cx
  have hx := cx.1
  have hb := cx.2.1
  have hl : lv_has ls 3 [(0, .ref (eA E 0)), (1, .int p1), (2, .int p2)] := hl
  generalize hQ : EX E (wC E σf ++ X) (exN nx) A s a below = QQ
  obtain ⟨H, hH⟩ : ∃ H, H = s.heap := ⟨_, rfl⟩
  obtain ⟨locs, hlocs⟩ : ∃ z, z = ([] : List Loc) := ⟨_, rfl⟩
  have hV : AtW E (wC E σ ++ X) A s H locs := by rw [hH, hlocs]; exact hV
  have goal : W p l e rmx_X9_change s m a below meth c H locs 0 0 QQ (F0 m 0 ls []) := by
    unfold x_X9_change at h
    have hj21 : ∀ (w1 : Int32) (w2 : Int32) (w3 : Int32) (σ4 : St) (H : Heap) (locs : List Loc) (ls : Array Slot), x_X9_change_b21 w1 w2 w3 σ4 = some (.inr (nx, σf)) → AtW E (wC E σ4 ++ X) A s H locs → lv_has ls 3 [(0, .ref (eA E 0)), (1, .int w1), (2, .int w2)] → W p l e rmx_X9_change s m a below meth c H locs 0 0 QQ (F0 m 21 ls [.int w3, .ref (eA E 0)]) := by
      intro w1 w2 w3 σ4 H locs ls h hV hl
      unfold x_X9_change_b21 at h
      refine bt_e h (fun σ5 hq h => ?_) (fun q hq h => ?_)
      rotate_left
      · have h := Sum.inr.inj h
        subst h
        subst hQ
        exact kx_X9_need hT hq cx hV hF hx0 hlk mk_3_178 ⟨Nat.le_of_ble_eq_true rfl, Nat.le_of_ble_eq_true rfl⟩ ⟨Nat.le_of_ble_eq_true rfl, Nat.le_of_ble_eq_true rfl⟩ hl.1 (Nat.le_of_ble_eq_true rfl) dX9_change_21
      refine k_X9_need hq cx hV hF mk_3_178 ⟨Nat.le_of_ble_eq_true rfl, Nat.le_of_ble_eq_true rfl⟩ ⟨Nat.zero_le _, Nat.zero_le _⟩ hl.1 (Nat.le_of_ble_eq_true rfl) dX9_change_21 (fun H locs hV => ?_)
      refine lv_aload_n hx hb dX9_change_24 rfl (lv_at hl 0 rfl) ?_
      refine G_X9_stock cx hV mk_2_142 dX9_change_25 ?_
      refine G_X5_discs cx hV (by decide) mk_1_129 dX9_change_28 ?_
      refine lv_iload_n hx hb dX9_change_31 rfl (lv_at hl 1 rfl) ?_
      refine lv_iload_n hx hb dX9_change_32 rfl (lv_at hl 2 rfl) ?_
      refine bd_e h (fun σ6 hq h => ?_)
      refine k_X2_swap (by decide) hq cx hV mk_5_81 ⟨Nat.le_of_ble_eq_true rfl, Nat.le_of_ble_eq_true rfl⟩ ⟨Nat.zero_le _, Nat.zero_le _⟩ hl.1 (Nat.le_of_ble_eq_true rfl) dX9_change_33 (fun H locs hV => ?_)
      refine lv_aload_n hx hb dX9_change_36 rfl (lv_at hl 0 rfl) ?_
      refine G_X9_stock cx hV mk_2_142 dX9_change_37 ?_
      refine G_X5_discs cx hV (by decide) mk_1_129 dX9_change_40 ?_
      refine lv_iload_n hx hb dX9_change_43 rfl (lv_at hl 1 rfl) ?_
      refine bd_e h (fun v7 hq h => ?_)
      refine k_X2_at (by decide) hq cx hV mk_3_93 ⟨Nat.le_of_ble_eq_true rfl, Nat.le_of_ble_eq_true rfl⟩ ⟨Nat.zero_le _, Nat.zero_le _⟩ hl.1 (Nat.le_of_ble_eq_true rfl) dX9_change_44 (fun H locs hV => ?_)
      exact (inlr h).elim
    refine lv_aload_n hx hb dX9_change_0 rfl (lv_at hl 0 rfl) ?_
    refine lv_iload_n hx hb dX9_change_1 rfl (lv_at hl 1 rfl) ?_
    refine bt_e h (fun σ8 hq h => ?_) (fun q hq h => ?_)
    rotate_left
    · have h := Sum.inr.inj h
      subst h
      subst hQ
      exact kx_X9_needSleeve hT hq cx hV hF hx0 hlk mk_4_237 ⟨Nat.le_of_ble_eq_true rfl, Nat.le_of_ble_eq_true rfl⟩ ⟨Nat.le_of_ble_eq_true rfl, Nat.le_of_ble_eq_true rfl⟩ hl.1 (Nat.le_of_ble_eq_true rfl) dX9_change_2
    refine k_X9_needSleeve hq cx hV hF mk_4_237 ⟨Nat.le_of_ble_eq_true rfl, Nat.le_of_ble_eq_true rfl⟩ ⟨Nat.zero_le _, Nat.zero_le _⟩ hl.1 (Nat.le_of_ble_eq_true rfl) dX9_change_2 (fun H locs hV => ?_)
    refine lv_aload_n hx hb dX9_change_5 rfl (lv_at hl 0 rfl) ?_
    refine lv_iload_n hx hb dX9_change_6 rfl (lv_at hl 2 rfl) ?_
    refine bt_e h (fun σ9 hq h => ?_) (fun q hq h => ?_)
    rotate_left
    · have h := Sum.inr.inj h
      subst h
      subst hQ
      exact kx_X9_needSleeve hT hq cx hV hF hx0 hlk mk_4_237 ⟨Nat.le_of_ble_eq_true rfl, Nat.le_of_ble_eq_true rfl⟩ ⟨Nat.le_of_ble_eq_true rfl, Nat.le_of_ble_eq_true rfl⟩ hl.1 (Nat.le_of_ble_eq_true rfl) dX9_change_7
    refine k_X9_needSleeve hq cx hV hF mk_4_237 ⟨Nat.le_of_ble_eq_true rfl, Nat.le_of_ble_eq_true rfl⟩ ⟨Nat.zero_le _, Nat.zero_le _⟩ hl.1 (Nat.le_of_ble_eq_true rfl) dX9_change_7 (fun H locs hV => ?_)
    refine lv_aload_n hx hb dX9_change_10 rfl (lv_at hl 0 rfl) ?_
    refine lv_iload_n hx hb dX9_change_11 rfl (lv_at hl 1 rfl) ?_
    refine lv_iload_n hx hb dX9_change_12 rfl (lv_at hl 2 rfl) ?_
    refine lv_icmp_eq (tgt := 20) hx hb dX9_change_13 (by decide) (fun hc => ?_) (fun hc => ?_)
    · have h := ifp hc h
      refine lv_iconst (v := 0) hx hb dX9_change_20 (by decide) ?_
      exact hj21 p1 p2 0 σ9 _ _ _ h hV (lv_sub hl [0, 1, 2] rfl)
    · have h := ifn hc h
      refine lv_iconst (v := 1) hx hb dX9_change_16 (by decide) ?_
      refine lv_goto (tgt := 21) hx hb dX9_change_17 (by decide) ?_
      exact hj21 p1 p2 1 σ9 _ _ _ h hV (lv_sub hl [0, 1, 2] rfl)
  rw [hH, hlocs] at goal
  exact goal
theorem k_X9_change {p : Program} {l : Launch} {e : Env} {R : Room} {s : State} {m : MethodId} {a : Array Value} {below : List Frame} {meth : Method} {c : Code} {H : Heap} {locs : List Loc} {cells slots : Nat} {Q : State → Prop} {cc : ByteArray} {own : String} {nL pc : Nat} {ls : Array Slot} {rest : List Value} {A : Nat → Prop} {E : EV} {X : va_W} {σ : St} {p1 : Int32} {p2 : Int32} {rv : Int32} {σf : St} (h : x_X9_change p1 p2 σ = some (.inl (rv, σf))) (cx : CallFix p m c cc nL s a TBL own) (hV : AtW E (wC E σ ++ X) A s H locs) (hF : FZ E A s s.heap) {idx : Nat} (w1 : Cond.methodLink own idx yX9_change ∈ TBL) (hR : (rm_X9_change).frames + 1 ≤ R.frames ∧ 8 + (3 + 11) + (rm_X9_change).locals ≤ R.locals) (hcs : cells ≤ R.cells ∧ slots ≤ R.slots) (hls : ls.size = nL) (hcat : (rest.map fun v => v.category).sum ≤ 8) (d : decode cc pc = .ok (.invokevirtual idx, 3)) (kk : ∀ (H1 : Heap) (locs1 : List Loc), AtW E (wC E σf ++ X) A s H1 locs1 → W p l e R s m a below meth c H1 locs1 cells slots Q (F0 m (pc + 3) ls (.int rv :: rest))) : W p l e R s m a below meth c H locs cells slots Q (F0 m pc ls (.int p2 :: .int p1 :: .ref (eA E 0) :: rest)) :=
  r_callFi (n := 2) (As := [.int p1, .int p2]) (q0 := 0) (ci := 9) (qq := (RX9, TX9, 14)) (c_X9_change h) wC_fst rfl rfl mk_5_78 mk_5_79 mk_1_1 mk_5_80 (by decide +kernel) rfl ⟨rfl, rfl⟩ cx hV hF w1 hR hcs hls rfl hcat d kk
theorem kx_X9_change {p : Program} {l : Launch} {e : Env} {R : Room} {s : State} {m : MethodId} {a : Array Value} {below : List Frame} {meth : Method} {c : Code} {H : Heap} {locs : List Loc} {cc : ByteArray} {own : String} {nL pc : Nat} {ls : Array Slot} {rest : List Value} {A : Nat → Prop} {E : EV} {X : va_W} {σ : St} {p1 : Int32} {p2 : Int32} (hT : l.stackTraces = false) {nx : Nat} {σf : St} (h : x_X9_change p1 p2 σ = some (.inr (nx, σf))) (cx : CallFix p m c cc nL s a TBL own) (hV : AtW E (wC E σ ++ X) A s H locs) (hF : FZ E A s s.heap) (hx0 : ∀ x ∈ c.exceptionTable.toList, False) (hlk : meth.locks = false) {idx : Nat} (w1 : Cond.methodLink own idx yX9_change ∈ TBL) (hR : (rmx_X9_change).frames + 1 ≤ R.frames ∧ 8 + (3 + 11) + (rmx_X9_change).locals ≤ R.locals) (hcs : 1 ≤ R.cells ∧ 6 ≤ R.slots) (hls : ls.size = nL) (hcat : (rest.map fun v => v.category).sum ≤ 8) (d : decode cc pc = .ok (.invokevirtual idx, 3)) : W p l e R s m a below meth c H locs 0 0 (EX E (wC E σf ++ X) (exN nx) A s a below) (F0 m pc ls (.int p2 :: .int p1 :: .ref (eA E 0) :: rest)) :=
  r_callx (n := 2) (As := [.int p1, .int p2]) (q0 := 0) (ci := 9) (qq := (RX9, TX9, 14)) (t_X9_change hT h) rfl rfl mk_5_78 mk_5_79 mk_1_1 mk_5_80 (by decide +kernel) rfl ⟨rfl, rfl⟩ cx hV hF hx0 hlk w1 hR hcs hls rfl hcat d
def x_X9_wander_b26 (w1 : Int32) (w2 : Int32) (w3 : Int32) (σ4 : St) : Option ((Int32 × St) ⊕ (Nat × St)) :=
  bt (x_X9_need w3 σ4) fun σ5 =>
  bd (x_X2_placeOf 18 w1 σ5) fun v6 =>
  bd (x_X2_shift 18 v6 w2 σ5) fun σ7 =>
  some (.inl (v6, σ7))
def x_X9_wander_b25 (w8 : Int32) (w9 : Int32) (σ10 : St) : Option ((Int32 × St) ⊕ (Nat × St)) :=
  x_X9_wander_b26 w8 w9 0 σ10
def x_X9_wander (p1 : Int32) (p2 : Int32) (σ : St) : Option ((Int32 × St) ⊕ (Nat × St)) :=
  bt (x_X9_needCrate p1 σ) fun σ11 =>
  (if p2 < 0 then
  x_X9_wander_b25 p1 p2 σ11
  else
  (if (gI σ11 0) ≤ p2 then
  x_X9_wander_b25 p1 p2 σ11
  else
  x_X9_wander_b26 p1 p2 1 σ11))
abbrev rm_X9_wander : Room := { frames := 3, cells := 0, slots := 0, locals := 65 }
abbrev rmx_X9_wander : Room := { frames := 7, cells := 1, slots := 6, locals := 103 }
set_option maxHeartbeats 4000000 in
set_option maxRecDepth 100000 in
theorem c_X9_wander {l : Launch} {E : EV} {X : va_W} {σ : St} {p1 : Int32} {p2 : Int32} {rv : Int32} {σf : St} (h : x_X9_wander p1 p2 σ = some (.inl (rv, σf))) : CMF l yX9_wander cX9_wander 4 (some .int) rm_X9_wander [.ref (eA E 0), .int p1, .int p2] E (wC E σ ++ X) (wC E σf ++ X) (qI rv) := by
  refine CMF.start (by decide) (Nat.le_of_ble_eq_true rfl) (fun p e s m a below meth c A ls cx hr hlk hV hF hl => ?_)
  have cx : CallFix p m c cX9_wander 4 s a TBL RX9 := cx
  have hx := cx.1
  have hb := cx.2.1
  have hl : lv_has ls 4 [(0, .ref (eA E 0)), (1, .int p1), (2, .int p2)] := hl
  generalize hQ : EQ E (wC E σf ++ X) (qI rv) A s a below = QQ
  obtain ⟨H, hH⟩ : ∃ H, H = s.heap := ⟨_, rfl⟩
  obtain ⟨locs, hlocs⟩ : ∃ z, z = ([] : List Loc) := ⟨_, rfl⟩
  have hV : AtW E (wC E σ ++ X) A s H locs := by rw [hH, hlocs]; exact hV
  have goal : W p l e rm_X9_wander s m a below meth c H locs 0 0 QQ (F0 m 0 ls []) := by
    unfold x_X9_wander at h
    have hj26 : ∀ (w1 : Int32) (w2 : Int32) (w3 : Int32) (σ4 : St) (H : Heap) (locs : List Loc) (ls : Array Slot), x_X9_wander_b26 w1 w2 w3 σ4 = some (.inl (rv, σf)) → AtW E (wC E σ4 ++ X) A s H locs → lv_has ls 4 [(0, .ref (eA E 0)), (1, .int w1), (2, .int w2)] → W p l e rm_X9_wander s m a below meth c H locs 0 0 QQ (F0 m 26 ls [.int w3, .ref (eA E 0)]) := by
      intro w1 w2 w3 σ4 H locs ls h hV hl
      unfold x_X9_wander_b26 at h
      refine bt_e h (fun σ5 hq h => ?_) (fun q hq h => ?_)
      rotate_left
      · exact (inrl' h).elim
      refine k_X9_need hq cx hV hF mk_3_178 ⟨Nat.le_of_ble_eq_true rfl, Nat.le_of_ble_eq_true rfl⟩ ⟨Nat.zero_le _, Nat.zero_le _⟩ hl.1 (Nat.le_of_ble_eq_true rfl) dX9_wander_26 (fun H locs hV => ?_)
      refine lv_aload_n hx hb dX9_wander_29 rfl (lv_at hl 0 rfl) ?_
      refine G_X9_stock cx hV mk_2_142 dX9_wander_30 ?_
      refine G_X5_dividers cx hV (by decide) mk_1_131 dX9_wander_33 ?_
      refine lv_iload_n hx hb dX9_wander_36 rfl (lv_at hl 1 rfl) ?_
      refine bd_e h (fun v6 hq h => ?_)
      refine k_X2_placeOf (by decide) hq cx hV mk_5_89 ⟨Nat.le_of_ble_eq_true rfl, Nat.le_of_ble_eq_true rfl⟩ ⟨Nat.zero_le _, Nat.zero_le _⟩ hl.1 (Nat.le_of_ble_eq_true rfl) dX9_wander_37 (fun H locs hV => ?_)
      refine lv_istore_n (lv' := [(3, .int v6), (0, .ref (eA E 0)), (1, .int w1), (2, .int w2)]) hx hb dX9_wander_40 rfl hl (by decide) rfl (fun ls hl => ?_)
      refine lv_aload_n hx hb dX9_wander_41 rfl (lv_at hl 1 rfl) ?_
      refine G_X9_stock cx hV mk_2_142 dX9_wander_42 ?_
      refine G_X5_dividers cx hV (by decide) mk_1_131 dX9_wander_45 ?_
      refine lv_iload_n hx hb dX9_wander_48 rfl (lv_at hl 0 rfl) ?_
      refine lv_iload_n hx hb dX9_wander_49 rfl (lv_at hl 3 rfl) ?_
      refine bd_e h (fun σ7 hq h => ?_)
      refine k_X2_shift (by decide) hq cx hV mk_5_90 ⟨Nat.le_of_ble_eq_true rfl, Nat.le_of_ble_eq_true rfl⟩ ⟨Nat.zero_le _, Nat.zero_le _⟩ hl.1 (Nat.le_of_ble_eq_true rfl) dX9_wander_50 (fun H locs hV => ?_)
      refine lv_iload_n hx hb dX9_wander_53 rfl (lv_at hl 0 rfl) ?_
      have h := congrArg some (Sum.inl.inj (Option.some.inj h))
      obtain ⟨h1, h2⟩ := Prod.mk.inj (Option.some.inj h)
      subst h1
      subst h2
      subst hQ
      exact r_ireti cx hr hlk hV dX9_wander_54
    have hj25 : ∀ (w8 : Int32) (w9 : Int32) (σ10 : St) (H : Heap) (locs : List Loc) (ls : Array Slot), x_X9_wander_b25 w8 w9 σ10 = some (.inl (rv, σf)) → AtW E (wC E σ10 ++ X) A s H locs → lv_has ls 4 [(0, .ref (eA E 0)), (1, .int w8), (2, .int w9)] → W p l e rm_X9_wander s m a below meth c H locs 0 0 QQ (F0 m 25 ls [.ref (eA E 0)]) := by
      intro w8 w9 σ10 H locs ls h hV hl
      unfold x_X9_wander_b25 at h
      refine lv_iconst (v := 0) hx hb dX9_wander_25 (by decide) ?_
      exact hj26 w8 w9 0 σ10 _ _ _ h hV (lv_sub hl [0, 1, 2] rfl)
    refine lv_aload_n hx hb dX9_wander_0 rfl (lv_at hl 0 rfl) ?_
    refine lv_iload_n hx hb dX9_wander_1 rfl (lv_at hl 1 rfl) ?_
    refine bt_e h (fun σ11 hq h => ?_) (fun q hq h => ?_)
    rotate_left
    · exact (inrl' h).elim
    refine k_X9_needCrate hq cx hV hF mk_4_197 ⟨Nat.le_of_ble_eq_true rfl, Nat.le_of_ble_eq_true rfl⟩ ⟨Nat.zero_le _, Nat.zero_le _⟩ hl.1 (Nat.le_of_ble_eq_true rfl) dX9_wander_2 (fun H locs hV => ?_)
    refine lv_aload_n hx hb dX9_wander_5 rfl (lv_at hl 0 rfl) ?_
    refine lv_iload_n hx hb dX9_wander_6 rfl (lv_at hl 2 rfl) ?_
    refine lv_if_lt (tgt := 25) hx hb dX9_wander_7 (by decide) (fun hc => ?_) (fun hc => ?_)
    · have h := ifp hc h
      exact hj25 p1 p2 σ11 _ _ _ h hV (lv_sub hl [0, 1, 2] rfl)
    · have h := ifn hc h
      refine lv_iload_n hx hb dX9_wander_10 rfl (lv_at hl 2 rfl) ?_
      refine lv_aload_n hx hb dX9_wander_11 rfl (lv_at hl 0 rfl) ?_
      refine G_X9_told cx hV mk_2_141 dX9_wander_12 ?_
      refine G_X7_crates cx hV (by decide) mk_1_54 dX9_wander_15 ?_
      refine lv_icmp_ge (tgt := 25) hx hb dX9_wander_18 (by decide) (fun hc => ?_) (fun hc => ?_)
      · have h := ifp hc h
        exact hj25 p1 p2 σ11 _ _ _ h hV (lv_sub hl [0, 1, 2] rfl)
      · have h := ifn hc h
        refine lv_iconst (v := 1) hx hb dX9_wander_21 (by decide) ?_
        refine lv_goto (tgt := 26) hx hb dX9_wander_22 (by decide) ?_
        exact hj26 p1 p2 1 σ11 _ _ _ h hV (lv_sub hl [0, 1, 2] rfl)
  rw [hH, hlocs] at goal
  exact goal
set_option maxHeartbeats 4000000 in
set_option maxRecDepth 100000 in
theorem t_X9_wander {l : Launch} (hT : l.stackTraces = false) {E : EV} {X : va_W} {σ : St} {p1 : Int32} {p2 : Int32} {nx : Nat} {σf : St} (h : x_X9_wander p1 p2 σ = some (.inr (nx, σf))) : CXF l yX9_wander cX9_wander 4 (some .int) rmx_X9_wander [.ref (eA E 0), .int p1, .int p2] E (wC E σ ++ X) (wC E σf ++ X) (exN nx) := by
  refine CXF.start (by decide) (Nat.le_of_ble_eq_true rfl) (fun p e s m a below meth c A ls cx hx0 hlk hV hF hl => ?_)
  have cx : CallFix p m c cX9_wander 4 s a TBL RX9 := cx
  have hx := cx.1
  have hb := cx.2.1
  have hl : lv_has ls 4 [(0, .ref (eA E 0)), (1, .int p1), (2, .int p2)] := hl
  generalize hQ : EX E (wC E σf ++ X) (exN nx) A s a below = QQ
  obtain ⟨H, hH⟩ : ∃ H, H = s.heap := ⟨_, rfl⟩
  obtain ⟨locs, hlocs⟩ : ∃ z, z = ([] : List Loc) := ⟨_, rfl⟩
  have hV : AtW E (wC E σ ++ X) A s H locs := by rw [hH, hlocs]; exact hV
  have goal : W p l e rmx_X9_wander s m a below meth c H locs 0 0 QQ (F0 m 0 ls []) := by
    unfold x_X9_wander at h
    have hj26 : ∀ (w1 : Int32) (w2 : Int32) (w3 : Int32) (σ4 : St) (H : Heap) (locs : List Loc) (ls : Array Slot), x_X9_wander_b26 w1 w2 w3 σ4 = some (.inr (nx, σf)) → AtW E (wC E σ4 ++ X) A s H locs → lv_has ls 4 [(0, .ref (eA E 0)), (1, .int w1), (2, .int w2)] → W p l e rmx_X9_wander s m a below meth c H locs 0 0 QQ (F0 m 26 ls [.int w3, .ref (eA E 0)]) := by
      intro w1 w2 w3 σ4 H locs ls h hV hl
      unfold x_X9_wander_b26 at h
      refine bt_e h (fun σ5 hq h => ?_) (fun q hq h => ?_)
      rotate_left
      · have h := Sum.inr.inj h
        subst h
        subst hQ
        exact kx_X9_need hT hq cx hV hF hx0 hlk mk_3_178 ⟨Nat.le_of_ble_eq_true rfl, Nat.le_of_ble_eq_true rfl⟩ ⟨Nat.le_of_ble_eq_true rfl, Nat.le_of_ble_eq_true rfl⟩ hl.1 (Nat.le_of_ble_eq_true rfl) dX9_wander_26
      refine k_X9_need hq cx hV hF mk_3_178 ⟨Nat.le_of_ble_eq_true rfl, Nat.le_of_ble_eq_true rfl⟩ ⟨Nat.zero_le _, Nat.zero_le _⟩ hl.1 (Nat.le_of_ble_eq_true rfl) dX9_wander_26 (fun H locs hV => ?_)
      refine lv_aload_n hx hb dX9_wander_29 rfl (lv_at hl 0 rfl) ?_
      refine G_X9_stock cx hV mk_2_142 dX9_wander_30 ?_
      refine G_X5_dividers cx hV (by decide) mk_1_131 dX9_wander_33 ?_
      refine lv_iload_n hx hb dX9_wander_36 rfl (lv_at hl 1 rfl) ?_
      refine bd_e h (fun v6 hq h => ?_)
      refine k_X2_placeOf (by decide) hq cx hV mk_5_89 ⟨Nat.le_of_ble_eq_true rfl, Nat.le_of_ble_eq_true rfl⟩ ⟨Nat.zero_le _, Nat.zero_le _⟩ hl.1 (Nat.le_of_ble_eq_true rfl) dX9_wander_37 (fun H locs hV => ?_)
      refine lv_istore_n (lv' := [(3, .int v6), (0, .ref (eA E 0)), (1, .int w1), (2, .int w2)]) hx hb dX9_wander_40 rfl hl (by decide) rfl (fun ls hl => ?_)
      refine lv_aload_n hx hb dX9_wander_41 rfl (lv_at hl 1 rfl) ?_
      refine G_X9_stock cx hV mk_2_142 dX9_wander_42 ?_
      refine G_X5_dividers cx hV (by decide) mk_1_131 dX9_wander_45 ?_
      refine lv_iload_n hx hb dX9_wander_48 rfl (lv_at hl 0 rfl) ?_
      refine lv_iload_n hx hb dX9_wander_49 rfl (lv_at hl 3 rfl) ?_
      refine bd_e h (fun σ7 hq h => ?_)
      refine k_X2_shift (by decide) hq cx hV mk_5_90 ⟨Nat.le_of_ble_eq_true rfl, Nat.le_of_ble_eq_true rfl⟩ ⟨Nat.zero_le _, Nat.zero_le _⟩ hl.1 (Nat.le_of_ble_eq_true rfl) dX9_wander_50 (fun H locs hV => ?_)
      refine lv_iload_n hx hb dX9_wander_53 rfl (lv_at hl 0 rfl) ?_
      exact (inlr h).elim
    have hj25 : ∀ (w8 : Int32) (w9 : Int32) (σ10 : St) (H : Heap) (locs : List Loc) (ls : Array Slot), x_X9_wander_b25 w8 w9 σ10 = some (.inr (nx, σf)) → AtW E (wC E σ10 ++ X) A s H locs → lv_has ls 4 [(0, .ref (eA E 0)), (1, .int w8), (2, .int w9)] → W p l e rmx_X9_wander s m a below meth c H locs 0 0 QQ (F0 m 25 ls [.ref (eA E 0)]) := by
      intro w8 w9 σ10 H locs ls h hV hl
      unfold x_X9_wander_b25 at h
      refine lv_iconst (v := 0) hx hb dX9_wander_25 (by decide) ?_
      exact hj26 w8 w9 0 σ10 _ _ _ h hV (lv_sub hl [0, 1, 2] rfl)
    refine lv_aload_n hx hb dX9_wander_0 rfl (lv_at hl 0 rfl) ?_
    refine lv_iload_n hx hb dX9_wander_1 rfl (lv_at hl 1 rfl) ?_
    refine bt_e h (fun σ11 hq h => ?_) (fun q hq h => ?_)
    rotate_left
    · have h := Sum.inr.inj h
      subst h
      subst hQ
      exact kx_X9_needCrate hT hq cx hV hF hx0 hlk mk_4_197 ⟨Nat.le_of_ble_eq_true rfl, Nat.le_of_ble_eq_true rfl⟩ ⟨Nat.le_of_ble_eq_true rfl, Nat.le_of_ble_eq_true rfl⟩ hl.1 (Nat.le_of_ble_eq_true rfl) dX9_wander_2
    refine k_X9_needCrate hq cx hV hF mk_4_197 ⟨Nat.le_of_ble_eq_true rfl, Nat.le_of_ble_eq_true rfl⟩ ⟨Nat.zero_le _, Nat.zero_le _⟩ hl.1 (Nat.le_of_ble_eq_true rfl) dX9_wander_2 (fun H locs hV => ?_)
    refine lv_aload_n hx hb dX9_wander_5 rfl (lv_at hl 0 rfl) ?_
    refine lv_iload_n hx hb dX9_wander_6 rfl (lv_at hl 2 rfl) ?_
    refine lv_if_lt (tgt := 25) hx hb dX9_wander_7 (by decide) (fun hc => ?_) (fun hc => ?_)
    · have h := ifp hc h
      exact hj25 p1 p2 σ11 _ _ _ h hV (lv_sub hl [0, 1, 2] rfl)
    · have h := ifn hc h
      refine lv_iload_n hx hb dX9_wander_10 rfl (lv_at hl 2 rfl) ?_
      refine lv_aload_n hx hb dX9_wander_11 rfl (lv_at hl 0 rfl) ?_
      refine G_X9_told cx hV mk_2_141 dX9_wander_12 ?_
      refine G_X7_crates cx hV (by decide) mk_1_54 dX9_wander_15 ?_
      refine lv_icmp_ge (tgt := 25) hx hb dX9_wander_18 (by decide) (fun hc => ?_) (fun hc => ?_)
      · have h := ifp hc h
        exact hj25 p1 p2 σ11 _ _ _ h hV (lv_sub hl [0, 1, 2] rfl)
      · have h := ifn hc h
        refine lv_iconst (v := 1) hx hb dX9_wander_21 (by decide) ?_
        refine lv_goto (tgt := 26) hx hb dX9_wander_22 (by decide) ?_
        exact hj26 p1 p2 1 σ11 _ _ _ h hV (lv_sub hl [0, 1, 2] rfl)
  rw [hH, hlocs] at goal
  exact goal
theorem k_X9_wander {p : Program} {l : Launch} {e : Env} {R : Room} {s : State} {m : MethodId} {a : Array Value} {below : List Frame} {meth : Method} {c : Code} {H : Heap} {locs : List Loc} {cells slots : Nat} {Q : State → Prop} {cc : ByteArray} {own : String} {nL pc : Nat} {ls : Array Slot} {rest : List Value} {A : Nat → Prop} {E : EV} {X : va_W} {σ : St} {p1 : Int32} {p2 : Int32} {rv : Int32} {σf : St} (h : x_X9_wander p1 p2 σ = some (.inl (rv, σf))) (cx : CallFix p m c cc nL s a TBL own) (hV : AtW E (wC E σ ++ X) A s H locs) (hF : FZ E A s s.heap) {idx : Nat} (w1 : Cond.methodLink own idx yX9_wander ∈ TBL) (hR : (rm_X9_wander).frames + 1 ≤ R.frames ∧ 8 + (4 + 11) + (rm_X9_wander).locals ≤ R.locals) (hcs : cells ≤ R.cells ∧ slots ≤ R.slots) (hls : ls.size = nL) (hcat : (rest.map fun v => v.category).sum ≤ 8) (d : decode cc pc = .ok (.invokevirtual idx, 3)) (kk : ∀ (H1 : Heap) (locs1 : List Loc), AtW E (wC E σf ++ X) A s H1 locs1 → W p l e R s m a below meth c H1 locs1 cells slots Q (F0 m (pc + 3) ls (.int rv :: rest))) : W p l e R s m a below meth c H locs cells slots Q (F0 m pc ls (.int p2 :: .int p1 :: .ref (eA E 0) :: rest)) :=
  r_callFi (n := 2) (As := [.int p1, .int p2]) (q0 := 0) (ci := 9) (qq := (RX9, TX9, 14)) (c_X9_wander h) wC_fst rfl rfl mk_5_86 mk_5_87 mk_1_1 mk_5_88 (by decide +kernel) rfl ⟨rfl, rfl⟩ cx hV hF w1 hR hcs hls rfl hcat d kk
theorem kx_X9_wander {p : Program} {l : Launch} {e : Env} {R : Room} {s : State} {m : MethodId} {a : Array Value} {below : List Frame} {meth : Method} {c : Code} {H : Heap} {locs : List Loc} {cc : ByteArray} {own : String} {nL pc : Nat} {ls : Array Slot} {rest : List Value} {A : Nat → Prop} {E : EV} {X : va_W} {σ : St} {p1 : Int32} {p2 : Int32} (hT : l.stackTraces = false) {nx : Nat} {σf : St} (h : x_X9_wander p1 p2 σ = some (.inr (nx, σf))) (cx : CallFix p m c cc nL s a TBL own) (hV : AtW E (wC E σ ++ X) A s H locs) (hF : FZ E A s s.heap) (hx0 : ∀ x ∈ c.exceptionTable.toList, False) (hlk : meth.locks = false) {idx : Nat} (w1 : Cond.methodLink own idx yX9_wander ∈ TBL) (hR : (rmx_X9_wander).frames + 1 ≤ R.frames ∧ 8 + (4 + 11) + (rmx_X9_wander).locals ≤ R.locals) (hcs : 1 ≤ R.cells ∧ 6 ≤ R.slots) (hls : ls.size = nL) (hcat : (rest.map fun v => v.category).sum ≤ 8) (d : decode cc pc = .ok (.invokevirtual idx, 3)) : W p l e R s m a below meth c H locs 0 0 (EX E (wC E σf ++ X) (exN nx) A s a below) (F0 m pc ls (.int p2 :: .int p1 :: .ref (eA E 0) :: rest)) :=
  r_callx (n := 2) (As := [.int p1, .int p2]) (q0 := 0) (ci := 9) (qq := (RX9, TX9, 14)) (t_X9_wander hT h) rfl rfl mk_5_86 mk_5_87 mk_1_1 mk_5_88 (by decide +kernel) rfl ⟨rfl, rfl⟩ cx hV hF hx0 hlk w1 hR hcs hls rfl hcat d
def x_X9_day (p1 : Int32) (σ : St) : Option (Int32 × St) :=
  bd (x_X7_leftBits 0 σ) fun v1 =>
  bd (x_X1_go p1 v1 0 σ) fun σ2 =>
  bd (x_X5_copy 0 4 σ2) fun σ3 =>
  bd (x_X2_sum 36 σ3) fun v4 =>
  some (v4, σ3)
abbrev rm_X9_day : Room := { frames := 7, cells := 0, slots := 0, locals := 168 }
set_option maxHeartbeats 4000000 in
set_option maxRecDepth 100000 in
theorem c_X9_day {l : Launch} {E : EV} {X : va_W} {σ : St} {p1 : Int32} {rv : Int32} {σf : St} (h : x_X9_day p1 σ = some (rv, σf)) : CM l yX9_day cX9_day 2 (some .int) rm_X9_day [.ref (eA E 0), .int p1] E (wC E σ ++ X) (wC E σf ++ X) (qI rv) := by
  refine CM.start (by decide) (Nat.le_of_ble_eq_true rfl) (fun p e s m a below meth c A ls cx hr hlk hV hl => ?_)
  have cx : CallFix p m c cX9_day 2 s a TBL RX9 := cx
  have hx := cx.1
  have hb := cx.2.1
  have hl : lv_has ls 2 [(0, .ref (eA E 0)), (1, .int p1)] := hl
  generalize hQ : EQ E (wC E σf ++ X) (qI rv) A s a below = QQ
  obtain ⟨H, hH⟩ : ∃ H, H = s.heap := ⟨_, rfl⟩
  obtain ⟨locs, hlocs⟩ : ∃ z, z = ([] : List Loc) := ⟨_, rfl⟩
  have hV : AtW E (wC E σ ++ X) A s H locs := by rw [hH, hlocs]; exact hV
  have goal : W p l e rm_X9_day s m a below meth c H locs 0 0 QQ (F0 m 0 ls []) := by
    unfold x_X9_day at h
    refine lv_aload_n hx hb dX9_day_0 rfl (lv_at hl 0 rfl) ?_
    refine G_X9_theDay cx hV mk_2_147 dX9_day_1 ?_
    refine lv_iload_n hx hb dX9_day_4 rfl (lv_at hl 1 rfl) ?_
    refine lv_aload_n hx hb dX9_day_5 rfl (lv_at hl 0 rfl) ?_
    refine G_X9_told cx hV mk_2_141 dX9_day_6 ?_
    refine bd_e h (fun v1 hq h => ?_)
    refine k_X7_leftBits (by decide) hq cx hV mk_2_198 ⟨Nat.le_of_ble_eq_true rfl, Nat.le_of_ble_eq_true rfl⟩ ⟨Nat.zero_le _, Nat.zero_le _⟩ hl.1 (Nat.le_of_ble_eq_true rfl) dX9_day_9 (fun H locs hV => ?_)
    refine lv_iconst (v := 0) hx hb dX9_day_12 (by decide) ?_
    refine bd_e h (fun σ2 hq h => ?_)
    refine k_X1_go hq cx hV mk_2_207 ⟨Nat.le_of_ble_eq_true rfl, Nat.le_of_ble_eq_true rfl⟩ ⟨Nat.zero_le _, Nat.zero_le _⟩ hl.1 (Nat.le_of_ble_eq_true rfl) dX9_day_13 (fun H locs hV => ?_)
    refine lv_aload_n hx hb dX9_day_16 rfl (lv_at hl 0 rfl) ?_
    refine G_X9_stock cx hV mk_2_142 dX9_day_17 ?_
    refine lv_aload_n hx hb dX9_day_20 rfl (lv_at hl 0 rfl) ?_
    refine G_X9_theDay cx hV mk_2_147 dX9_day_21 ?_
    refine G_X1_stock cx hV mk_1_191 dX9_day_24 ?_
    refine bd_e h (fun σ3 hq h => ?_)
    refine k_X5_copy (by decide) (by decide) hq cx hV mk_3_87 ⟨Nat.le_of_ble_eq_true rfl, Nat.le_of_ble_eq_true rfl⟩ ⟨Nat.zero_le _, Nat.zero_le _⟩ hl.1 (Nat.le_of_ble_eq_true rfl) dX9_day_27 (fun H locs hV => ?_)
    refine lv_aload_n hx hb dX9_day_30 rfl (lv_at hl 0 rfl) ?_
    refine G_X9_theDay cx hV mk_2_147 dX9_day_31 ?_
    refine G_X1_bought cx hV mk_1_193 dX9_day_34 ?_
    refine bd_e h (fun v4 hq h => ?_)
    refine k_X2_sum (by decide) hq cx hV mk_3_88 ⟨Nat.le_of_ble_eq_true rfl, Nat.le_of_ble_eq_true rfl⟩ ⟨Nat.zero_le _, Nat.zero_le _⟩ hl.1 (Nat.le_of_ble_eq_true rfl) dX9_day_37 (fun H locs hV => ?_)
    obtain ⟨h1, h2⟩ := Prod.mk.inj (Option.some.inj h)
    subst h1
    subst h2
    subst hQ
    exact r_ireti cx hr hlk hV dX9_day_40
  rw [hH, hlocs] at goal
  exact goal
theorem k_X9_day {p : Program} {l : Launch} {e : Env} {R : Room} {s : State} {m : MethodId} {a : Array Value} {below : List Frame} {meth : Method} {c : Code} {H : Heap} {locs : List Loc} {cells slots : Nat} {Q : State → Prop} {cc : ByteArray} {own : String} {nL pc : Nat} {ls : Array Slot} {rest : List Value} {A : Nat → Prop} {E : EV} {X : va_W} {σ : St} {p1 : Int32} {rv : Int32} {σf : St} (h : x_X9_day p1 σ = some (rv, σf)) (cx : CallFix p m c cc nL s a TBL own) (hV : AtW E (wC E σ ++ X) A s H locs) {idx : Nat} (w1 : Cond.methodLink own idx yX9_day ∈ TBL) (hR : (rm_X9_day).frames + 1 ≤ R.frames ∧ 8 + (2 + 11) + (rm_X9_day).locals ≤ R.locals) (hcs : cells ≤ R.cells ∧ slots ≤ R.slots) (hls : ls.size = nL) (hcat : (rest.map fun v => v.category).sum ≤ 8) (d : decode cc pc = .ok (.invokevirtual idx, 3)) (kk : ∀ (H1 : Heap) (locs1 : List Loc), AtW E (wC E σf ++ X) A s H1 locs1 → W p l e R s m a below meth c H1 locs1 cells slots Q (F0 m (pc + 3) ls (.int rv :: rest))) : W p l e R s m a below meth c H locs cells slots Q (F0 m pc ls (.int p1 :: .ref (eA E 0) :: rest)) :=
  r_calli (n := 1) (As := [.int p1]) (q0 := 0) (ci := 9) (qq := (RX9, TX9, 14)) (c_X9_day h) wC_fst rfl rfl mk_2_195 mk_2_196 mk_1_1 mk_2_197 (by decide +kernel) rfl ⟨rfl, rfl⟩ cx hV w1 hR hcs hls rfl hcat d kk
def x_X9_would_b15 (w1 : Int32) (w2 : Int32) (w3 : Int32) (σ4 : St) : Option ((Int32 × St) ⊕ (Nat × St)) :=
  bt (x_X9_need w3 σ4) fun σ5 =>
  bd (x_X7_leftBits 0 σ5) fun v6 =>
  bd (x_X1_go w1 v6 0 σ5) fun σ7 =>
  (if w2 = 0 then
  bd (x_X2_sum 36 σ7) fun v8 =>
  some (.inl (v8, σ7))
  else
  (if w2 = 1 then
  bd (x_X2_sum 37 σ7) fun v9 =>
  some (.inl (v9, σ7))
  else
  (if w2 = 2 then
  bd (x_X2_sum 38 σ7) fun v10 =>
  some (.inl (v10, σ7))
  else
  (if w2 = 3 then
  some (.inl ((gI σ7 18), σ7))
  else
  (if w2 = 4 then
  bd (x_X5_allOff 4 0 σ7) fun v11 =>
  some (.inl (v11, σ7))
  else
  bd (x_X1_lastGone σ7) fun v12 =>
  some (.inl (v12, σ7)))))))
def x_X9_would_b14 (w13 : Int32) (w14 : Int32) (σ15 : St) : Option ((Int32 × St) ⊕ (Nat × St)) :=
  x_X9_would_b15 w13 w14 0 σ15
def x_X9_would (p1 : Int32) (p2 : Int32) (σ : St) : Option ((Int32 × St) ⊕ (Nat × St)) :=
  (if p2 < 0 then
  x_X9_would_b14 p1 p2 σ
  else
  (if 5 < p2 then
  x_X9_would_b14 p1 p2 σ
  else
  x_X9_would_b15 p1 p2 1 σ))
abbrev rm_X9_would : Room := { frames := 7, cells := 0, slots := 0, locals := 168 }
abbrev rmx_X9_would : Room := { frames := 7, cells := 1, slots := 6, locals := 168 }
set_option maxHeartbeats 4000000 in
set_option maxRecDepth 100000 in
theorem c_X9_would {l : Launch} {E : EV} {X : va_W} {σ : St} {p1 : Int32} {p2 : Int32} {rv : Int32} {σf : St} (h : x_X9_would p1 p2 σ = some (.inl (rv, σf))) : CMF l yX9_would cX9_would 3 (some .int) rm_X9_would [.ref (eA E 0), .int p1, .int p2] E (wC E σ ++ X) (wC E σf ++ X) (qI rv) := by
  refine CMF.start (by decide) (Nat.le_of_ble_eq_true rfl) (fun p e s m a below meth c A ls cx hr hlk hV hF hl => ?_)
  have cx : CallFix p m c cX9_would 3 s a TBL RX9 := cx
  have hx := cx.1
  have hb := cx.2.1
  have hl : lv_has ls 3 [(0, .ref (eA E 0)), (1, .int p1), (2, .int p2)] := hl
  generalize hQ : EQ E (wC E σf ++ X) (qI rv) A s a below = QQ
  obtain ⟨H, hH⟩ : ∃ H, H = s.heap := ⟨_, rfl⟩
  obtain ⟨locs, hlocs⟩ : ∃ z, z = ([] : List Loc) := ⟨_, rfl⟩
  have hV : AtW E (wC E σ ++ X) A s H locs := by rw [hH, hlocs]; exact hV
  have goal : W p l e rm_X9_would s m a below meth c H locs 0 0 QQ (F0 m 0 ls []) := by
    unfold x_X9_would at h
    have hj15 : ∀ (w1 : Int32) (w2 : Int32) (w3 : Int32) (σ4 : St) (H : Heap) (locs : List Loc) (ls : Array Slot), x_X9_would_b15 w1 w2 w3 σ4 = some (.inl (rv, σf)) → AtW E (wC E σ4 ++ X) A s H locs → lv_has ls 3 [(0, .ref (eA E 0)), (1, .int w1), (2, .int w2)] → W p l e rm_X9_would s m a below meth c H locs 0 0 QQ (F0 m 15 ls [.int w3, .ref (eA E 0)]) := by
      intro w1 w2 w3 σ4 H locs ls h hV hl
      unfold x_X9_would_b15 at h
      refine bt_e h (fun σ5 hq h => ?_) (fun q hq h => ?_)
      rotate_left
      · exact (inrl' h).elim
      refine k_X9_need hq cx hV hF mk_3_178 ⟨Nat.le_of_ble_eq_true rfl, Nat.le_of_ble_eq_true rfl⟩ ⟨Nat.zero_le _, Nat.zero_le _⟩ hl.1 (Nat.le_of_ble_eq_true rfl) dX9_would_15 (fun H locs hV => ?_)
      refine lv_aload_n hx hb dX9_would_18 rfl (lv_at hl 0 rfl) ?_
      refine G_X9_theDay cx hV mk_2_147 dX9_would_19 ?_
      refine lv_iload_n hx hb dX9_would_22 rfl (lv_at hl 1 rfl) ?_
      refine lv_aload_n hx hb dX9_would_23 rfl (lv_at hl 0 rfl) ?_
      refine G_X9_told cx hV mk_2_141 dX9_would_24 ?_
      refine bd_e h (fun v6 hq h => ?_)
      refine k_X7_leftBits (by decide) hq cx hV mk_2_198 ⟨Nat.le_of_ble_eq_true rfl, Nat.le_of_ble_eq_true rfl⟩ ⟨Nat.zero_le _, Nat.zero_le _⟩ hl.1 (Nat.le_of_ble_eq_true rfl) dX9_would_27 (fun H locs hV => ?_)
      refine lv_iconst (v := 0) hx hb dX9_would_30 (by decide) ?_
      refine bd_e h (fun σ7 hq h => ?_)
      refine k_X1_go hq cx hV mk_2_207 ⟨Nat.le_of_ble_eq_true rfl, Nat.le_of_ble_eq_true rfl⟩ ⟨Nat.zero_le _, Nat.zero_le _⟩ hl.1 (Nat.le_of_ble_eq_true rfl) dX9_would_31 (fun H locs hV => ?_)
      refine lv_iload_n hx hb dX9_would_34 rfl (lv_at hl 2 rfl) ?_
      by_cases hc0 : w2 = 0
      · have h := ifp hc0 h
        refine r_swIn (tgt := 68) cx hc0 dX9_would_35 (by decide) (by decide) rfl (by decide) ?_
        refine lv_aload_n hx hb dX9_would_68 rfl (lv_at hl 0 rfl) ?_
        refine G_X9_theDay cx hV mk_2_147 dX9_would_69 ?_
        refine G_X1_bought cx hV mk_1_193 dX9_would_72 ?_
        refine bd_e h (fun v8 hq h => ?_)
        refine k_X2_sum (by decide) hq cx hV mk_3_88 ⟨Nat.le_of_ble_eq_true rfl, Nat.le_of_ble_eq_true rfl⟩ ⟨Nat.zero_le _, Nat.zero_le _⟩ hl.1 (Nat.le_of_ble_eq_true rfl) dX9_would_75 (fun H locs hV => ?_)
        have h := congrArg some (Sum.inl.inj (Option.some.inj h))
        obtain ⟨h1, h2⟩ := Prod.mk.inj (Option.some.inj h)
        subst h1
        subst h2
        subst hQ
        exact r_ireti cx hr hlk hV dX9_would_78
      have h := ifn hc0 h
      by_cases hc1 : w2 = 1
      · have h := ifp hc1 h
        refine r_swIn (tgt := 79) cx hc1 dX9_would_35 (by decide) (by decide) rfl (by decide) ?_
        refine lv_aload_n hx hb dX9_would_79 rfl (lv_at hl 0 rfl) ?_
        refine G_X9_theDay cx hV mk_2_147 dX9_would_80 ?_
        refine G_X1_spent cx hV mk_1_195 dX9_would_83 ?_
        refine bd_e h (fun v9 hq h => ?_)
        refine k_X2_sum (by decide) hq cx hV mk_3_88 ⟨Nat.le_of_ble_eq_true rfl, Nat.le_of_ble_eq_true rfl⟩ ⟨Nat.zero_le _, Nat.zero_le _⟩ hl.1 (Nat.le_of_ble_eq_true rfl) dX9_would_86 (fun H locs hV => ?_)
        have h := congrArg some (Sum.inl.inj (Option.some.inj h))
        obtain ⟨h1, h2⟩ := Prod.mk.inj (Option.some.inj h)
        subst h1
        subst h2
        subst hQ
        exact r_ireti cx hr hlk hV dX9_would_89
      have h := ifn hc1 h
      by_cases hc2 : w2 = 2
      · have h := ifp hc2 h
        refine r_swIn (tgt := 90) cx hc2 dX9_would_35 (by decide) (by decide) rfl (by decide) ?_
        refine lv_aload_n hx hb dX9_would_90 rfl (lv_at hl 0 rfl) ?_
        refine G_X9_theDay cx hV mk_2_147 dX9_would_91 ?_
        refine G_X1_waited cx hV mk_1_197 dX9_would_94 ?_
        refine bd_e h (fun v10 hq h => ?_)
        refine k_X2_sum (by decide) hq cx hV mk_3_88 ⟨Nat.le_of_ble_eq_true rfl, Nat.le_of_ble_eq_true rfl⟩ ⟨Nat.zero_le _, Nat.zero_le _⟩ hl.1 (Nat.le_of_ble_eq_true rfl) dX9_would_97 (fun H locs hV => ?_)
        have h := congrArg some (Sum.inl.inj (Option.some.inj h))
        obtain ⟨h1, h2⟩ := Prod.mk.inj (Option.some.inj h)
        subst h1
        subst h2
        subst hQ
        exact r_ireti cx hr hlk hV dX9_would_100
      have h := ifn hc2 h
      by_cases hc3 : w2 = 3
      · have h := ifp hc3 h
        refine r_swIn (tgt := 101) cx hc3 dX9_would_35 (by decide) (by decide) rfl (by decide) ?_
        refine lv_aload_n hx hb dX9_would_101 rfl (lv_at hl 0 rfl) ?_
        refine G_X9_theDay cx hV mk_2_147 dX9_would_102 ?_
        refine G_X1_heldUp cx hV mk_1_201 dX9_would_105 ?_
        have h := congrArg some (Sum.inl.inj (Option.some.inj h))
        obtain ⟨h1, h2⟩ := Prod.mk.inj (Option.some.inj h)
        subst h1
        subst h2
        subst hQ
        exact r_ireti cx hr hlk hV dX9_would_108
      have h := ifn hc3 h
      by_cases hc4 : w2 = 4
      · have h := ifp hc4 h
        refine r_swIn (tgt := 109) cx hc4 dX9_would_35 (by decide) (by decide) rfl (by decide) ?_
        refine lv_aload_n hx hb dX9_would_109 rfl (lv_at hl 0 rfl) ?_
        refine G_X9_theDay cx hV mk_2_147 dX9_would_110 ?_
        refine G_X1_stock cx hV mk_1_191 dX9_would_113 ?_
        refine lv_aload_n hx hb dX9_would_116 rfl (lv_at hl 0 rfl) ?_
        refine G_X9_told cx hV mk_2_141 dX9_would_117 ?_
        refine bd_e h (fun v11 hq h => ?_)
        refine k_X5_allOff (by decide) (by decide) hq cx hV mk_3_116 ⟨Nat.le_of_ble_eq_true rfl, Nat.le_of_ble_eq_true rfl⟩ ⟨Nat.zero_le _, Nat.zero_le _⟩ hl.1 (Nat.le_of_ble_eq_true rfl) dX9_would_120 (fun H locs hV => ?_)
        have h := congrArg some (Sum.inl.inj (Option.some.inj h))
        obtain ⟨h1, h2⟩ := Prod.mk.inj (Option.some.inj h)
        subst h1
        subst h2
        subst hQ
        exact r_ireti cx hr hlk hV dX9_would_123
      have h := ifn hc4 h
      have hout : (w2).toInt < 0 ∨ 4 < (w2).toInt := by
        have g0 := lv_neT hc0 (a := 0) rfl
        have g1 := lv_neT hc1 (a := 1) rfl
        have g2 := lv_neT hc2 (a := 2) rfl
        have g3 := lv_neT hc3 (a := 3) rfl
        have g4 := lv_neT hc4 (a := 4) rfl
        omega
      refine lv_tableOut (tgt := 124) hx hb dX9_would_35 hout (by decide) ?_
      refine lv_aload_n hx hb dX9_would_124 rfl (lv_at hl 0 rfl) ?_
      refine G_X9_theDay cx hV mk_2_147 dX9_would_125 ?_
      refine bd_e h (fun v12 hq h => ?_)
      refine k_X1_lastGone hq cx hV mk_5_98 ⟨Nat.le_of_ble_eq_true rfl, Nat.le_of_ble_eq_true rfl⟩ ⟨Nat.zero_le _, Nat.zero_le _⟩ hl.1 (Nat.le_of_ble_eq_true rfl) dX9_would_128 (fun H locs hV => ?_)
      have h := congrArg some (Sum.inl.inj (Option.some.inj h))
      obtain ⟨h1, h2⟩ := Prod.mk.inj (Option.some.inj h)
      subst h1
      subst h2
      subst hQ
      exact r_ireti cx hr hlk hV dX9_would_131
    have hj14 : ∀ (w13 : Int32) (w14 : Int32) (σ15 : St) (H : Heap) (locs : List Loc) (ls : Array Slot), x_X9_would_b14 w13 w14 σ15 = some (.inl (rv, σf)) → AtW E (wC E σ15 ++ X) A s H locs → lv_has ls 3 [(0, .ref (eA E 0)), (1, .int w13), (2, .int w14)] → W p l e rm_X9_would s m a below meth c H locs 0 0 QQ (F0 m 14 ls [.ref (eA E 0)]) := by
      intro w13 w14 σ15 H locs ls h hV hl
      unfold x_X9_would_b14 at h
      refine lv_iconst (v := 0) hx hb dX9_would_14 (by decide) ?_
      exact hj15 w13 w14 0 σ15 _ _ _ h hV (lv_sub hl [0, 1, 2] rfl)
    refine lv_aload_n hx hb dX9_would_0 rfl (lv_at hl 0 rfl) ?_
    refine lv_iload_n hx hb dX9_would_1 rfl (lv_at hl 2 rfl) ?_
    refine lv_if_lt (tgt := 14) hx hb dX9_would_2 (by decide) (fun hc => ?_) (fun hc => ?_)
    · have h := ifp hc h
      exact hj14 p1 p2 σ _ _ _ h hV (lv_sub hl [0, 1, 2] rfl)
    · have h := ifn hc h
      refine lv_iload_n hx hb dX9_would_5 rfl (lv_at hl 2 rfl) ?_
      refine lv_iconst (v := 5) hx hb dX9_would_6 (by decide) ?_
      refine lv_icmp_gt (tgt := 14) hx hb dX9_would_7 (by decide) (fun hc => ?_) (fun hc => ?_)
      · have h := ifp hc h
        exact hj14 p1 p2 σ _ _ _ h hV (lv_sub hl [0, 1, 2] rfl)
      · have h := ifn hc h
        refine lv_iconst (v := 1) hx hb dX9_would_10 (by decide) ?_
        refine lv_goto (tgt := 15) hx hb dX9_would_11 (by decide) ?_
        exact hj15 p1 p2 1 σ _ _ _ h hV (lv_sub hl [0, 1, 2] rfl)
  rw [hH, hlocs] at goal
  exact goal
set_option maxHeartbeats 4000000 in
set_option maxRecDepth 100000 in
theorem t_X9_would {l : Launch} (hT : l.stackTraces = false) {E : EV} {X : va_W} {σ : St} {p1 : Int32} {p2 : Int32} {nx : Nat} {σf : St} (h : x_X9_would p1 p2 σ = some (.inr (nx, σf))) : CXF l yX9_would cX9_would 3 (some .int) rmx_X9_would [.ref (eA E 0), .int p1, .int p2] E (wC E σ ++ X) (wC E σf ++ X) (exN nx) := by
  refine CXF.start (by decide) (Nat.le_of_ble_eq_true rfl) (fun p e s m a below meth c A ls cx hx0 hlk hV hF hl => ?_)
  have cx : CallFix p m c cX9_would 3 s a TBL RX9 := cx
  have hx := cx.1
  have hb := cx.2.1
  have hl : lv_has ls 3 [(0, .ref (eA E 0)), (1, .int p1), (2, .int p2)] := hl
  generalize hQ : EX E (wC E σf ++ X) (exN nx) A s a below = QQ
  obtain ⟨H, hH⟩ : ∃ H, H = s.heap := ⟨_, rfl⟩
  obtain ⟨locs, hlocs⟩ : ∃ z, z = ([] : List Loc) := ⟨_, rfl⟩
  have hV : AtW E (wC E σ ++ X) A s H locs := by rw [hH, hlocs]; exact hV
  have goal : W p l e rmx_X9_would s m a below meth c H locs 0 0 QQ (F0 m 0 ls []) := by
    unfold x_X9_would at h
    have hj15 : ∀ (w1 : Int32) (w2 : Int32) (w3 : Int32) (σ4 : St) (H : Heap) (locs : List Loc) (ls : Array Slot), x_X9_would_b15 w1 w2 w3 σ4 = some (.inr (nx, σf)) → AtW E (wC E σ4 ++ X) A s H locs → lv_has ls 3 [(0, .ref (eA E 0)), (1, .int w1), (2, .int w2)] → W p l e rmx_X9_would s m a below meth c H locs 0 0 QQ (F0 m 15 ls [.int w3, .ref (eA E 0)]) := by
      intro w1 w2 w3 σ4 H locs ls h hV hl
      unfold x_X9_would_b15 at h
      refine bt_e h (fun σ5 hq h => ?_) (fun q hq h => ?_)
      rotate_left
      · have h := Sum.inr.inj h
        subst h
        subst hQ
        exact kx_X9_need hT hq cx hV hF hx0 hlk mk_3_178 ⟨Nat.le_of_ble_eq_true rfl, Nat.le_of_ble_eq_true rfl⟩ ⟨Nat.le_of_ble_eq_true rfl, Nat.le_of_ble_eq_true rfl⟩ hl.1 (Nat.le_of_ble_eq_true rfl) dX9_would_15
      refine k_X9_need hq cx hV hF mk_3_178 ⟨Nat.le_of_ble_eq_true rfl, Nat.le_of_ble_eq_true rfl⟩ ⟨Nat.zero_le _, Nat.zero_le _⟩ hl.1 (Nat.le_of_ble_eq_true rfl) dX9_would_15 (fun H locs hV => ?_)
      refine lv_aload_n hx hb dX9_would_18 rfl (lv_at hl 0 rfl) ?_
      refine G_X9_theDay cx hV mk_2_147 dX9_would_19 ?_
      refine lv_iload_n hx hb dX9_would_22 rfl (lv_at hl 1 rfl) ?_
      refine lv_aload_n hx hb dX9_would_23 rfl (lv_at hl 0 rfl) ?_
      refine G_X9_told cx hV mk_2_141 dX9_would_24 ?_
      refine bd_e h (fun v6 hq h => ?_)
      refine k_X7_leftBits (by decide) hq cx hV mk_2_198 ⟨Nat.le_of_ble_eq_true rfl, Nat.le_of_ble_eq_true rfl⟩ ⟨Nat.zero_le _, Nat.zero_le _⟩ hl.1 (Nat.le_of_ble_eq_true rfl) dX9_would_27 (fun H locs hV => ?_)
      refine lv_iconst (v := 0) hx hb dX9_would_30 (by decide) ?_
      refine bd_e h (fun σ7 hq h => ?_)
      refine k_X1_go hq cx hV mk_2_207 ⟨Nat.le_of_ble_eq_true rfl, Nat.le_of_ble_eq_true rfl⟩ ⟨Nat.zero_le _, Nat.zero_le _⟩ hl.1 (Nat.le_of_ble_eq_true rfl) dX9_would_31 (fun H locs hV => ?_)
      refine lv_iload_n hx hb dX9_would_34 rfl (lv_at hl 2 rfl) ?_
      by_cases hc0 : w2 = 0
      · have h := ifp hc0 h
        refine r_swIn (tgt := 68) cx hc0 dX9_would_35 (by decide) (by decide) rfl (by decide) ?_
        refine lv_aload_n hx hb dX9_would_68 rfl (lv_at hl 0 rfl) ?_
        refine G_X9_theDay cx hV mk_2_147 dX9_would_69 ?_
        refine G_X1_bought cx hV mk_1_193 dX9_would_72 ?_
        refine bd_e h (fun v8 hq h => ?_)
        refine k_X2_sum (by decide) hq cx hV mk_3_88 ⟨Nat.le_of_ble_eq_true rfl, Nat.le_of_ble_eq_true rfl⟩ ⟨Nat.zero_le _, Nat.zero_le _⟩ hl.1 (Nat.le_of_ble_eq_true rfl) dX9_would_75 (fun H locs hV => ?_)
        exact (inlr h).elim
      have h := ifn hc0 h
      by_cases hc1 : w2 = 1
      · have h := ifp hc1 h
        refine r_swIn (tgt := 79) cx hc1 dX9_would_35 (by decide) (by decide) rfl (by decide) ?_
        refine lv_aload_n hx hb dX9_would_79 rfl (lv_at hl 0 rfl) ?_
        refine G_X9_theDay cx hV mk_2_147 dX9_would_80 ?_
        refine G_X1_spent cx hV mk_1_195 dX9_would_83 ?_
        refine bd_e h (fun v9 hq h => ?_)
        refine k_X2_sum (by decide) hq cx hV mk_3_88 ⟨Nat.le_of_ble_eq_true rfl, Nat.le_of_ble_eq_true rfl⟩ ⟨Nat.zero_le _, Nat.zero_le _⟩ hl.1 (Nat.le_of_ble_eq_true rfl) dX9_would_86 (fun H locs hV => ?_)
        exact (inlr h).elim
      have h := ifn hc1 h
      by_cases hc2 : w2 = 2
      · have h := ifp hc2 h
        refine r_swIn (tgt := 90) cx hc2 dX9_would_35 (by decide) (by decide) rfl (by decide) ?_
        refine lv_aload_n hx hb dX9_would_90 rfl (lv_at hl 0 rfl) ?_
        refine G_X9_theDay cx hV mk_2_147 dX9_would_91 ?_
        refine G_X1_waited cx hV mk_1_197 dX9_would_94 ?_
        refine bd_e h (fun v10 hq h => ?_)
        refine k_X2_sum (by decide) hq cx hV mk_3_88 ⟨Nat.le_of_ble_eq_true rfl, Nat.le_of_ble_eq_true rfl⟩ ⟨Nat.zero_le _, Nat.zero_le _⟩ hl.1 (Nat.le_of_ble_eq_true rfl) dX9_would_97 (fun H locs hV => ?_)
        exact (inlr h).elim
      have h := ifn hc2 h
      by_cases hc3 : w2 = 3
      · have h := ifp hc3 h
        refine r_swIn (tgt := 101) cx hc3 dX9_would_35 (by decide) (by decide) rfl (by decide) ?_
        refine lv_aload_n hx hb dX9_would_101 rfl (lv_at hl 0 rfl) ?_
        refine G_X9_theDay cx hV mk_2_147 dX9_would_102 ?_
        refine G_X1_heldUp cx hV mk_1_201 dX9_would_105 ?_
        exact (inlr h).elim
      have h := ifn hc3 h
      by_cases hc4 : w2 = 4
      · have h := ifp hc4 h
        refine r_swIn (tgt := 109) cx hc4 dX9_would_35 (by decide) (by decide) rfl (by decide) ?_
        refine lv_aload_n hx hb dX9_would_109 rfl (lv_at hl 0 rfl) ?_
        refine G_X9_theDay cx hV mk_2_147 dX9_would_110 ?_
        refine G_X1_stock cx hV mk_1_191 dX9_would_113 ?_
        refine lv_aload_n hx hb dX9_would_116 rfl (lv_at hl 0 rfl) ?_
        refine G_X9_told cx hV mk_2_141 dX9_would_117 ?_
        refine bd_e h (fun v11 hq h => ?_)
        refine k_X5_allOff (by decide) (by decide) hq cx hV mk_3_116 ⟨Nat.le_of_ble_eq_true rfl, Nat.le_of_ble_eq_true rfl⟩ ⟨Nat.zero_le _, Nat.zero_le _⟩ hl.1 (Nat.le_of_ble_eq_true rfl) dX9_would_120 (fun H locs hV => ?_)
        exact (inlr h).elim
      have h := ifn hc4 h
      have hout : (w2).toInt < 0 ∨ 4 < (w2).toInt := by
        have g0 := lv_neT hc0 (a := 0) rfl
        have g1 := lv_neT hc1 (a := 1) rfl
        have g2 := lv_neT hc2 (a := 2) rfl
        have g3 := lv_neT hc3 (a := 3) rfl
        have g4 := lv_neT hc4 (a := 4) rfl
        omega
      refine lv_tableOut (tgt := 124) hx hb dX9_would_35 hout (by decide) ?_
      refine lv_aload_n hx hb dX9_would_124 rfl (lv_at hl 0 rfl) ?_
      refine G_X9_theDay cx hV mk_2_147 dX9_would_125 ?_
      refine bd_e h (fun v12 hq h => ?_)
      refine k_X1_lastGone hq cx hV mk_5_98 ⟨Nat.le_of_ble_eq_true rfl, Nat.le_of_ble_eq_true rfl⟩ ⟨Nat.zero_le _, Nat.zero_le _⟩ hl.1 (Nat.le_of_ble_eq_true rfl) dX9_would_128 (fun H locs hV => ?_)
      exact (inlr h).elim
    have hj14 : ∀ (w13 : Int32) (w14 : Int32) (σ15 : St) (H : Heap) (locs : List Loc) (ls : Array Slot), x_X9_would_b14 w13 w14 σ15 = some (.inr (nx, σf)) → AtW E (wC E σ15 ++ X) A s H locs → lv_has ls 3 [(0, .ref (eA E 0)), (1, .int w13), (2, .int w14)] → W p l e rmx_X9_would s m a below meth c H locs 0 0 QQ (F0 m 14 ls [.ref (eA E 0)]) := by
      intro w13 w14 σ15 H locs ls h hV hl
      unfold x_X9_would_b14 at h
      refine lv_iconst (v := 0) hx hb dX9_would_14 (by decide) ?_
      exact hj15 w13 w14 0 σ15 _ _ _ h hV (lv_sub hl [0, 1, 2] rfl)
    refine lv_aload_n hx hb dX9_would_0 rfl (lv_at hl 0 rfl) ?_
    refine lv_iload_n hx hb dX9_would_1 rfl (lv_at hl 2 rfl) ?_
    refine lv_if_lt (tgt := 14) hx hb dX9_would_2 (by decide) (fun hc => ?_) (fun hc => ?_)
    · have h := ifp hc h
      exact hj14 p1 p2 σ _ _ _ h hV (lv_sub hl [0, 1, 2] rfl)
    · have h := ifn hc h
      refine lv_iload_n hx hb dX9_would_5 rfl (lv_at hl 2 rfl) ?_
      refine lv_iconst (v := 5) hx hb dX9_would_6 (by decide) ?_
      refine lv_icmp_gt (tgt := 14) hx hb dX9_would_7 (by decide) (fun hc => ?_) (fun hc => ?_)
      · have h := ifp hc h
        exact hj14 p1 p2 σ _ _ _ h hV (lv_sub hl [0, 1, 2] rfl)
      · have h := ifn hc h
        refine lv_iconst (v := 1) hx hb dX9_would_10 (by decide) ?_
        refine lv_goto (tgt := 15) hx hb dX9_would_11 (by decide) ?_
        exact hj15 p1 p2 1 σ _ _ _ h hV (lv_sub hl [0, 1, 2] rfl)
  rw [hH, hlocs] at goal
  exact goal
theorem k_X9_would {p : Program} {l : Launch} {e : Env} {R : Room} {s : State} {m : MethodId} {a : Array Value} {below : List Frame} {meth : Method} {c : Code} {H : Heap} {locs : List Loc} {cells slots : Nat} {Q : State → Prop} {cc : ByteArray} {own : String} {nL pc : Nat} {ls : Array Slot} {rest : List Value} {A : Nat → Prop} {E : EV} {X : va_W} {σ : St} {p1 : Int32} {p2 : Int32} {rv : Int32} {σf : St} (h : x_X9_would p1 p2 σ = some (.inl (rv, σf))) (cx : CallFix p m c cc nL s a TBL own) (hV : AtW E (wC E σ ++ X) A s H locs) (hF : FZ E A s s.heap) {idx : Nat} (w1 : Cond.methodLink own idx yX9_would ∈ TBL) (hR : (rm_X9_would).frames + 1 ≤ R.frames ∧ 8 + (3 + 11) + (rm_X9_would).locals ≤ R.locals) (hcs : cells ≤ R.cells ∧ slots ≤ R.slots) (hls : ls.size = nL) (hcat : (rest.map fun v => v.category).sum ≤ 8) (d : decode cc pc = .ok (.invokevirtual idx, 3)) (kk : ∀ (H1 : Heap) (locs1 : List Loc), AtW E (wC E σf ++ X) A s H1 locs1 → W p l e R s m a below meth c H1 locs1 cells slots Q (F0 m (pc + 3) ls (.int rv :: rest))) : W p l e R s m a below meth c H locs cells slots Q (F0 m pc ls (.int p2 :: .int p1 :: .ref (eA E 0) :: rest)) :=
  r_callFi (n := 2) (As := [.int p1, .int p2]) (q0 := 0) (ci := 9) (qq := (RX9, TX9, 14)) (c_X9_would h) wC_fst rfl rfl mk_5_95 mk_5_96 mk_1_1 mk_5_97 (by decide +kernel) rfl ⟨rfl, rfl⟩ cx hV hF w1 hR hcs hls rfl hcat d kk
theorem kx_X9_would {p : Program} {l : Launch} {e : Env} {R : Room} {s : State} {m : MethodId} {a : Array Value} {below : List Frame} {meth : Method} {c : Code} {H : Heap} {locs : List Loc} {cc : ByteArray} {own : String} {nL pc : Nat} {ls : Array Slot} {rest : List Value} {A : Nat → Prop} {E : EV} {X : va_W} {σ : St} {p1 : Int32} {p2 : Int32} (hT : l.stackTraces = false) {nx : Nat} {σf : St} (h : x_X9_would p1 p2 σ = some (.inr (nx, σf))) (cx : CallFix p m c cc nL s a TBL own) (hV : AtW E (wC E σ ++ X) A s H locs) (hF : FZ E A s s.heap) (hx0 : ∀ x ∈ c.exceptionTable.toList, False) (hlk : meth.locks = false) {idx : Nat} (w1 : Cond.methodLink own idx yX9_would ∈ TBL) (hR : (rmx_X9_would).frames + 1 ≤ R.frames ∧ 8 + (3 + 11) + (rmx_X9_would).locals ≤ R.locals) (hcs : 1 ≤ R.cells ∧ 6 ≤ R.slots) (hls : ls.size = nL) (hcat : (rest.map fun v => v.category).sum ≤ 8) (d : decode cc pc = .ok (.invokevirtual idx, 3)) : W p l e R s m a below meth c H locs 0 0 (EX E (wC E σf ++ X) (exN nx) A s a below) (F0 m pc ls (.int p2 :: .int p1 :: .ref (eA E 0) :: rest)) :=
  r_callx (n := 2) (As := [.int p1, .int p2]) (q0 := 0) (ci := 9) (qq := (RX9, TX9, 14)) (t_X9_would hT h) rfl rfl mk_5_95 mk_5_96 mk_1_1 mk_5_97 (by decide +kernel) rfl ⟨rfl, rfl⟩ cx hV hF hx0 hlk w1 hR hcs hls rfl hcat d
def x_X9_buys_b20 (w1 : Int32) (w2 : Int32) (w3 : Int32) (w4 : Int32) (σ5 : St) : Option ((Int32 × St) ⊕ (Nat × St)) :=
  bt (x_X9_need w4 σ5) fun σ6 =>
  bd (x_X7_leftBits 0 σ6) fun v7 =>
  bd (x_X1_go w2 v7 0 σ6) fun σ8 =>
  (if w3 = 0 then
  bd (x_X2_at 36 w1 σ8) fun v9 =>
  some (.inl (v9, σ8))
  else
  (if w3 = 1 then
  bd (x_X2_at 37 w1 σ8) fun v10 =>
  some (.inl (v10, σ8))
  else
  (if w3 = 2 then
  bd (x_X2_at 38 w1 σ8) fun v11 =>
  some (.inl (v11, σ8))
  else
  bd (x_X2_at 39 w1 σ8) fun v12 =>
  some (.inl (v12, σ8)))))
def x_X9_buys_b19 (w13 : Int32) (w14 : Int32) (w15 : Int32) (σ16 : St) : Option ((Int32 × St) ⊕ (Nat × St)) :=
  x_X9_buys_b20 w13 w14 w15 0 σ16
def x_X9_buys (p1 : Int32) (p2 : Int32) (p3 : Int32) (σ : St) : Option ((Int32 × St) ⊕ (Nat × St)) :=
  bt (x_X9_needLooker p1 σ) fun σ17 =>
  (if p3 < 0 then
  x_X9_buys_b19 p1 p2 p3 σ17
  else
  (if 3 < p3 then
  x_X9_buys_b19 p1 p2 p3 σ17
  else
  x_X9_buys_b20 p1 p2 p3 1 σ17))
abbrev rm_X9_buys : Room := { frames := 7, cells := 0, slots := 0, locals := 168 }
abbrev rmx_X9_buys : Room := { frames := 7, cells := 1, slots := 6, locals := 168 }
set_option maxHeartbeats 4000000 in
set_option maxRecDepth 100000 in
theorem c_X9_buys {l : Launch} {E : EV} {X : va_W} {σ : St} {p1 : Int32} {p2 : Int32} {p3 : Int32} {rv : Int32} {σf : St} (h : x_X9_buys p1 p2 p3 σ = some (.inl (rv, σf))) : CMF l yX9_buys cX9_buys 4 (some .int) rm_X9_buys [.ref (eA E 0), .int p1, .int p2, .int p3] E (wC E σ ++ X) (wC E σf ++ X) (qI rv) := by
  refine CMF.start (by decide) (Nat.le_of_ble_eq_true rfl) (fun p e s m a below meth c A ls cx hr hlk hV hF hl => ?_)
  have cx : CallFix p m c cX9_buys 4 s a TBL RX9 := cx
  have hx := cx.1
  have hb := cx.2.1
  have hl : lv_has ls 4 [(0, .ref (eA E 0)), (1, .int p1), (2, .int p2), (3, .int p3)] := hl
  generalize hQ : EQ E (wC E σf ++ X) (qI rv) A s a below = QQ
  obtain ⟨H, hH⟩ : ∃ H, H = s.heap := ⟨_, rfl⟩
  obtain ⟨locs, hlocs⟩ : ∃ z, z = ([] : List Loc) := ⟨_, rfl⟩
  have hV : AtW E (wC E σ ++ X) A s H locs := by rw [hH, hlocs]; exact hV
  have goal : W p l e rm_X9_buys s m a below meth c H locs 0 0 QQ (F0 m 0 ls []) := by
    unfold x_X9_buys at h
    have hj20 : ∀ (w1 : Int32) (w2 : Int32) (w3 : Int32) (w4 : Int32) (σ5 : St) (H : Heap) (locs : List Loc) (ls : Array Slot), x_X9_buys_b20 w1 w2 w3 w4 σ5 = some (.inl (rv, σf)) → AtW E (wC E σ5 ++ X) A s H locs → lv_has ls 4 [(0, .ref (eA E 0)), (1, .int w1), (2, .int w2), (3, .int w3)] → W p l e rm_X9_buys s m a below meth c H locs 0 0 QQ (F0 m 20 ls [.int w4, .ref (eA E 0)]) := by
      intro w1 w2 w3 w4 σ5 H locs ls h hV hl
      unfold x_X9_buys_b20 at h
      refine bt_e h (fun σ6 hq h => ?_) (fun q hq h => ?_)
      rotate_left
      · exact (inrl' h).elim
      refine k_X9_need hq cx hV hF mk_3_178 ⟨Nat.le_of_ble_eq_true rfl, Nat.le_of_ble_eq_true rfl⟩ ⟨Nat.zero_le _, Nat.zero_le _⟩ hl.1 (Nat.le_of_ble_eq_true rfl) dX9_buys_20 (fun H locs hV => ?_)
      refine lv_aload_n hx hb dX9_buys_23 rfl (lv_at hl 0 rfl) ?_
      refine G_X9_theDay cx hV mk_2_147 dX9_buys_24 ?_
      refine lv_iload_n hx hb dX9_buys_27 rfl (lv_at hl 2 rfl) ?_
      refine lv_aload_n hx hb dX9_buys_28 rfl (lv_at hl 0 rfl) ?_
      refine G_X9_told cx hV mk_2_141 dX9_buys_29 ?_
      refine bd_e h (fun v7 hq h => ?_)
      refine k_X7_leftBits (by decide) hq cx hV mk_2_198 ⟨Nat.le_of_ble_eq_true rfl, Nat.le_of_ble_eq_true rfl⟩ ⟨Nat.zero_le _, Nat.zero_le _⟩ hl.1 (Nat.le_of_ble_eq_true rfl) dX9_buys_32 (fun H locs hV => ?_)
      refine lv_iconst (v := 0) hx hb dX9_buys_35 (by decide) ?_
      refine bd_e h (fun σ8 hq h => ?_)
      refine k_X1_go hq cx hV mk_2_207 ⟨Nat.le_of_ble_eq_true rfl, Nat.le_of_ble_eq_true rfl⟩ ⟨Nat.zero_le _, Nat.zero_le _⟩ hl.1 (Nat.le_of_ble_eq_true rfl) dX9_buys_36 (fun H locs hV => ?_)
      refine lv_iload_n hx hb dX9_buys_39 rfl (lv_at hl 3 rfl) ?_
      by_cases hc0 : w3 = 0
      · have h := ifp hc0 h
        refine r_swIn (tgt := 68) cx hc0 dX9_buys_40 (by decide) (by decide) rfl (by decide) ?_
        refine lv_aload_n hx hb dX9_buys_68 rfl (lv_at hl 0 rfl) ?_
        refine G_X9_theDay cx hV mk_2_147 dX9_buys_69 ?_
        refine G_X1_bought cx hV mk_1_193 dX9_buys_72 ?_
        refine lv_iload_n hx hb dX9_buys_75 rfl (lv_at hl 1 rfl) ?_
        refine bd_e h (fun v9 hq h => ?_)
        refine k_X2_at (by decide) hq cx hV mk_3_93 ⟨Nat.le_of_ble_eq_true rfl, Nat.le_of_ble_eq_true rfl⟩ ⟨Nat.zero_le _, Nat.zero_le _⟩ hl.1 (Nat.le_of_ble_eq_true rfl) dX9_buys_76 (fun H locs hV => ?_)
        have h := congrArg some (Sum.inl.inj (Option.some.inj h))
        obtain ⟨h1, h2⟩ := Prod.mk.inj (Option.some.inj h)
        subst h1
        subst h2
        subst hQ
        exact r_ireti cx hr hlk hV dX9_buys_79
      have h := ifn hc0 h
      by_cases hc1 : w3 = 1
      · have h := ifp hc1 h
        refine r_swIn (tgt := 80) cx hc1 dX9_buys_40 (by decide) (by decide) rfl (by decide) ?_
        refine lv_aload_n hx hb dX9_buys_80 rfl (lv_at hl 0 rfl) ?_
        refine G_X9_theDay cx hV mk_2_147 dX9_buys_81 ?_
        refine G_X1_spent cx hV mk_1_195 dX9_buys_84 ?_
        refine lv_iload_n hx hb dX9_buys_87 rfl (lv_at hl 1 rfl) ?_
        refine bd_e h (fun v10 hq h => ?_)
        refine k_X2_at (by decide) hq cx hV mk_3_93 ⟨Nat.le_of_ble_eq_true rfl, Nat.le_of_ble_eq_true rfl⟩ ⟨Nat.zero_le _, Nat.zero_le _⟩ hl.1 (Nat.le_of_ble_eq_true rfl) dX9_buys_88 (fun H locs hV => ?_)
        have h := congrArg some (Sum.inl.inj (Option.some.inj h))
        obtain ⟨h1, h2⟩ := Prod.mk.inj (Option.some.inj h)
        subst h1
        subst h2
        subst hQ
        exact r_ireti cx hr hlk hV dX9_buys_91
      have h := ifn hc1 h
      by_cases hc2 : w3 = 2
      · have h := ifp hc2 h
        refine r_swIn (tgt := 92) cx hc2 dX9_buys_40 (by decide) (by decide) rfl (by decide) ?_
        refine lv_aload_n hx hb dX9_buys_92 rfl (lv_at hl 0 rfl) ?_
        refine G_X9_theDay cx hV mk_2_147 dX9_buys_93 ?_
        refine G_X1_waited cx hV mk_1_197 dX9_buys_96 ?_
        refine lv_iload_n hx hb dX9_buys_99 rfl (lv_at hl 1 rfl) ?_
        refine bd_e h (fun v11 hq h => ?_)
        refine k_X2_at (by decide) hq cx hV mk_3_93 ⟨Nat.le_of_ble_eq_true rfl, Nat.le_of_ble_eq_true rfl⟩ ⟨Nat.zero_le _, Nat.zero_le _⟩ hl.1 (Nat.le_of_ble_eq_true rfl) dX9_buys_100 (fun H locs hV => ?_)
        have h := congrArg some (Sum.inl.inj (Option.some.inj h))
        obtain ⟨h1, h2⟩ := Prod.mk.inj (Option.some.inj h)
        subst h1
        subst h2
        subst hQ
        exact r_ireti cx hr hlk hV dX9_buys_103
      have h := ifn hc2 h
      have hout : (w3).toInt < 0 ∨ 2 < (w3).toInt := by
        have g0 := lv_neT hc0 (a := 0) rfl
        have g1 := lv_neT hc1 (a := 1) rfl
        have g2 := lv_neT hc2 (a := 2) rfl
        omega
      refine lv_tableOut (tgt := 104) hx hb dX9_buys_40 hout (by decide) ?_
      refine lv_aload_n hx hb dX9_buys_104 rfl (lv_at hl 0 rfl) ?_
      refine G_X9_theDay cx hV mk_2_147 dX9_buys_105 ?_
      refine G_X1_gone cx hV mk_1_199 dX9_buys_108 ?_
      refine lv_iload_n hx hb dX9_buys_111 rfl (lv_at hl 1 rfl) ?_
      refine bd_e h (fun v12 hq h => ?_)
      refine k_X2_at (by decide) hq cx hV mk_3_93 ⟨Nat.le_of_ble_eq_true rfl, Nat.le_of_ble_eq_true rfl⟩ ⟨Nat.zero_le _, Nat.zero_le _⟩ hl.1 (Nat.le_of_ble_eq_true rfl) dX9_buys_112 (fun H locs hV => ?_)
      have h := congrArg some (Sum.inl.inj (Option.some.inj h))
      obtain ⟨h1, h2⟩ := Prod.mk.inj (Option.some.inj h)
      subst h1
      subst h2
      subst hQ
      exact r_ireti cx hr hlk hV dX9_buys_115
    have hj19 : ∀ (w13 : Int32) (w14 : Int32) (w15 : Int32) (σ16 : St) (H : Heap) (locs : List Loc) (ls : Array Slot), x_X9_buys_b19 w13 w14 w15 σ16 = some (.inl (rv, σf)) → AtW E (wC E σ16 ++ X) A s H locs → lv_has ls 4 [(0, .ref (eA E 0)), (1, .int w13), (2, .int w14), (3, .int w15)] → W p l e rm_X9_buys s m a below meth c H locs 0 0 QQ (F0 m 19 ls [.ref (eA E 0)]) := by
      intro w13 w14 w15 σ16 H locs ls h hV hl
      unfold x_X9_buys_b19 at h
      refine lv_iconst (v := 0) hx hb dX9_buys_19 (by decide) ?_
      exact hj20 w13 w14 w15 0 σ16 _ _ _ h hV (lv_sub hl [0, 1, 2, 3] rfl)
    refine lv_aload_n hx hb dX9_buys_0 rfl (lv_at hl 0 rfl) ?_
    refine lv_iload_n hx hb dX9_buys_1 rfl (lv_at hl 1 rfl) ?_
    refine bt_e h (fun σ17 hq h => ?_) (fun q hq h => ?_)
    rotate_left
    · exact (inrl' h).elim
    refine k_X9_needLooker hq cx hV hF mk_5_30 ⟨Nat.le_of_ble_eq_true rfl, Nat.le_of_ble_eq_true rfl⟩ ⟨Nat.zero_le _, Nat.zero_le _⟩ hl.1 (Nat.le_of_ble_eq_true rfl) dX9_buys_2 (fun H locs hV => ?_)
    refine lv_aload_n hx hb dX9_buys_5 rfl (lv_at hl 0 rfl) ?_
    refine lv_iload_n hx hb dX9_buys_6 rfl (lv_at hl 3 rfl) ?_
    refine lv_if_lt (tgt := 19) hx hb dX9_buys_7 (by decide) (fun hc => ?_) (fun hc => ?_)
    · have h := ifp hc h
      exact hj19 p1 p2 p3 σ17 _ _ _ h hV (lv_sub hl [0, 1, 2, 3] rfl)
    · have h := ifn hc h
      refine lv_iload_n hx hb dX9_buys_10 rfl (lv_at hl 3 rfl) ?_
      refine lv_iconst (v := 3) hx hb dX9_buys_11 (by decide) ?_
      refine lv_icmp_gt (tgt := 19) hx hb dX9_buys_12 (by decide) (fun hc => ?_) (fun hc => ?_)
      · have h := ifp hc h
        exact hj19 p1 p2 p3 σ17 _ _ _ h hV (lv_sub hl [0, 1, 2, 3] rfl)
      · have h := ifn hc h
        refine lv_iconst (v := 1) hx hb dX9_buys_15 (by decide) ?_
        refine lv_goto (tgt := 20) hx hb dX9_buys_16 (by decide) ?_
        exact hj20 p1 p2 p3 1 σ17 _ _ _ h hV (lv_sub hl [0, 1, 2, 3] rfl)
  rw [hH, hlocs] at goal
  exact goal
set_option maxHeartbeats 4000000 in
set_option maxRecDepth 100000 in
theorem t_X9_buys {l : Launch} (hT : l.stackTraces = false) {E : EV} {X : va_W} {σ : St} {p1 : Int32} {p2 : Int32} {p3 : Int32} {nx : Nat} {σf : St} (h : x_X9_buys p1 p2 p3 σ = some (.inr (nx, σf))) : CXF l yX9_buys cX9_buys 4 (some .int) rmx_X9_buys [.ref (eA E 0), .int p1, .int p2, .int p3] E (wC E σ ++ X) (wC E σf ++ X) (exN nx) := by
  refine CXF.start (by decide) (Nat.le_of_ble_eq_true rfl) (fun p e s m a below meth c A ls cx hx0 hlk hV hF hl => ?_)
  have cx : CallFix p m c cX9_buys 4 s a TBL RX9 := cx
  have hx := cx.1
  have hb := cx.2.1
  have hl : lv_has ls 4 [(0, .ref (eA E 0)), (1, .int p1), (2, .int p2), (3, .int p3)] := hl
  generalize hQ : EX E (wC E σf ++ X) (exN nx) A s a below = QQ
  obtain ⟨H, hH⟩ : ∃ H, H = s.heap := ⟨_, rfl⟩
  obtain ⟨locs, hlocs⟩ : ∃ z, z = ([] : List Loc) := ⟨_, rfl⟩
  have hV : AtW E (wC E σ ++ X) A s H locs := by rw [hH, hlocs]; exact hV
  have goal : W p l e rmx_X9_buys s m a below meth c H locs 0 0 QQ (F0 m 0 ls []) := by
    unfold x_X9_buys at h
    have hj20 : ∀ (w1 : Int32) (w2 : Int32) (w3 : Int32) (w4 : Int32) (σ5 : St) (H : Heap) (locs : List Loc) (ls : Array Slot), x_X9_buys_b20 w1 w2 w3 w4 σ5 = some (.inr (nx, σf)) → AtW E (wC E σ5 ++ X) A s H locs → lv_has ls 4 [(0, .ref (eA E 0)), (1, .int w1), (2, .int w2), (3, .int w3)] → W p l e rmx_X9_buys s m a below meth c H locs 0 0 QQ (F0 m 20 ls [.int w4, .ref (eA E 0)]) := by
      intro w1 w2 w3 w4 σ5 H locs ls h hV hl
      unfold x_X9_buys_b20 at h
      refine bt_e h (fun σ6 hq h => ?_) (fun q hq h => ?_)
      rotate_left
      · have h := Sum.inr.inj h
        subst h
        subst hQ
        exact kx_X9_need hT hq cx hV hF hx0 hlk mk_3_178 ⟨Nat.le_of_ble_eq_true rfl, Nat.le_of_ble_eq_true rfl⟩ ⟨Nat.le_of_ble_eq_true rfl, Nat.le_of_ble_eq_true rfl⟩ hl.1 (Nat.le_of_ble_eq_true rfl) dX9_buys_20
      refine k_X9_need hq cx hV hF mk_3_178 ⟨Nat.le_of_ble_eq_true rfl, Nat.le_of_ble_eq_true rfl⟩ ⟨Nat.zero_le _, Nat.zero_le _⟩ hl.1 (Nat.le_of_ble_eq_true rfl) dX9_buys_20 (fun H locs hV => ?_)
      refine lv_aload_n hx hb dX9_buys_23 rfl (lv_at hl 0 rfl) ?_
      refine G_X9_theDay cx hV mk_2_147 dX9_buys_24 ?_
      refine lv_iload_n hx hb dX9_buys_27 rfl (lv_at hl 2 rfl) ?_
      refine lv_aload_n hx hb dX9_buys_28 rfl (lv_at hl 0 rfl) ?_
      refine G_X9_told cx hV mk_2_141 dX9_buys_29 ?_
      refine bd_e h (fun v7 hq h => ?_)
      refine k_X7_leftBits (by decide) hq cx hV mk_2_198 ⟨Nat.le_of_ble_eq_true rfl, Nat.le_of_ble_eq_true rfl⟩ ⟨Nat.zero_le _, Nat.zero_le _⟩ hl.1 (Nat.le_of_ble_eq_true rfl) dX9_buys_32 (fun H locs hV => ?_)
      refine lv_iconst (v := 0) hx hb dX9_buys_35 (by decide) ?_
      refine bd_e h (fun σ8 hq h => ?_)
      refine k_X1_go hq cx hV mk_2_207 ⟨Nat.le_of_ble_eq_true rfl, Nat.le_of_ble_eq_true rfl⟩ ⟨Nat.zero_le _, Nat.zero_le _⟩ hl.1 (Nat.le_of_ble_eq_true rfl) dX9_buys_36 (fun H locs hV => ?_)
      refine lv_iload_n hx hb dX9_buys_39 rfl (lv_at hl 3 rfl) ?_
      by_cases hc0 : w3 = 0
      · have h := ifp hc0 h
        refine r_swIn (tgt := 68) cx hc0 dX9_buys_40 (by decide) (by decide) rfl (by decide) ?_
        refine lv_aload_n hx hb dX9_buys_68 rfl (lv_at hl 0 rfl) ?_
        refine G_X9_theDay cx hV mk_2_147 dX9_buys_69 ?_
        refine G_X1_bought cx hV mk_1_193 dX9_buys_72 ?_
        refine lv_iload_n hx hb dX9_buys_75 rfl (lv_at hl 1 rfl) ?_
        refine bd_e h (fun v9 hq h => ?_)
        refine k_X2_at (by decide) hq cx hV mk_3_93 ⟨Nat.le_of_ble_eq_true rfl, Nat.le_of_ble_eq_true rfl⟩ ⟨Nat.zero_le _, Nat.zero_le _⟩ hl.1 (Nat.le_of_ble_eq_true rfl) dX9_buys_76 (fun H locs hV => ?_)
        exact (inlr h).elim
      have h := ifn hc0 h
      by_cases hc1 : w3 = 1
      · have h := ifp hc1 h
        refine r_swIn (tgt := 80) cx hc1 dX9_buys_40 (by decide) (by decide) rfl (by decide) ?_
        refine lv_aload_n hx hb dX9_buys_80 rfl (lv_at hl 0 rfl) ?_
        refine G_X9_theDay cx hV mk_2_147 dX9_buys_81 ?_
        refine G_X1_spent cx hV mk_1_195 dX9_buys_84 ?_
        refine lv_iload_n hx hb dX9_buys_87 rfl (lv_at hl 1 rfl) ?_
        refine bd_e h (fun v10 hq h => ?_)
        refine k_X2_at (by decide) hq cx hV mk_3_93 ⟨Nat.le_of_ble_eq_true rfl, Nat.le_of_ble_eq_true rfl⟩ ⟨Nat.zero_le _, Nat.zero_le _⟩ hl.1 (Nat.le_of_ble_eq_true rfl) dX9_buys_88 (fun H locs hV => ?_)
        exact (inlr h).elim
      have h := ifn hc1 h
      by_cases hc2 : w3 = 2
      · have h := ifp hc2 h
        refine r_swIn (tgt := 92) cx hc2 dX9_buys_40 (by decide) (by decide) rfl (by decide) ?_
        refine lv_aload_n hx hb dX9_buys_92 rfl (lv_at hl 0 rfl) ?_
        refine G_X9_theDay cx hV mk_2_147 dX9_buys_93 ?_
        refine G_X1_waited cx hV mk_1_197 dX9_buys_96 ?_
        refine lv_iload_n hx hb dX9_buys_99 rfl (lv_at hl 1 rfl) ?_
        refine bd_e h (fun v11 hq h => ?_)
        refine k_X2_at (by decide) hq cx hV mk_3_93 ⟨Nat.le_of_ble_eq_true rfl, Nat.le_of_ble_eq_true rfl⟩ ⟨Nat.zero_le _, Nat.zero_le _⟩ hl.1 (Nat.le_of_ble_eq_true rfl) dX9_buys_100 (fun H locs hV => ?_)
        exact (inlr h).elim
      have h := ifn hc2 h
      have hout : (w3).toInt < 0 ∨ 2 < (w3).toInt := by
        have g0 := lv_neT hc0 (a := 0) rfl
        have g1 := lv_neT hc1 (a := 1) rfl
        have g2 := lv_neT hc2 (a := 2) rfl
        omega
      refine lv_tableOut (tgt := 104) hx hb dX9_buys_40 hout (by decide) ?_
      refine lv_aload_n hx hb dX9_buys_104 rfl (lv_at hl 0 rfl) ?_
      refine G_X9_theDay cx hV mk_2_147 dX9_buys_105 ?_
      refine G_X1_gone cx hV mk_1_199 dX9_buys_108 ?_
      refine lv_iload_n hx hb dX9_buys_111 rfl (lv_at hl 1 rfl) ?_
      refine bd_e h (fun v12 hq h => ?_)
      refine k_X2_at (by decide) hq cx hV mk_3_93 ⟨Nat.le_of_ble_eq_true rfl, Nat.le_of_ble_eq_true rfl⟩ ⟨Nat.zero_le _, Nat.zero_le _⟩ hl.1 (Nat.le_of_ble_eq_true rfl) dX9_buys_112 (fun H locs hV => ?_)
      exact (inlr h).elim
    have hj19 : ∀ (w13 : Int32) (w14 : Int32) (w15 : Int32) (σ16 : St) (H : Heap) (locs : List Loc) (ls : Array Slot), x_X9_buys_b19 w13 w14 w15 σ16 = some (.inr (nx, σf)) → AtW E (wC E σ16 ++ X) A s H locs → lv_has ls 4 [(0, .ref (eA E 0)), (1, .int w13), (2, .int w14), (3, .int w15)] → W p l e rmx_X9_buys s m a below meth c H locs 0 0 QQ (F0 m 19 ls [.ref (eA E 0)]) := by
      intro w13 w14 w15 σ16 H locs ls h hV hl
      unfold x_X9_buys_b19 at h
      refine lv_iconst (v := 0) hx hb dX9_buys_19 (by decide) ?_
      exact hj20 w13 w14 w15 0 σ16 _ _ _ h hV (lv_sub hl [0, 1, 2, 3] rfl)
    refine lv_aload_n hx hb dX9_buys_0 rfl (lv_at hl 0 rfl) ?_
    refine lv_iload_n hx hb dX9_buys_1 rfl (lv_at hl 1 rfl) ?_
    refine bt_e h (fun σ17 hq h => ?_) (fun q hq h => ?_)
    rotate_left
    · have h := Sum.inr.inj h
      subst h
      subst hQ
      exact kx_X9_needLooker hT hq cx hV hF hx0 hlk mk_5_30 ⟨Nat.le_of_ble_eq_true rfl, Nat.le_of_ble_eq_true rfl⟩ ⟨Nat.le_of_ble_eq_true rfl, Nat.le_of_ble_eq_true rfl⟩ hl.1 (Nat.le_of_ble_eq_true rfl) dX9_buys_2
    refine k_X9_needLooker hq cx hV hF mk_5_30 ⟨Nat.le_of_ble_eq_true rfl, Nat.le_of_ble_eq_true rfl⟩ ⟨Nat.zero_le _, Nat.zero_le _⟩ hl.1 (Nat.le_of_ble_eq_true rfl) dX9_buys_2 (fun H locs hV => ?_)
    refine lv_aload_n hx hb dX9_buys_5 rfl (lv_at hl 0 rfl) ?_
    refine lv_iload_n hx hb dX9_buys_6 rfl (lv_at hl 3 rfl) ?_
    refine lv_if_lt (tgt := 19) hx hb dX9_buys_7 (by decide) (fun hc => ?_) (fun hc => ?_)
    · have h := ifp hc h
      exact hj19 p1 p2 p3 σ17 _ _ _ h hV (lv_sub hl [0, 1, 2, 3] rfl)
    · have h := ifn hc h
      refine lv_iload_n hx hb dX9_buys_10 rfl (lv_at hl 3 rfl) ?_
      refine lv_iconst (v := 3) hx hb dX9_buys_11 (by decide) ?_
      refine lv_icmp_gt (tgt := 19) hx hb dX9_buys_12 (by decide) (fun hc => ?_) (fun hc => ?_)
      · have h := ifp hc h
        exact hj19 p1 p2 p3 σ17 _ _ _ h hV (lv_sub hl [0, 1, 2, 3] rfl)
      · have h := ifn hc h
        refine lv_iconst (v := 1) hx hb dX9_buys_15 (by decide) ?_
        refine lv_goto (tgt := 20) hx hb dX9_buys_16 (by decide) ?_
        exact hj20 p1 p2 p3 1 σ17 _ _ _ h hV (lv_sub hl [0, 1, 2, 3] rfl)
  rw [hH, hlocs] at goal
  exact goal
theorem k_X9_buys {p : Program} {l : Launch} {e : Env} {R : Room} {s : State} {m : MethodId} {a : Array Value} {below : List Frame} {meth : Method} {c : Code} {H : Heap} {locs : List Loc} {cells slots : Nat} {Q : State → Prop} {cc : ByteArray} {own : String} {nL pc : Nat} {ls : Array Slot} {rest : List Value} {A : Nat → Prop} {E : EV} {X : va_W} {σ : St} {p1 : Int32} {p2 : Int32} {p3 : Int32} {rv : Int32} {σf : St} (h : x_X9_buys p1 p2 p3 σ = some (.inl (rv, σf))) (cx : CallFix p m c cc nL s a TBL own) (hV : AtW E (wC E σ ++ X) A s H locs) (hF : FZ E A s s.heap) {idx : Nat} (w1 : Cond.methodLink own idx yX9_buys ∈ TBL) (hR : (rm_X9_buys).frames + 1 ≤ R.frames ∧ 8 + (4 + 11) + (rm_X9_buys).locals ≤ R.locals) (hcs : cells ≤ R.cells ∧ slots ≤ R.slots) (hls : ls.size = nL) (hcat : (rest.map fun v => v.category).sum ≤ 8) (d : decode cc pc = .ok (.invokevirtual idx, 3)) (kk : ∀ (H1 : Heap) (locs1 : List Loc), AtW E (wC E σf ++ X) A s H1 locs1 → W p l e R s m a below meth c H1 locs1 cells slots Q (F0 m (pc + 3) ls (.int rv :: rest))) : W p l e R s m a below meth c H locs cells slots Q (F0 m pc ls (.int p3 :: .int p2 :: .int p1 :: .ref (eA E 0) :: rest)) :=
  r_callFi (n := 3) (As := [.int p1, .int p2, .int p3]) (q0 := 0) (ci := 9) (qq := (RX9, TX9, 14)) (c_X9_buys h) wC_fst rfl rfl mk_5_106 mk_5_107 mk_1_1 mk_5_108 (by decide +kernel) rfl ⟨rfl, rfl⟩ cx hV hF w1 hR hcs hls rfl hcat d kk
theorem kx_X9_buys {p : Program} {l : Launch} {e : Env} {R : Room} {s : State} {m : MethodId} {a : Array Value} {below : List Frame} {meth : Method} {c : Code} {H : Heap} {locs : List Loc} {cc : ByteArray} {own : String} {nL pc : Nat} {ls : Array Slot} {rest : List Value} {A : Nat → Prop} {E : EV} {X : va_W} {σ : St} {p1 : Int32} {p2 : Int32} {p3 : Int32} (hT : l.stackTraces = false) {nx : Nat} {σf : St} (h : x_X9_buys p1 p2 p3 σ = some (.inr (nx, σf))) (cx : CallFix p m c cc nL s a TBL own) (hV : AtW E (wC E σ ++ X) A s H locs) (hF : FZ E A s s.heap) (hx0 : ∀ x ∈ c.exceptionTable.toList, False) (hlk : meth.locks = false) {idx : Nat} (w1 : Cond.methodLink own idx yX9_buys ∈ TBL) (hR : (rmx_X9_buys).frames + 1 ≤ R.frames ∧ 8 + (4 + 11) + (rmx_X9_buys).locals ≤ R.locals) (hcs : 1 ≤ R.cells ∧ 6 ≤ R.slots) (hls : ls.size = nL) (hcat : (rest.map fun v => v.category).sum ≤ 8) (d : decode cc pc = .ok (.invokevirtual idx, 3)) : W p l e R s m a below meth c H locs 0 0 (EX E (wC E σf ++ X) (exN nx) A s a below) (F0 m pc ls (.int p3 :: .int p2 :: .int p1 :: .ref (eA E 0) :: rest)) :=
  r_callx (n := 3) (As := [.int p1, .int p2, .int p3]) (q0 := 0) (ci := 9) (qq := (RX9, TX9, 14)) (t_X9_buys hT h) rfl rfl mk_5_106 mk_5_107 mk_1_1 mk_5_108 (by decide +kernel) rfl ⟨rfl, rfl⟩ cx hV hF hx0 hlk w1 hR hcs hls rfl hcat d
def x_X9_then (p1 : Int32) (p2 : Int32) (σ : St) : Option ((Int32 × St) ⊕ (Nat × St)) :=
  bt (x_X9_needSleeve p1 σ) fun σ1 =>
  bd (x_X7_leftBits 0 σ1) fun v2 =>
  bd (x_X1_go p2 v2 0 σ1) fun σ3 =>
  bd (x_X2_at 31 p1 σ3) fun v4 =>
  some (.inl (v4, σ3))
abbrev rm_X9_then : Room := { frames := 7, cells := 0, slots := 0, locals := 168 }
abbrev rmx_X9_then : Room := { frames := 7, cells := 1, slots := 6, locals := 168 }
set_option maxHeartbeats 4000000 in
set_option maxRecDepth 100000 in
theorem c_X9_then {l : Launch} {E : EV} {X : va_W} {σ : St} {p1 : Int32} {p2 : Int32} {rv : Int32} {σf : St} (h : x_X9_then p1 p2 σ = some (.inl (rv, σf))) : CMF l yX9_then cX9_then 3 (some .int) rm_X9_then [.ref (eA E 0), .int p1, .int p2] E (wC E σ ++ X) (wC E σf ++ X) (qI rv) := by
  refine CMF.start (by decide) (Nat.le_of_ble_eq_true rfl) (fun p e s m a below meth c A ls cx hr hlk hV hF hl => ?_)
  have cx : CallFix p m c cX9_then 3 s a TBL RX9 := cx
  have hx := cx.1
  have hb := cx.2.1
  have hl : lv_has ls 3 [(0, .ref (eA E 0)), (1, .int p1), (2, .int p2)] := hl
  generalize hQ : EQ E (wC E σf ++ X) (qI rv) A s a below = QQ
  obtain ⟨H, hH⟩ : ∃ H, H = s.heap := ⟨_, rfl⟩
  obtain ⟨locs, hlocs⟩ : ∃ z, z = ([] : List Loc) := ⟨_, rfl⟩
  have hV : AtW E (wC E σ ++ X) A s H locs := by rw [hH, hlocs]; exact hV
  have goal : W p l e rm_X9_then s m a below meth c H locs 0 0 QQ (F0 m 0 ls []) := by
    unfold x_X9_then at h
    refine lv_aload_n hx hb dX9_then_0 rfl (lv_at hl 0 rfl) ?_
    refine lv_iload_n hx hb dX9_then_1 rfl (lv_at hl 1 rfl) ?_
    refine bt_e h (fun σ1 hq h => ?_) (fun q hq h => ?_)
    rotate_left
    · exact (inrl' h).elim
    refine k_X9_needSleeve hq cx hV hF mk_4_237 ⟨Nat.le_of_ble_eq_true rfl, Nat.le_of_ble_eq_true rfl⟩ ⟨Nat.zero_le _, Nat.zero_le _⟩ hl.1 (Nat.le_of_ble_eq_true rfl) dX9_then_2 (fun H locs hV => ?_)
    refine lv_aload_n hx hb dX9_then_5 rfl (lv_at hl 0 rfl) ?_
    refine G_X9_theDay cx hV mk_2_147 dX9_then_6 ?_
    refine lv_iload_n hx hb dX9_then_9 rfl (lv_at hl 2 rfl) ?_
    refine lv_aload_n hx hb dX9_then_10 rfl (lv_at hl 0 rfl) ?_
    refine G_X9_told cx hV mk_2_141 dX9_then_11 ?_
    refine bd_e h (fun v2 hq h => ?_)
    refine k_X7_leftBits (by decide) hq cx hV mk_2_198 ⟨Nat.le_of_ble_eq_true rfl, Nat.le_of_ble_eq_true rfl⟩ ⟨Nat.zero_le _, Nat.zero_le _⟩ hl.1 (Nat.le_of_ble_eq_true rfl) dX9_then_14 (fun H locs hV => ?_)
    refine lv_iconst (v := 0) hx hb dX9_then_17 (by decide) ?_
    refine bd_e h (fun σ3 hq h => ?_)
    refine k_X1_go hq cx hV mk_2_207 ⟨Nat.le_of_ble_eq_true rfl, Nat.le_of_ble_eq_true rfl⟩ ⟨Nat.zero_le _, Nat.zero_le _⟩ hl.1 (Nat.le_of_ble_eq_true rfl) dX9_then_18 (fun H locs hV => ?_)
    refine lv_aload_n hx hb dX9_then_21 rfl (lv_at hl 0 rfl) ?_
    refine G_X9_theDay cx hV mk_2_147 dX9_then_22 ?_
    refine G_X1_stock cx hV mk_1_191 dX9_then_25 ?_
    refine G_X5_where cx hV (by decide) mk_1_123 dX9_then_28 ?_
    refine lv_iload_n hx hb dX9_then_31 rfl (lv_at hl 1 rfl) ?_
    refine bd_e h (fun v4 hq h => ?_)
    refine k_X2_at (by decide) hq cx hV mk_3_93 ⟨Nat.le_of_ble_eq_true rfl, Nat.le_of_ble_eq_true rfl⟩ ⟨Nat.zero_le _, Nat.zero_le _⟩ hl.1 (Nat.le_of_ble_eq_true rfl) dX9_then_32 (fun H locs hV => ?_)
    have h := congrArg some (Sum.inl.inj (Option.some.inj h))
    obtain ⟨h1, h2⟩ := Prod.mk.inj (Option.some.inj h)
    subst h1
    subst h2
    subst hQ
    exact r_ireti cx hr hlk hV dX9_then_35
  rw [hH, hlocs] at goal
  exact goal
set_option maxHeartbeats 4000000 in
set_option maxRecDepth 100000 in
theorem t_X9_then {l : Launch} (hT : l.stackTraces = false) {E : EV} {X : va_W} {σ : St} {p1 : Int32} {p2 : Int32} {nx : Nat} {σf : St} (h : x_X9_then p1 p2 σ = some (.inr (nx, σf))) : CXF l yX9_then cX9_then 3 (some .int) rmx_X9_then [.ref (eA E 0), .int p1, .int p2] E (wC E σ ++ X) (wC E σf ++ X) (exN nx) := by
  refine CXF.start (by decide) (Nat.le_of_ble_eq_true rfl) (fun p e s m a below meth c A ls cx hx0 hlk hV hF hl => ?_)
  have cx : CallFix p m c cX9_then 3 s a TBL RX9 := cx
  have hx := cx.1
  have hb := cx.2.1
  have hl : lv_has ls 3 [(0, .ref (eA E 0)), (1, .int p1), (2, .int p2)] := hl
  generalize hQ : EX E (wC E σf ++ X) (exN nx) A s a below = QQ
  obtain ⟨H, hH⟩ : ∃ H, H = s.heap := ⟨_, rfl⟩
  obtain ⟨locs, hlocs⟩ : ∃ z, z = ([] : List Loc) := ⟨_, rfl⟩
  have hV : AtW E (wC E σ ++ X) A s H locs := by rw [hH, hlocs]; exact hV
  have goal : W p l e rmx_X9_then s m a below meth c H locs 0 0 QQ (F0 m 0 ls []) := by
    unfold x_X9_then at h
    refine lv_aload_n hx hb dX9_then_0 rfl (lv_at hl 0 rfl) ?_
    refine lv_iload_n hx hb dX9_then_1 rfl (lv_at hl 1 rfl) ?_
    refine bt_e h (fun σ1 hq h => ?_) (fun q hq h => ?_)
    rotate_left
    · have h := Sum.inr.inj h
      subst h
      subst hQ
      exact kx_X9_needSleeve hT hq cx hV hF hx0 hlk mk_4_237 ⟨Nat.le_of_ble_eq_true rfl, Nat.le_of_ble_eq_true rfl⟩ ⟨Nat.le_of_ble_eq_true rfl, Nat.le_of_ble_eq_true rfl⟩ hl.1 (Nat.le_of_ble_eq_true rfl) dX9_then_2
    refine k_X9_needSleeve hq cx hV hF mk_4_237 ⟨Nat.le_of_ble_eq_true rfl, Nat.le_of_ble_eq_true rfl⟩ ⟨Nat.zero_le _, Nat.zero_le _⟩ hl.1 (Nat.le_of_ble_eq_true rfl) dX9_then_2 (fun H locs hV => ?_)
    refine lv_aload_n hx hb dX9_then_5 rfl (lv_at hl 0 rfl) ?_
    refine G_X9_theDay cx hV mk_2_147 dX9_then_6 ?_
    refine lv_iload_n hx hb dX9_then_9 rfl (lv_at hl 2 rfl) ?_
    refine lv_aload_n hx hb dX9_then_10 rfl (lv_at hl 0 rfl) ?_
    refine G_X9_told cx hV mk_2_141 dX9_then_11 ?_
    refine bd_e h (fun v2 hq h => ?_)
    refine k_X7_leftBits (by decide) hq cx hV mk_2_198 ⟨Nat.le_of_ble_eq_true rfl, Nat.le_of_ble_eq_true rfl⟩ ⟨Nat.zero_le _, Nat.zero_le _⟩ hl.1 (Nat.le_of_ble_eq_true rfl) dX9_then_14 (fun H locs hV => ?_)
    refine lv_iconst (v := 0) hx hb dX9_then_17 (by decide) ?_
    refine bd_e h (fun σ3 hq h => ?_)
    refine k_X1_go hq cx hV mk_2_207 ⟨Nat.le_of_ble_eq_true rfl, Nat.le_of_ble_eq_true rfl⟩ ⟨Nat.zero_le _, Nat.zero_le _⟩ hl.1 (Nat.le_of_ble_eq_true rfl) dX9_then_18 (fun H locs hV => ?_)
    refine lv_aload_n hx hb dX9_then_21 rfl (lv_at hl 0 rfl) ?_
    refine G_X9_theDay cx hV mk_2_147 dX9_then_22 ?_
    refine G_X1_stock cx hV mk_1_191 dX9_then_25 ?_
    refine G_X5_where cx hV (by decide) mk_1_123 dX9_then_28 ?_
    refine lv_iload_n hx hb dX9_then_31 rfl (lv_at hl 1 rfl) ?_
    refine bd_e h (fun v4 hq h => ?_)
    refine k_X2_at (by decide) hq cx hV mk_3_93 ⟨Nat.le_of_ble_eq_true rfl, Nat.le_of_ble_eq_true rfl⟩ ⟨Nat.zero_le _, Nat.zero_le _⟩ hl.1 (Nat.le_of_ble_eq_true rfl) dX9_then_32 (fun H locs hV => ?_)
    exact (inlr h).elim
  rw [hH, hlocs] at goal
  exact goal
theorem k_X9_then {p : Program} {l : Launch} {e : Env} {R : Room} {s : State} {m : MethodId} {a : Array Value} {below : List Frame} {meth : Method} {c : Code} {H : Heap} {locs : List Loc} {cells slots : Nat} {Q : State → Prop} {cc : ByteArray} {own : String} {nL pc : Nat} {ls : Array Slot} {rest : List Value} {A : Nat → Prop} {E : EV} {X : va_W} {σ : St} {p1 : Int32} {p2 : Int32} {rv : Int32} {σf : St} (h : x_X9_then p1 p2 σ = some (.inl (rv, σf))) (cx : CallFix p m c cc nL s a TBL own) (hV : AtW E (wC E σ ++ X) A s H locs) (hF : FZ E A s s.heap) {idx : Nat} (w1 : Cond.methodLink own idx yX9_then ∈ TBL) (hR : (rm_X9_then).frames + 1 ≤ R.frames ∧ 8 + (3 + 11) + (rm_X9_then).locals ≤ R.locals) (hcs : cells ≤ R.cells ∧ slots ≤ R.slots) (hls : ls.size = nL) (hcat : (rest.map fun v => v.category).sum ≤ 8) (d : decode cc pc = .ok (.invokevirtual idx, 3)) (kk : ∀ (H1 : Heap) (locs1 : List Loc), AtW E (wC E σf ++ X) A s H1 locs1 → W p l e R s m a below meth c H1 locs1 cells slots Q (F0 m (pc + 3) ls (.int rv :: rest))) : W p l e R s m a below meth c H locs cells slots Q (F0 m pc ls (.int p2 :: .int p1 :: .ref (eA E 0) :: rest)) :=
  r_callFi (n := 2) (As := [.int p1, .int p2]) (q0 := 0) (ci := 9) (qq := (RX9, TX9, 14)) (c_X9_then h) wC_fst rfl rfl mk_5_113 mk_5_114 mk_1_1 mk_5_115 (by decide +kernel) rfl ⟨rfl, rfl⟩ cx hV hF w1 hR hcs hls rfl hcat d kk
theorem kx_X9_then {p : Program} {l : Launch} {e : Env} {R : Room} {s : State} {m : MethodId} {a : Array Value} {below : List Frame} {meth : Method} {c : Code} {H : Heap} {locs : List Loc} {cc : ByteArray} {own : String} {nL pc : Nat} {ls : Array Slot} {rest : List Value} {A : Nat → Prop} {E : EV} {X : va_W} {σ : St} {p1 : Int32} {p2 : Int32} (hT : l.stackTraces = false) {nx : Nat} {σf : St} (h : x_X9_then p1 p2 σ = some (.inr (nx, σf))) (cx : CallFix p m c cc nL s a TBL own) (hV : AtW E (wC E σ ++ X) A s H locs) (hF : FZ E A s s.heap) (hx0 : ∀ x ∈ c.exceptionTable.toList, False) (hlk : meth.locks = false) {idx : Nat} (w1 : Cond.methodLink own idx yX9_then ∈ TBL) (hR : (rmx_X9_then).frames + 1 ≤ R.frames ∧ 8 + (3 + 11) + (rmx_X9_then).locals ≤ R.locals) (hcs : 1 ≤ R.cells ∧ 6 ≤ R.slots) (hls : ls.size = nL) (hcat : (rest.map fun v => v.category).sum ≤ 8) (d : decode cc pc = .ok (.invokevirtual idx, 3)) : W p l e R s m a below meth c H locs 0 0 (EX E (wC E σf ++ X) (exN nx) A s a below) (F0 m pc ls (.int p2 :: .int p1 :: .ref (eA E 0) :: rest)) :=
  r_callx (n := 2) (As := [.int p1, .int p2]) (q0 := 0) (ci := 9) (qq := (RX9, TX9, 14)) (t_X9_then hT h) rfl rfl mk_5_113 mk_5_114 mk_1_1 mk_5_115 (by decide +kernel) rfl ⟨rfl, rfl⟩ cx hV hF hx0 hlk w1 hR hcs hls rfl hcat d
def x_X9_odds_b45 (w1 : Int32) (w2 : Int32) (w3 : Int32) (w4 : Int32) (w5 : Int32) (σ6 : St) : Option ((Int64 × St) ⊕ (Nat × St)) :=
  bt (x_X9_need w5 σ6) fun σ7 =>
  bt (x_X9_needLying w2 σ7) fun σ8 =>
  bd (x_X8_putBack w2 w3 σ8) fun σ9 =>
  bd (x_X8_share w1 σ9) fun v10 =>
  bd (x_X9_leastTerms v10 (gL σ9 0) w4) fun v11 =>
  some (.inl (v11, σ9))
def x_X9_odds_b40 (w12 : Int32) (w13 : Int32) (w14 : Int32) (w15 : Int32) (σ16 : St) : Option ((Int64 × St) ⊕ (Nat × St)) :=
  x_X9_odds_b45 w12 w13 w14 w15 1 σ16
def x_X9_odds_b25 (w17 : Int32) (w18 : Int32) (w19 : Int32) (w20 : Int32) (w21 : Int32) (σ22 : St) : Option ((Int64 × St) ⊕ (Nat × St)) :=
  bt (x_X9_need w21 σ22) fun σ23 =>
  (if w20 = 0 then
  x_X9_odds_b40 w17 w18 w19 w20 σ23
  else
  (if w20 = 1 then
  x_X9_odds_b40 w17 w18 w19 w20 σ23
  else
  x_X9_odds_b45 w17 w18 w19 w20 0 σ23))
def x_X9_odds_b24 (w24 : Int32) (w25 : Int32) (w26 : Int32) (w27 : Int32) (σ28 : St) : Option ((Int64 × St) ⊕ (Nat × St)) :=
  x_X9_odds_b25 w24 w25 w26 w27 0 σ28
def x_X9_odds (p1 : Int32) (p2 : Int32) (p3 : Int32) (p4 : Int32) (σ : St) : Option ((Int64 × St) ⊕ (Nat × St)) :=
  bt (x_X9_needCrate p1 σ) fun σ29 =>
  bt (x_X9_needSleeve p2 σ29) fun σ30 =>
  (if p3 < 0 then
  x_X9_odds_b24 p1 p2 p3 p4 σ30
  else
  (if 4 < p3 then
  x_X9_odds_b24 p1 p2 p3 p4 σ30
  else
  x_X9_odds_b25 p1 p2 p3 p4 1 σ30))
abbrev rm_X9_odds : Room := { frames := 5, cells := 0, slots := 0, locals := 115 }
abbrev rmx_X9_odds : Room := { frames := 7, cells := 1, slots := 6, locals := 115 }
set_option maxHeartbeats 4000000 in
set_option maxRecDepth 100000 in
theorem c_X9_odds {l : Launch} {E : EV} {X : va_W} {σ : St} {p1 : Int32} {p2 : Int32} {p3 : Int32} {p4 : Int32} {rv : Int64} {σf : St} (h : x_X9_odds p1 p2 p3 p4 σ = some (.inl (rv, σf))) : CMF l yX9_odds cX9_odds 5 (some .long) rm_X9_odds [.ref (eA E 0), .int p1, .int p2, .int p3, .int p4] E (wC E σ ++ X) (wC E σf ++ X) (qL rv) := by
  refine CMF.start (by decide) (Nat.le_of_ble_eq_true rfl) (fun p e s m a below meth c A ls cx hr hlk hV hF hl => ?_)
  have cx : CallFix p m c cX9_odds 5 s a TBL RX9 := cx
  have hx := cx.1
  have hb := cx.2.1
  have hl : lv_has ls 5 [(0, .ref (eA E 0)), (1, .int p1), (2, .int p2), (3, .int p3), (4, .int p4)] := hl
  generalize hQ : EQ E (wC E σf ++ X) (qL rv) A s a below = QQ
  obtain ⟨H, hH⟩ : ∃ H, H = s.heap := ⟨_, rfl⟩
  obtain ⟨locs, hlocs⟩ : ∃ z, z = ([] : List Loc) := ⟨_, rfl⟩
  have hV : AtW E (wC E σ ++ X) A s H locs := by rw [hH, hlocs]; exact hV
  have goal : W p l e rm_X9_odds s m a below meth c H locs 0 0 QQ (F0 m 0 ls []) := by
    unfold x_X9_odds at h
    have hj45 : ∀ (w1 : Int32) (w2 : Int32) (w3 : Int32) (w4 : Int32) (w5 : Int32) (σ6 : St) (H : Heap) (locs : List Loc) (ls : Array Slot), x_X9_odds_b45 w1 w2 w3 w4 w5 σ6 = some (.inl (rv, σf)) → AtW E (wC E σ6 ++ X) A s H locs → lv_has ls 5 [(0, .ref (eA E 0)), (1, .int w1), (2, .int w2), (3, .int w3), (4, .int w4)] → W p l e rm_X9_odds s m a below meth c H locs 0 0 QQ (F0 m 45 ls [.int w5, .ref (eA E 0)]) := by
      intro w1 w2 w3 w4 w5 σ6 H locs ls h hV hl
      unfold x_X9_odds_b45 at h
      refine bt_e h (fun σ7 hq h => ?_) (fun q hq h => ?_)
      rotate_left
      · exact (inrl' h).elim
      refine k_X9_need hq cx hV hF mk_3_178 ⟨Nat.le_of_ble_eq_true rfl, Nat.le_of_ble_eq_true rfl⟩ ⟨Nat.zero_le _, Nat.zero_le _⟩ hl.1 (Nat.le_of_ble_eq_true rfl) dX9_odds_45 (fun H locs hV => ?_)
      refine lv_aload_n hx hb dX9_odds_48 rfl (lv_at hl 0 rfl) ?_
      refine lv_iload_n hx hb dX9_odds_49 rfl (lv_at hl 2 rfl) ?_
      refine bt_e h (fun σ8 hq h => ?_) (fun q hq h => ?_)
      rotate_left
      · exact (inrl' h).elim
      refine k_X9_needLying hq cx hV hF mk_5_54 ⟨Nat.le_of_ble_eq_true rfl, Nat.le_of_ble_eq_true rfl⟩ ⟨Nat.zero_le _, Nat.zero_le _⟩ hl.1 (Nat.le_of_ble_eq_true rfl) dX9_odds_50 (fun H locs hV => ?_)
      refine lv_aload_n hx hb dX9_odds_53 rfl (lv_at hl 0 rfl) ?_
      refine G_X9_whereabouts cx hV mk_2_148 dX9_odds_54 ?_
      refine lv_iload_n hx hb dX9_odds_57 rfl (lv_at hl 2 rfl) ?_
      refine lv_iload_n hx hb dX9_odds_58 rfl (lv_at hl 3 rfl) ?_
      refine bd_e h (fun σ9 hq h => ?_)
      refine k_X8_putBack hq cx hV mk_5_123 ⟨Nat.le_of_ble_eq_true rfl, Nat.le_of_ble_eq_true rfl⟩ ⟨Nat.zero_le _, Nat.zero_le _⟩ hl.1 (Nat.le_of_ble_eq_true rfl) dX9_odds_59 (fun H locs hV => ?_)
      refine lv_aload_n hx hb dX9_odds_62 rfl (lv_at hl 0 rfl) ?_
      refine G_X9_whereabouts cx hV mk_2_148 dX9_odds_63 ?_
      refine lv_iload_n hx hb dX9_odds_66 rfl (lv_at hl 1 rfl) ?_
      refine bd_e h (fun v10 hq h => ?_)
      refine k_X8_share hq cx hV mk_5_156 ⟨Nat.le_of_ble_eq_true rfl, Nat.le_of_ble_eq_true rfl⟩ ⟨Nat.zero_le _, Nat.zero_le _⟩ hl.1 (Nat.le_of_ble_eq_true rfl) dX9_odds_67 (fun H locs hV => ?_)
      refine lv_aload_n hx hb dX9_odds_70 rfl (lv_at hl 0 rfl) ?_
      refine G_X9_whereabouts cx hV mk_2_148 dX9_odds_71 ?_
      refine G_X8_whole cx hV mk_2_14 dX9_odds_74 ?_
      refine lv_iload hx hb dX9_odds_77 (lv_at hl 4 rfl) ?_
      refine bd_e h (fun v11 hq h => ?_)
      refine k_X9_leastTerms hq cx hV mk_5_157 ⟨Nat.le_of_ble_eq_true rfl, Nat.le_of_ble_eq_true rfl⟩ ⟨Nat.zero_le _, Nat.zero_le _⟩ hl.1 (Nat.le_of_ble_eq_true rfl) dX9_odds_79 (fun H locs hV => ?_)
      have h := congrArg some (Sum.inl.inj (Option.some.inj h))
      obtain ⟨h1, h2⟩ := Prod.mk.inj (Option.some.inj h)
      subst h1
      subst h2
      subst hQ
      exact r_lret cx hr hlk hV dX9_odds_82
    have hj40 : ∀ (w12 : Int32) (w13 : Int32) (w14 : Int32) (w15 : Int32) (σ16 : St) (H : Heap) (locs : List Loc) (ls : Array Slot), x_X9_odds_b40 w12 w13 w14 w15 σ16 = some (.inl (rv, σf)) → AtW E (wC E σ16 ++ X) A s H locs → lv_has ls 5 [(0, .ref (eA E 0)), (1, .int w12), (2, .int w13), (3, .int w14), (4, .int w15)] → W p l e rm_X9_odds s m a below meth c H locs 0 0 QQ (F0 m 40 ls [.ref (eA E 0)]) := by
      intro w12 w13 w14 w15 σ16 H locs ls h hV hl
      unfold x_X9_odds_b40 at h
      refine lv_iconst (v := 1) hx hb dX9_odds_40 (by decide) ?_
      refine lv_goto (tgt := 45) hx hb dX9_odds_41 (by decide) ?_
      exact hj45 w12 w13 w14 w15 1 σ16 _ _ _ h hV (lv_sub hl [0, 1, 2, 3, 4] rfl)
    have hj25 : ∀ (w17 : Int32) (w18 : Int32) (w19 : Int32) (w20 : Int32) (w21 : Int32) (σ22 : St) (H : Heap) (locs : List Loc) (ls : Array Slot), x_X9_odds_b25 w17 w18 w19 w20 w21 σ22 = some (.inl (rv, σf)) → AtW E (wC E σ22 ++ X) A s H locs → lv_has ls 5 [(0, .ref (eA E 0)), (1, .int w17), (2, .int w18), (3, .int w19), (4, .int w20)] → W p l e rm_X9_odds s m a below meth c H locs 0 0 QQ (F0 m 25 ls [.int w21, .ref (eA E 0)]) := by
      intro w17 w18 w19 w20 w21 σ22 H locs ls h hV hl
      unfold x_X9_odds_b25 at h
      refine bt_e h (fun σ23 hq h => ?_) (fun q hq h => ?_)
      rotate_left
      · exact (inrl' h).elim
      refine k_X9_need hq cx hV hF mk_3_178 ⟨Nat.le_of_ble_eq_true rfl, Nat.le_of_ble_eq_true rfl⟩ ⟨Nat.zero_le _, Nat.zero_le _⟩ hl.1 (Nat.le_of_ble_eq_true rfl) dX9_odds_25 (fun H locs hV => ?_)
      refine lv_aload_n hx hb dX9_odds_28 rfl (lv_at hl 0 rfl) ?_
      refine lv_iload hx hb dX9_odds_29 (lv_at hl 4 rfl) ?_
      refine lv_if_eq (tgt := 40) hx hb dX9_odds_31 (by decide) (fun hc => ?_) (fun hc => ?_)
      · have h := ifp hc h
        exact hj40 w17 w18 w19 w20 σ23 _ _ _ h hV (lv_sub hl [0, 1, 2, 3, 4] rfl)
      · have h := ifn hc h
        refine lv_iload hx hb dX9_odds_34 (lv_at hl 4 rfl) ?_
        refine lv_iconst (v := 1) hx hb dX9_odds_36 (by decide) ?_
        refine lv_icmp_ne (tgt := 44) hx hb dX9_odds_37 (by decide) (fun hc => ?_) (fun hc => ?_)
        · have h := ifn hc h
          refine lv_iconst (v := 0) hx hb dX9_odds_44 (by decide) ?_
          exact hj45 w17 w18 w19 w20 0 σ23 _ _ _ h hV (lv_sub hl [0, 1, 2, 3, 4] rfl)
        · have h := ifp hc h
          exact hj40 w17 w18 w19 w20 σ23 _ _ _ h hV (lv_sub hl [0, 1, 2, 3, 4] rfl)
    have hj24 : ∀ (w24 : Int32) (w25 : Int32) (w26 : Int32) (w27 : Int32) (σ28 : St) (H : Heap) (locs : List Loc) (ls : Array Slot), x_X9_odds_b24 w24 w25 w26 w27 σ28 = some (.inl (rv, σf)) → AtW E (wC E σ28 ++ X) A s H locs → lv_has ls 5 [(0, .ref (eA E 0)), (1, .int w24), (2, .int w25), (3, .int w26), (4, .int w27)] → W p l e rm_X9_odds s m a below meth c H locs 0 0 QQ (F0 m 24 ls [.ref (eA E 0)]) := by
      intro w24 w25 w26 w27 σ28 H locs ls h hV hl
      unfold x_X9_odds_b24 at h
      refine lv_iconst (v := 0) hx hb dX9_odds_24 (by decide) ?_
      exact hj25 w24 w25 w26 w27 0 σ28 _ _ _ h hV (lv_sub hl [0, 1, 2, 3, 4] rfl)
    refine lv_aload_n hx hb dX9_odds_0 rfl (lv_at hl 0 rfl) ?_
    refine lv_iload_n hx hb dX9_odds_1 rfl (lv_at hl 1 rfl) ?_
    refine bt_e h (fun σ29 hq h => ?_) (fun q hq h => ?_)
    rotate_left
    · exact (inrl' h).elim
    refine k_X9_needCrate hq cx hV hF mk_4_197 ⟨Nat.le_of_ble_eq_true rfl, Nat.le_of_ble_eq_true rfl⟩ ⟨Nat.zero_le _, Nat.zero_le _⟩ hl.1 (Nat.le_of_ble_eq_true rfl) dX9_odds_2 (fun H locs hV => ?_)
    refine lv_aload_n hx hb dX9_odds_5 rfl (lv_at hl 0 rfl) ?_
    refine lv_iload_n hx hb dX9_odds_6 rfl (lv_at hl 2 rfl) ?_
    refine bt_e h (fun σ30 hq h => ?_) (fun q hq h => ?_)
    rotate_left
    · exact (inrl' h).elim
    refine k_X9_needSleeve hq cx hV hF mk_4_237 ⟨Nat.le_of_ble_eq_true rfl, Nat.le_of_ble_eq_true rfl⟩ ⟨Nat.zero_le _, Nat.zero_le _⟩ hl.1 (Nat.le_of_ble_eq_true rfl) dX9_odds_7 (fun H locs hV => ?_)
    refine lv_aload_n hx hb dX9_odds_10 rfl (lv_at hl 0 rfl) ?_
    refine lv_iload_n hx hb dX9_odds_11 rfl (lv_at hl 3 rfl) ?_
    refine lv_if_lt (tgt := 24) hx hb dX9_odds_12 (by decide) (fun hc => ?_) (fun hc => ?_)
    · have h := ifp hc h
      exact hj24 p1 p2 p3 p4 σ30 _ _ _ h hV (lv_sub hl [0, 1, 2, 3, 4] rfl)
    · have h := ifn hc h
      refine lv_iload_n hx hb dX9_odds_15 rfl (lv_at hl 3 rfl) ?_
      refine lv_iconst (v := 4) hx hb dX9_odds_16 (by decide) ?_
      refine lv_icmp_gt (tgt := 24) hx hb dX9_odds_17 (by decide) (fun hc => ?_) (fun hc => ?_)
      · have h := ifp hc h
        exact hj24 p1 p2 p3 p4 σ30 _ _ _ h hV (lv_sub hl [0, 1, 2, 3, 4] rfl)
      · have h := ifn hc h
        refine lv_iconst (v := 1) hx hb dX9_odds_20 (by decide) ?_
        refine lv_goto (tgt := 25) hx hb dX9_odds_21 (by decide) ?_
        exact hj25 p1 p2 p3 p4 1 σ30 _ _ _ h hV (lv_sub hl [0, 1, 2, 3, 4] rfl)
  rw [hH, hlocs] at goal
  exact goal
set_option maxHeartbeats 4000000 in
set_option maxRecDepth 100000 in
theorem t_X9_odds {l : Launch} (hT : l.stackTraces = false) {E : EV} {X : va_W} {σ : St} {p1 : Int32} {p2 : Int32} {p3 : Int32} {p4 : Int32} {nx : Nat} {σf : St} (h : x_X9_odds p1 p2 p3 p4 σ = some (.inr (nx, σf))) : CXF l yX9_odds cX9_odds 5 (some .long) rmx_X9_odds [.ref (eA E 0), .int p1, .int p2, .int p3, .int p4] E (wC E σ ++ X) (wC E σf ++ X) (exN nx) := by
  refine CXF.start (by decide) (Nat.le_of_ble_eq_true rfl) (fun p e s m a below meth c A ls cx hx0 hlk hV hF hl => ?_)
  have cx : CallFix p m c cX9_odds 5 s a TBL RX9 := cx
  have hx := cx.1
  have hb := cx.2.1
  have hl : lv_has ls 5 [(0, .ref (eA E 0)), (1, .int p1), (2, .int p2), (3, .int p3), (4, .int p4)] := hl
  generalize hQ : EX E (wC E σf ++ X) (exN nx) A s a below = QQ
  obtain ⟨H, hH⟩ : ∃ H, H = s.heap := ⟨_, rfl⟩
  obtain ⟨locs, hlocs⟩ : ∃ z, z = ([] : List Loc) := ⟨_, rfl⟩
  have hV : AtW E (wC E σ ++ X) A s H locs := by rw [hH, hlocs]; exact hV
  have goal : W p l e rmx_X9_odds s m a below meth c H locs 0 0 QQ (F0 m 0 ls []) := by
    unfold x_X9_odds at h
    have hj45 : ∀ (w1 : Int32) (w2 : Int32) (w3 : Int32) (w4 : Int32) (w5 : Int32) (σ6 : St) (H : Heap) (locs : List Loc) (ls : Array Slot), x_X9_odds_b45 w1 w2 w3 w4 w5 σ6 = some (.inr (nx, σf)) → AtW E (wC E σ6 ++ X) A s H locs → lv_has ls 5 [(0, .ref (eA E 0)), (1, .int w1), (2, .int w2), (3, .int w3), (4, .int w4)] → W p l e rmx_X9_odds s m a below meth c H locs 0 0 QQ (F0 m 45 ls [.int w5, .ref (eA E 0)]) := by
      intro w1 w2 w3 w4 w5 σ6 H locs ls h hV hl
      unfold x_X9_odds_b45 at h
      refine bt_e h (fun σ7 hq h => ?_) (fun q hq h => ?_)
      rotate_left
      · have h := Sum.inr.inj h
        subst h
        subst hQ
        exact kx_X9_need hT hq cx hV hF hx0 hlk mk_3_178 ⟨Nat.le_of_ble_eq_true rfl, Nat.le_of_ble_eq_true rfl⟩ ⟨Nat.le_of_ble_eq_true rfl, Nat.le_of_ble_eq_true rfl⟩ hl.1 (Nat.le_of_ble_eq_true rfl) dX9_odds_45
      refine k_X9_need hq cx hV hF mk_3_178 ⟨Nat.le_of_ble_eq_true rfl, Nat.le_of_ble_eq_true rfl⟩ ⟨Nat.zero_le _, Nat.zero_le _⟩ hl.1 (Nat.le_of_ble_eq_true rfl) dX9_odds_45 (fun H locs hV => ?_)
      refine lv_aload_n hx hb dX9_odds_48 rfl (lv_at hl 0 rfl) ?_
      refine lv_iload_n hx hb dX9_odds_49 rfl (lv_at hl 2 rfl) ?_
      refine bt_e h (fun σ8 hq h => ?_) (fun q hq h => ?_)
      rotate_left
      · have h := Sum.inr.inj h
        subst h
        subst hQ
        exact kx_X9_needLying hT hq cx hV hF hx0 hlk mk_5_54 ⟨Nat.le_of_ble_eq_true rfl, Nat.le_of_ble_eq_true rfl⟩ ⟨Nat.le_of_ble_eq_true rfl, Nat.le_of_ble_eq_true rfl⟩ hl.1 (Nat.le_of_ble_eq_true rfl) dX9_odds_50
      refine k_X9_needLying hq cx hV hF mk_5_54 ⟨Nat.le_of_ble_eq_true rfl, Nat.le_of_ble_eq_true rfl⟩ ⟨Nat.zero_le _, Nat.zero_le _⟩ hl.1 (Nat.le_of_ble_eq_true rfl) dX9_odds_50 (fun H locs hV => ?_)
      refine lv_aload_n hx hb dX9_odds_53 rfl (lv_at hl 0 rfl) ?_
      refine G_X9_whereabouts cx hV mk_2_148 dX9_odds_54 ?_
      refine lv_iload_n hx hb dX9_odds_57 rfl (lv_at hl 2 rfl) ?_
      refine lv_iload_n hx hb dX9_odds_58 rfl (lv_at hl 3 rfl) ?_
      refine bd_e h (fun σ9 hq h => ?_)
      refine k_X8_putBack hq cx hV mk_5_123 ⟨Nat.le_of_ble_eq_true rfl, Nat.le_of_ble_eq_true rfl⟩ ⟨Nat.zero_le _, Nat.zero_le _⟩ hl.1 (Nat.le_of_ble_eq_true rfl) dX9_odds_59 (fun H locs hV => ?_)
      refine lv_aload_n hx hb dX9_odds_62 rfl (lv_at hl 0 rfl) ?_
      refine G_X9_whereabouts cx hV mk_2_148 dX9_odds_63 ?_
      refine lv_iload_n hx hb dX9_odds_66 rfl (lv_at hl 1 rfl) ?_
      refine bd_e h (fun v10 hq h => ?_)
      refine k_X8_share hq cx hV mk_5_156 ⟨Nat.le_of_ble_eq_true rfl, Nat.le_of_ble_eq_true rfl⟩ ⟨Nat.zero_le _, Nat.zero_le _⟩ hl.1 (Nat.le_of_ble_eq_true rfl) dX9_odds_67 (fun H locs hV => ?_)
      refine lv_aload_n hx hb dX9_odds_70 rfl (lv_at hl 0 rfl) ?_
      refine G_X9_whereabouts cx hV mk_2_148 dX9_odds_71 ?_
      refine G_X8_whole cx hV mk_2_14 dX9_odds_74 ?_
      refine lv_iload hx hb dX9_odds_77 (lv_at hl 4 rfl) ?_
      refine bd_e h (fun v11 hq h => ?_)
      refine k_X9_leastTerms hq cx hV mk_5_157 ⟨Nat.le_of_ble_eq_true rfl, Nat.le_of_ble_eq_true rfl⟩ ⟨Nat.zero_le _, Nat.zero_le _⟩ hl.1 (Nat.le_of_ble_eq_true rfl) dX9_odds_79 (fun H locs hV => ?_)
      exact (inlr h).elim
    have hj40 : ∀ (w12 : Int32) (w13 : Int32) (w14 : Int32) (w15 : Int32) (σ16 : St) (H : Heap) (locs : List Loc) (ls : Array Slot), x_X9_odds_b40 w12 w13 w14 w15 σ16 = some (.inr (nx, σf)) → AtW E (wC E σ16 ++ X) A s H locs → lv_has ls 5 [(0, .ref (eA E 0)), (1, .int w12), (2, .int w13), (3, .int w14), (4, .int w15)] → W p l e rmx_X9_odds s m a below meth c H locs 0 0 QQ (F0 m 40 ls [.ref (eA E 0)]) := by
      intro w12 w13 w14 w15 σ16 H locs ls h hV hl
      unfold x_X9_odds_b40 at h
      refine lv_iconst (v := 1) hx hb dX9_odds_40 (by decide) ?_
      refine lv_goto (tgt := 45) hx hb dX9_odds_41 (by decide) ?_
      exact hj45 w12 w13 w14 w15 1 σ16 _ _ _ h hV (lv_sub hl [0, 1, 2, 3, 4] rfl)
    have hj25 : ∀ (w17 : Int32) (w18 : Int32) (w19 : Int32) (w20 : Int32) (w21 : Int32) (σ22 : St) (H : Heap) (locs : List Loc) (ls : Array Slot), x_X9_odds_b25 w17 w18 w19 w20 w21 σ22 = some (.inr (nx, σf)) → AtW E (wC E σ22 ++ X) A s H locs → lv_has ls 5 [(0, .ref (eA E 0)), (1, .int w17), (2, .int w18), (3, .int w19), (4, .int w20)] → W p l e rmx_X9_odds s m a below meth c H locs 0 0 QQ (F0 m 25 ls [.int w21, .ref (eA E 0)]) := by
      intro w17 w18 w19 w20 w21 σ22 H locs ls h hV hl
      unfold x_X9_odds_b25 at h
      refine bt_e h (fun σ23 hq h => ?_) (fun q hq h => ?_)
      rotate_left
      · have h := Sum.inr.inj h
        subst h
        subst hQ
        exact kx_X9_need hT hq cx hV hF hx0 hlk mk_3_178 ⟨Nat.le_of_ble_eq_true rfl, Nat.le_of_ble_eq_true rfl⟩ ⟨Nat.le_of_ble_eq_true rfl, Nat.le_of_ble_eq_true rfl⟩ hl.1 (Nat.le_of_ble_eq_true rfl) dX9_odds_25
      refine k_X9_need hq cx hV hF mk_3_178 ⟨Nat.le_of_ble_eq_true rfl, Nat.le_of_ble_eq_true rfl⟩ ⟨Nat.zero_le _, Nat.zero_le _⟩ hl.1 (Nat.le_of_ble_eq_true rfl) dX9_odds_25 (fun H locs hV => ?_)
      refine lv_aload_n hx hb dX9_odds_28 rfl (lv_at hl 0 rfl) ?_
      refine lv_iload hx hb dX9_odds_29 (lv_at hl 4 rfl) ?_
      refine lv_if_eq (tgt := 40) hx hb dX9_odds_31 (by decide) (fun hc => ?_) (fun hc => ?_)
      · have h := ifp hc h
        exact hj40 w17 w18 w19 w20 σ23 _ _ _ h hV (lv_sub hl [0, 1, 2, 3, 4] rfl)
      · have h := ifn hc h
        refine lv_iload hx hb dX9_odds_34 (lv_at hl 4 rfl) ?_
        refine lv_iconst (v := 1) hx hb dX9_odds_36 (by decide) ?_
        refine lv_icmp_ne (tgt := 44) hx hb dX9_odds_37 (by decide) (fun hc => ?_) (fun hc => ?_)
        · have h := ifn hc h
          refine lv_iconst (v := 0) hx hb dX9_odds_44 (by decide) ?_
          exact hj45 w17 w18 w19 w20 0 σ23 _ _ _ h hV (lv_sub hl [0, 1, 2, 3, 4] rfl)
        · have h := ifp hc h
          exact hj40 w17 w18 w19 w20 σ23 _ _ _ h hV (lv_sub hl [0, 1, 2, 3, 4] rfl)
    have hj24 : ∀ (w24 : Int32) (w25 : Int32) (w26 : Int32) (w27 : Int32) (σ28 : St) (H : Heap) (locs : List Loc) (ls : Array Slot), x_X9_odds_b24 w24 w25 w26 w27 σ28 = some (.inr (nx, σf)) → AtW E (wC E σ28 ++ X) A s H locs → lv_has ls 5 [(0, .ref (eA E 0)), (1, .int w24), (2, .int w25), (3, .int w26), (4, .int w27)] → W p l e rmx_X9_odds s m a below meth c H locs 0 0 QQ (F0 m 24 ls [.ref (eA E 0)]) := by
      intro w24 w25 w26 w27 σ28 H locs ls h hV hl
      unfold x_X9_odds_b24 at h
      refine lv_iconst (v := 0) hx hb dX9_odds_24 (by decide) ?_
      exact hj25 w24 w25 w26 w27 0 σ28 _ _ _ h hV (lv_sub hl [0, 1, 2, 3, 4] rfl)
    refine lv_aload_n hx hb dX9_odds_0 rfl (lv_at hl 0 rfl) ?_
    refine lv_iload_n hx hb dX9_odds_1 rfl (lv_at hl 1 rfl) ?_
    refine bt_e h (fun σ29 hq h => ?_) (fun q hq h => ?_)
    rotate_left
    · have h := Sum.inr.inj h
      subst h
      subst hQ
      exact kx_X9_needCrate hT hq cx hV hF hx0 hlk mk_4_197 ⟨Nat.le_of_ble_eq_true rfl, Nat.le_of_ble_eq_true rfl⟩ ⟨Nat.le_of_ble_eq_true rfl, Nat.le_of_ble_eq_true rfl⟩ hl.1 (Nat.le_of_ble_eq_true rfl) dX9_odds_2
    refine k_X9_needCrate hq cx hV hF mk_4_197 ⟨Nat.le_of_ble_eq_true rfl, Nat.le_of_ble_eq_true rfl⟩ ⟨Nat.zero_le _, Nat.zero_le _⟩ hl.1 (Nat.le_of_ble_eq_true rfl) dX9_odds_2 (fun H locs hV => ?_)
    refine lv_aload_n hx hb dX9_odds_5 rfl (lv_at hl 0 rfl) ?_
    refine lv_iload_n hx hb dX9_odds_6 rfl (lv_at hl 2 rfl) ?_
    refine bt_e h (fun σ30 hq h => ?_) (fun q hq h => ?_)
    rotate_left
    · have h := Sum.inr.inj h
      subst h
      subst hQ
      exact kx_X9_needSleeve hT hq cx hV hF hx0 hlk mk_4_237 ⟨Nat.le_of_ble_eq_true rfl, Nat.le_of_ble_eq_true rfl⟩ ⟨Nat.le_of_ble_eq_true rfl, Nat.le_of_ble_eq_true rfl⟩ hl.1 (Nat.le_of_ble_eq_true rfl) dX9_odds_7
    refine k_X9_needSleeve hq cx hV hF mk_4_237 ⟨Nat.le_of_ble_eq_true rfl, Nat.le_of_ble_eq_true rfl⟩ ⟨Nat.zero_le _, Nat.zero_le _⟩ hl.1 (Nat.le_of_ble_eq_true rfl) dX9_odds_7 (fun H locs hV => ?_)
    refine lv_aload_n hx hb dX9_odds_10 rfl (lv_at hl 0 rfl) ?_
    refine lv_iload_n hx hb dX9_odds_11 rfl (lv_at hl 3 rfl) ?_
    refine lv_if_lt (tgt := 24) hx hb dX9_odds_12 (by decide) (fun hc => ?_) (fun hc => ?_)
    · have h := ifp hc h
      exact hj24 p1 p2 p3 p4 σ30 _ _ _ h hV (lv_sub hl [0, 1, 2, 3, 4] rfl)
    · have h := ifn hc h
      refine lv_iload_n hx hb dX9_odds_15 rfl (lv_at hl 3 rfl) ?_
      refine lv_iconst (v := 4) hx hb dX9_odds_16 (by decide) ?_
      refine lv_icmp_gt (tgt := 24) hx hb dX9_odds_17 (by decide) (fun hc => ?_) (fun hc => ?_)
      · have h := ifp hc h
        exact hj24 p1 p2 p3 p4 σ30 _ _ _ h hV (lv_sub hl [0, 1, 2, 3, 4] rfl)
      · have h := ifn hc h
        refine lv_iconst (v := 1) hx hb dX9_odds_20 (by decide) ?_
        refine lv_goto (tgt := 25) hx hb dX9_odds_21 (by decide) ?_
        exact hj25 p1 p2 p3 p4 1 σ30 _ _ _ h hV (lv_sub hl [0, 1, 2, 3, 4] rfl)
  rw [hH, hlocs] at goal
  exact goal
theorem k_X9_odds {p : Program} {l : Launch} {e : Env} {R : Room} {s : State} {m : MethodId} {a : Array Value} {below : List Frame} {meth : Method} {c : Code} {H : Heap} {locs : List Loc} {cells slots : Nat} {Q : State → Prop} {cc : ByteArray} {own : String} {nL pc : Nat} {ls : Array Slot} {rest : List Value} {A : Nat → Prop} {E : EV} {X : va_W} {σ : St} {p1 : Int32} {p2 : Int32} {p3 : Int32} {p4 : Int32} {rv : Int64} {σf : St} (h : x_X9_odds p1 p2 p3 p4 σ = some (.inl (rv, σf))) (cx : CallFix p m c cc nL s a TBL own) (hV : AtW E (wC E σ ++ X) A s H locs) (hF : FZ E A s s.heap) {idx : Nat} (w1 : Cond.methodLink own idx yX9_odds ∈ TBL) (hR : (rm_X9_odds).frames + 1 ≤ R.frames ∧ 8 + (5 + 11) + (rm_X9_odds).locals ≤ R.locals) (hcs : cells ≤ R.cells ∧ slots ≤ R.slots) (hls : ls.size = nL) (hcat : (rest.map fun v => v.category).sum ≤ 8) (d : decode cc pc = .ok (.invokevirtual idx, 3)) (kk : ∀ (H1 : Heap) (locs1 : List Loc), AtW E (wC E σf ++ X) A s H1 locs1 → W p l e R s m a below meth c H1 locs1 cells slots Q (F0 m (pc + 3) ls (.long rv :: rest))) : W p l e R s m a below meth c H locs cells slots Q (F0 m pc ls (.int p4 :: .int p3 :: .int p2 :: .int p1 :: .ref (eA E 0) :: rest)) :=
  r_callFl (n := 4) (As := [.int p1, .int p2, .int p3, .int p4]) (q0 := 0) (ci := 9) (qq := (RX9, TX9, 14)) (c_X9_odds h) wC_fst rfl rfl mk_5_120 mk_5_121 mk_1_1 mk_5_122 (by decide +kernel) rfl ⟨rfl, rfl⟩ cx hV hF w1 hR hcs hls rfl hcat d kk
theorem kx_X9_odds {p : Program} {l : Launch} {e : Env} {R : Room} {s : State} {m : MethodId} {a : Array Value} {below : List Frame} {meth : Method} {c : Code} {H : Heap} {locs : List Loc} {cc : ByteArray} {own : String} {nL pc : Nat} {ls : Array Slot} {rest : List Value} {A : Nat → Prop} {E : EV} {X : va_W} {σ : St} {p1 : Int32} {p2 : Int32} {p3 : Int32} {p4 : Int32} (hT : l.stackTraces = false) {nx : Nat} {σf : St} (h : x_X9_odds p1 p2 p3 p4 σ = some (.inr (nx, σf))) (cx : CallFix p m c cc nL s a TBL own) (hV : AtW E (wC E σ ++ X) A s H locs) (hF : FZ E A s s.heap) (hx0 : ∀ x ∈ c.exceptionTable.toList, False) (hlk : meth.locks = false) {idx : Nat} (w1 : Cond.methodLink own idx yX9_odds ∈ TBL) (hR : (rmx_X9_odds).frames + 1 ≤ R.frames ∧ 8 + (5 + 11) + (rmx_X9_odds).locals ≤ R.locals) (hcs : 1 ≤ R.cells ∧ 6 ≤ R.slots) (hls : ls.size = nL) (hcat : (rest.map fun v => v.category).sum ≤ 8) (d : decode cc pc = .ok (.invokevirtual idx, 3)) : W p l e R s m a below meth c H locs 0 0 (EX E (wC E σf ++ X) (exN nx) A s a below) (F0 m pc ls (.int p4 :: .int p3 :: .int p2 :: .int p1 :: .ref (eA E 0) :: rest)) :=
  r_callx (n := 4) (As := [.int p1, .int p2, .int p3, .int p4]) (q0 := 0) (ci := 9) (qq := (RX9, TX9, 14)) (t_X9_odds hT h) rfl rfl mk_5_120 mk_5_121 mk_1_1 mk_5_122 (by decide +kernel) rfl ⟨rfl, rfl⟩ cx hV hF hx0 hlk w1 hR hcs hls rfl hcat d
def x_X9_hidden_L23 (w1 : Int32) (σ4 : St) (u5 : Int32) (u6 : Int32) : Option (Bool × (Int32 × Int32)) :=
  (if (gI σ4 1) ≤ u6 then
  some (false, (u5, u6))
  else
  bd (x_X5_lies 0 u6 σ4) fun v7 =>
  (if v7 = 0 then
  some (true, (u5, (u6 + 1)))
  else
  bd (x_X8_canBe u6 w1 σ4) fun v8 =>
  (if v8 = 0 then
  some (true, ((u5 ||| (1 <<< (u6 &&& 31))), (u6 + 1)))
  else
  some (true, (u5, (u6 + 1))))))
def x_X9_hidden_b16 (w1 : Int32) (w2 : Int32) (σ3 : St) : Option ((Int32 × St) ⊕ (Nat × St)) :=
  bt (x_X9_need w2 σ3) fun σ4 =>
  bd2 (lp (fun v : (Int32 × Int32) => x_X9_hidden_L23 w1 σ4 v.1 v.2) FU (0, 0)) fun z9 z10 =>
  some (.inl (z9, σ4))
def x_X9_hidden_b15 (w11 : Int32) (σ12 : St) : Option ((Int32 × St) ⊕ (Nat × St)) :=
  x_X9_hidden_b16 w11 0 σ12
def x_X9_hidden (p1 : Int32) (σ : St) : Option ((Int32 × St) ⊕ (Nat × St)) :=
  (if p1 < 0 then
  x_X9_hidden_b15 p1 σ
  else
  (if 8 < p1 then
  x_X9_hidden_b15 p1 σ
  else
  x_X9_hidden_b16 p1 1 σ))
abbrev rm_X9_hidden : Room := { frames := 4, cells := 0, slots := 0, locals := 90 }
abbrev rmx_X9_hidden : Room := { frames := 7, cells := 1, slots := 6, locals := 103 }
set_option maxHeartbeats 4000000 in
set_option maxRecDepth 100000 in
theorem c_X9_hidden {l : Launch} {E : EV} {X : va_W} {σ : St} {p1 : Int32} {rv : Int32} {σf : St} (h : x_X9_hidden p1 σ = some (.inl (rv, σf))) : CMF l yX9_hidden cX9_hidden 4 (some .int) rm_X9_hidden [.ref (eA E 0), .int p1] E (wC E σ ++ X) (wC E σf ++ X) (qI rv) := by
  refine CMF.start (by decide) (Nat.le_of_ble_eq_true rfl) (fun p e s m a below meth c A ls cx hr hlk hV hF hl => ?_)
  have cx : CallFix p m c cX9_hidden 4 s a TBL RX9 := cx
  have hx := cx.1
  have hb := cx.2.1
  have hl : lv_has ls 4 [(0, .ref (eA E 0)), (1, .int p1)] := hl
  generalize hQ : EQ E (wC E σf ++ X) (qI rv) A s a below = QQ
  obtain ⟨H, hH⟩ : ∃ H, H = s.heap := ⟨_, rfl⟩
  obtain ⟨locs, hlocs⟩ : ∃ z, z = ([] : List Loc) := ⟨_, rfl⟩
  have hV : AtW E (wC E σ ++ X) A s H locs := by rw [hH, hlocs]; exact hV
  have goal : W p l e rm_X9_hidden s m a below meth c H locs 0 0 QQ (F0 m 0 ls []) := by
    unfold x_X9_hidden at h
    have hj16 : ∀ (w1 : Int32) (w2 : Int32) (σ3 : St) (H : Heap) (locs : List Loc) (ls : Array Slot), x_X9_hidden_b16 w1 w2 σ3 = some (.inl (rv, σf)) → AtW E (wC E σ3 ++ X) A s H locs → lv_has ls 4 [(0, .ref (eA E 0)), (1, .int w1)] → W p l e rm_X9_hidden s m a below meth c H locs 0 0 QQ (F0 m 16 ls [.int w2, .ref (eA E 0)]) := by
      intro w1 w2 σ3 H locs ls h hV hl
      unfold x_X9_hidden_b16 at h
      refine bt_e h (fun σ4 hq h => ?_) (fun q hq h => ?_)
      rotate_left
      · exact (inrl' h).elim
      refine k_X9_need hq cx hV hF mk_3_178 ⟨Nat.le_of_ble_eq_true rfl, Nat.le_of_ble_eq_true rfl⟩ ⟨Nat.zero_le _, Nat.zero_le _⟩ hl.1 (Nat.le_of_ble_eq_true rfl) dX9_hidden_16 (fun H locs hV => ?_)
      refine lv_iconst (v := 0) hx hb dX9_hidden_19 (by decide) ?_
      refine lv_istore_n (lv' := [(2, .int 0), (0, .ref (eA E 0)), (1, .int w1)]) hx hb dX9_hidden_20 rfl hl (by decide) rfl (fun ls hl => ?_)
      refine lv_iconst (v := 0) hx hb dX9_hidden_21 (by decide) ?_
      refine lv_istore_n (lv' := [(3, .int 0), (2, .int 0), (0, .ref (eA E 0)), (1, .int w1)]) hx hb dX9_hidden_22 rfl hl (by decide) rfl (fun ls hl => ?_)
      refine bd2_e h (fun z9 z10 ho h => ?_)
      refine (lp_rule (G := (fun v : (Int32 × Int32) => ∀ (H : Heap) (locs : List Loc) (ls : Array Slot), AtW E (wC E σ4 ++ X) A s H locs → lv_has ls 4 [(0, .ref (eA E 0)), (1, .int w1), (2, .int v.1), (3, .int v.2)] → W p l e rm_X9_hidden s m a below meth c H locs 0 0 QQ (F0 m 23 ls []))) (K := (fun v : (Int32 × Int32) => ∀ (H : Heap) (locs : List Loc) (ls : Array Slot), AtW E (wC E σ4 ++ X) A s H locs → lv_has ls 4 [(2, .int v.1)] → W p l e rm_X9_hidden s m a below meth c H locs 0 0 QQ (F0 m 69 ls []))) (fun v b1 y1 h hT1 hF1 => ?_) ho (fun H locs ls hV hl => ?_)) _ _ _ hV (lv_sub hl [2, 3, 1, 0] rfl)
      · obtain ⟨u5, u6⟩ := v
        have h : x_X9_hidden_L23 w1 σ4 u5 u6 = some (b1, y1) := h
        intro H locs ls hV hl
        have hV : AtW E (wC E σ4 ++ X) A s H locs := hV
        have hl : lv_has ls 4 [(0, .ref (eA E 0)), (1, .int w1), (2, .int u5), (3, .int u6)] := hl
        unfold x_X9_hidden_L23 at h
        refine lv_iload_n hx hb dX9_hidden_23 rfl (lv_at hl 3 rfl) ?_
        refine lv_aload_n hx hb dX9_hidden_24 rfl (lv_at hl 0 rfl) ?_
        refine G_X9_told cx hV mk_2_141 dX9_hidden_25 ?_
        refine G_X7_sleeves cx hV (by decide) mk_1_60 dX9_hidden_28 ?_
        refine lv_icmp_ge (tgt := 69) hx hb dX9_hidden_31 (by decide) (fun hc => ?_) (fun hc => ?_)
        · have h := ifp hc h
          cases h
          exact hF1 rfl _ _ _ hV (lv_sub hl [2] rfl)
        · have h := ifn hc h
          refine lv_aload_n hx hb dX9_hidden_34 rfl (lv_at hl 0 rfl) ?_
          refine G_X9_stock cx hV mk_2_142 dX9_hidden_35 ?_
          refine lv_iload_n hx hb dX9_hidden_38 rfl (lv_at hl 3 rfl) ?_
          refine bd_e h (fun v7 hq h => ?_)
          refine k_X5_lies (by decide) hq cx hV mk_5_21 ⟨Nat.le_of_ble_eq_true rfl, Nat.le_of_ble_eq_true rfl⟩ ⟨Nat.zero_le _, Nat.zero_le _⟩ hl.1 (Nat.le_of_ble_eq_true rfl) dX9_hidden_39 (fun H locs hV => ?_)
          refine lv_if_eq (tgt := 63) hx hb dX9_hidden_42 (by decide) (fun hc => ?_) (fun hc => ?_)
          · have h := ifp hc h
            refine lv_iinc (v := (u6 + 1)) (lv' := [(3, .int (u6 + 1)), (0, .ref (eA E 0)), (1, .int w1), (2, .int u5)]) hx hb dX9_hidden_63 hl (k := 3) rfl rfl (by decide) rfl (fun ls hl => ?_)
            refine lv_goto (tgt := 23) hx hb dX9_hidden_66 (by decide) ?_
            cases h
            exact hT1 rfl _ _ _ hV (lv_sub hl [1, 2, 3, 0] rfl)
          · have h := ifn hc h
            refine lv_aload_n hx hb dX9_hidden_45 rfl (lv_at hl 0 rfl) ?_
            refine G_X9_whereabouts cx hV mk_2_148 dX9_hidden_46 ?_
            refine lv_iload_n hx hb dX9_hidden_49 rfl (lv_at hl 3 rfl) ?_
            refine lv_iload_n hx hb dX9_hidden_50 rfl (lv_at hl 1 rfl) ?_
            refine bd_e h (fun v8 hq h => ?_)
            refine k_X8_canBe hq cx hV mk_5_170 ⟨Nat.le_of_ble_eq_true rfl, Nat.le_of_ble_eq_true rfl⟩ ⟨Nat.zero_le _, Nat.zero_le _⟩ hl.1 (Nat.le_of_ble_eq_true rfl) dX9_hidden_51 (fun H locs hV => ?_)
            refine lv_if_ne (tgt := 63) hx hb dX9_hidden_54 (by decide) (fun hc => ?_) (fun hc => ?_)
            · have h := ifn hc h
              refine lv_iinc (v := (u6 + 1)) (lv' := [(3, .int (u6 + 1)), (0, .ref (eA E 0)), (1, .int w1), (2, .int u5)]) hx hb dX9_hidden_63 hl (k := 3) rfl rfl (by decide) rfl (fun ls hl => ?_)
              refine lv_goto (tgt := 23) hx hb dX9_hidden_66 (by decide) ?_
              cases h
              exact hT1 rfl _ _ _ hV (lv_sub hl [1, 2, 3, 0] rfl)
            · have h := ifp hc h
              refine lv_iload_n hx hb dX9_hidden_57 rfl (lv_at hl 2 rfl) ?_
              refine lv_iconst (v := 1) hx hb dX9_hidden_58 (by decide) ?_
              refine lv_iload_n hx hb dX9_hidden_59 rfl (lv_at hl 3 rfl) ?_
              refine lv_ishl hx hb dX9_hidden_60 ?_
              refine lv_ior hx hb dX9_hidden_61 ?_
              refine lv_istore_n (lv' := [(2, .int (u5 ||| (1 <<< (u6 &&& 31)))), (0, .ref (eA E 0)), (1, .int w1), (3, .int u6)]) hx hb dX9_hidden_62 rfl hl (by decide) rfl (fun ls hl => ?_)
              refine lv_iinc (v := (u6 + 1)) (lv' := [(3, .int (u6 + 1)), (2, .int (u5 ||| (1 <<< (u6 &&& 31)))), (0, .ref (eA E 0)), (1, .int w1)]) hx hb dX9_hidden_63 hl (k := 3) rfl rfl (by decide) rfl (fun ls hl => ?_)
              refine lv_goto (tgt := 23) hx hb dX9_hidden_66 (by decide) ?_
              cases h
              exact hT1 rfl _ _ _ hV (lv_sub hl [2, 3, 1, 0] rfl)
      · have hV : AtW E (wC E σ4 ++ X) A s H locs := hV
        have hl : lv_has ls 4 [(2, .int z9)] := hl
        refine lv_iload_n hx hb dX9_hidden_69 rfl (lv_at hl 0 rfl) ?_
        have h := congrArg some (Sum.inl.inj (Option.some.inj h))
        obtain ⟨h1, h2⟩ := Prod.mk.inj (Option.some.inj h)
        subst h1
        subst h2
        subst hQ
        exact r_ireti cx hr hlk hV dX9_hidden_70
    have hj15 : ∀ (w11 : Int32) (σ12 : St) (H : Heap) (locs : List Loc) (ls : Array Slot), x_X9_hidden_b15 w11 σ12 = some (.inl (rv, σf)) → AtW E (wC E σ12 ++ X) A s H locs → lv_has ls 4 [(0, .ref (eA E 0)), (1, .int w11)] → W p l e rm_X9_hidden s m a below meth c H locs 0 0 QQ (F0 m 15 ls [.ref (eA E 0)]) := by
      intro w11 σ12 H locs ls h hV hl
      unfold x_X9_hidden_b15 at h
      refine lv_iconst (v := 0) hx hb dX9_hidden_15 (by decide) ?_
      exact hj16 w11 0 σ12 _ _ _ h hV (lv_sub hl [0, 1] rfl)
    refine lv_aload_n hx hb dX9_hidden_0 rfl (lv_at hl 0 rfl) ?_
    refine lv_iload_n hx hb dX9_hidden_1 rfl (lv_at hl 1 rfl) ?_
    refine lv_if_lt (tgt := 15) hx hb dX9_hidden_2 (by decide) (fun hc => ?_) (fun hc => ?_)
    · have h := ifp hc h
      exact hj15 p1 σ _ _ _ h hV (lv_sub hl [0, 1] rfl)
    · have h := ifn hc h
      refine lv_iload_n hx hb dX9_hidden_5 rfl (lv_at hl 1 rfl) ?_
      refine lv_bipush (v := 8) hx hb dX9_hidden_6 (by decide) ?_
      refine lv_icmp_gt (tgt := 15) hx hb dX9_hidden_8 (by decide) (fun hc => ?_) (fun hc => ?_)
      · have h := ifp hc h
        exact hj15 p1 σ _ _ _ h hV (lv_sub hl [0, 1] rfl)
      · have h := ifn hc h
        refine lv_iconst (v := 1) hx hb dX9_hidden_11 (by decide) ?_
        refine lv_goto (tgt := 16) hx hb dX9_hidden_12 (by decide) ?_
        exact hj16 p1 1 σ _ _ _ h hV (lv_sub hl [0, 1] rfl)
  rw [hH, hlocs] at goal
  exact goal
set_option maxHeartbeats 4000000 in
set_option maxRecDepth 100000 in
theorem t_X9_hidden {l : Launch} (hT : l.stackTraces = false) {E : EV} {X : va_W} {σ : St} {p1 : Int32} {nx : Nat} {σf : St} (h : x_X9_hidden p1 σ = some (.inr (nx, σf))) : CXF l yX9_hidden cX9_hidden 4 (some .int) rmx_X9_hidden [.ref (eA E 0), .int p1] E (wC E σ ++ X) (wC E σf ++ X) (exN nx) := by
  refine CXF.start (by decide) (Nat.le_of_ble_eq_true rfl) (fun p e s m a below meth c A ls cx hx0 hlk hV hF hl => ?_)
  have cx : CallFix p m c cX9_hidden 4 s a TBL RX9 := cx
  have hx := cx.1
  have hb := cx.2.1
  have hl : lv_has ls 4 [(0, .ref (eA E 0)), (1, .int p1)] := hl
  generalize hQ : EX E (wC E σf ++ X) (exN nx) A s a below = QQ
  obtain ⟨H, hH⟩ : ∃ H, H = s.heap := ⟨_, rfl⟩
  obtain ⟨locs, hlocs⟩ : ∃ z, z = ([] : List Loc) := ⟨_, rfl⟩
  have hV : AtW E (wC E σ ++ X) A s H locs := by rw [hH, hlocs]; exact hV
  have goal : W p l e rmx_X9_hidden s m a below meth c H locs 0 0 QQ (F0 m 0 ls []) := by
    unfold x_X9_hidden at h
    have hj16 : ∀ (w1 : Int32) (w2 : Int32) (σ3 : St) (H : Heap) (locs : List Loc) (ls : Array Slot), x_X9_hidden_b16 w1 w2 σ3 = some (.inr (nx, σf)) → AtW E (wC E σ3 ++ X) A s H locs → lv_has ls 4 [(0, .ref (eA E 0)), (1, .int w1)] → W p l e rmx_X9_hidden s m a below meth c H locs 0 0 QQ (F0 m 16 ls [.int w2, .ref (eA E 0)]) := by
      intro w1 w2 σ3 H locs ls h hV hl
      unfold x_X9_hidden_b16 at h
      refine bt_e h (fun σ4 hq h => ?_) (fun q hq h => ?_)
      rotate_left
      · have h := Sum.inr.inj h
        subst h
        subst hQ
        exact kx_X9_need hT hq cx hV hF hx0 hlk mk_3_178 ⟨Nat.le_of_ble_eq_true rfl, Nat.le_of_ble_eq_true rfl⟩ ⟨Nat.le_of_ble_eq_true rfl, Nat.le_of_ble_eq_true rfl⟩ hl.1 (Nat.le_of_ble_eq_true rfl) dX9_hidden_16
      refine k_X9_need hq cx hV hF mk_3_178 ⟨Nat.le_of_ble_eq_true rfl, Nat.le_of_ble_eq_true rfl⟩ ⟨Nat.zero_le _, Nat.zero_le _⟩ hl.1 (Nat.le_of_ble_eq_true rfl) dX9_hidden_16 (fun H locs hV => ?_)
      refine lv_iconst (v := 0) hx hb dX9_hidden_19 (by decide) ?_
      refine lv_istore_n (lv' := [(2, .int 0), (0, .ref (eA E 0)), (1, .int w1)]) hx hb dX9_hidden_20 rfl hl (by decide) rfl (fun ls hl => ?_)
      refine lv_iconst (v := 0) hx hb dX9_hidden_21 (by decide) ?_
      refine lv_istore_n (lv' := [(3, .int 0), (2, .int 0), (0, .ref (eA E 0)), (1, .int w1)]) hx hb dX9_hidden_22 rfl hl (by decide) rfl (fun ls hl => ?_)
      refine bd2_e h (fun z9 z10 ho h => ?_)
      refine (lp_rule (G := (fun v : (Int32 × Int32) => ∀ (H : Heap) (locs : List Loc) (ls : Array Slot), AtW E (wC E σ4 ++ X) A s H locs → lv_has ls 4 [(0, .ref (eA E 0)), (1, .int w1), (2, .int v.1), (3, .int v.2)] → W p l e rmx_X9_hidden s m a below meth c H locs 0 0 QQ (F0 m 23 ls []))) (K := (fun v : (Int32 × Int32) => ∀ (H : Heap) (locs : List Loc) (ls : Array Slot), AtW E (wC E σ4 ++ X) A s H locs → lv_has ls 4 [(2, .int v.1)] → W p l e rmx_X9_hidden s m a below meth c H locs 0 0 QQ (F0 m 69 ls []))) (fun v b1 y1 h hT1 hF1 => ?_) ho (fun H locs ls hV hl => ?_)) _ _ _ hV (lv_sub hl [2, 3, 1, 0] rfl)
      · obtain ⟨u5, u6⟩ := v
        have h : x_X9_hidden_L23 w1 σ4 u5 u6 = some (b1, y1) := h
        intro H locs ls hV hl
        have hV : AtW E (wC E σ4 ++ X) A s H locs := hV
        have hl : lv_has ls 4 [(0, .ref (eA E 0)), (1, .int w1), (2, .int u5), (3, .int u6)] := hl
        unfold x_X9_hidden_L23 at h
        refine lv_iload_n hx hb dX9_hidden_23 rfl (lv_at hl 3 rfl) ?_
        refine lv_aload_n hx hb dX9_hidden_24 rfl (lv_at hl 0 rfl) ?_
        refine G_X9_told cx hV mk_2_141 dX9_hidden_25 ?_
        refine G_X7_sleeves cx hV (by decide) mk_1_60 dX9_hidden_28 ?_
        refine lv_icmp_ge (tgt := 69) hx hb dX9_hidden_31 (by decide) (fun hc => ?_) (fun hc => ?_)
        · have h := ifp hc h
          cases h
          exact hF1 rfl _ _ _ hV (lv_sub hl [2] rfl)
        · have h := ifn hc h
          refine lv_aload_n hx hb dX9_hidden_34 rfl (lv_at hl 0 rfl) ?_
          refine G_X9_stock cx hV mk_2_142 dX9_hidden_35 ?_
          refine lv_iload_n hx hb dX9_hidden_38 rfl (lv_at hl 3 rfl) ?_
          refine bd_e h (fun v7 hq h => ?_)
          refine k_X5_lies (by decide) hq cx hV mk_5_21 ⟨Nat.le_of_ble_eq_true rfl, Nat.le_of_ble_eq_true rfl⟩ ⟨Nat.zero_le _, Nat.zero_le _⟩ hl.1 (Nat.le_of_ble_eq_true rfl) dX9_hidden_39 (fun H locs hV => ?_)
          refine lv_if_eq (tgt := 63) hx hb dX9_hidden_42 (by decide) (fun hc => ?_) (fun hc => ?_)
          · have h := ifp hc h
            refine lv_iinc (v := (u6 + 1)) (lv' := [(3, .int (u6 + 1)), (0, .ref (eA E 0)), (1, .int w1), (2, .int u5)]) hx hb dX9_hidden_63 hl (k := 3) rfl rfl (by decide) rfl (fun ls hl => ?_)
            refine lv_goto (tgt := 23) hx hb dX9_hidden_66 (by decide) ?_
            cases h
            exact hT1 rfl _ _ _ hV (lv_sub hl [1, 2, 3, 0] rfl)
          · have h := ifn hc h
            refine lv_aload_n hx hb dX9_hidden_45 rfl (lv_at hl 0 rfl) ?_
            refine G_X9_whereabouts cx hV mk_2_148 dX9_hidden_46 ?_
            refine lv_iload_n hx hb dX9_hidden_49 rfl (lv_at hl 3 rfl) ?_
            refine lv_iload_n hx hb dX9_hidden_50 rfl (lv_at hl 1 rfl) ?_
            refine bd_e h (fun v8 hq h => ?_)
            refine k_X8_canBe hq cx hV mk_5_170 ⟨Nat.le_of_ble_eq_true rfl, Nat.le_of_ble_eq_true rfl⟩ ⟨Nat.zero_le _, Nat.zero_le _⟩ hl.1 (Nat.le_of_ble_eq_true rfl) dX9_hidden_51 (fun H locs hV => ?_)
            refine lv_if_ne (tgt := 63) hx hb dX9_hidden_54 (by decide) (fun hc => ?_) (fun hc => ?_)
            · have h := ifn hc h
              refine lv_iinc (v := (u6 + 1)) (lv' := [(3, .int (u6 + 1)), (0, .ref (eA E 0)), (1, .int w1), (2, .int u5)]) hx hb dX9_hidden_63 hl (k := 3) rfl rfl (by decide) rfl (fun ls hl => ?_)
              refine lv_goto (tgt := 23) hx hb dX9_hidden_66 (by decide) ?_
              cases h
              exact hT1 rfl _ _ _ hV (lv_sub hl [1, 2, 3, 0] rfl)
            · have h := ifp hc h
              refine lv_iload_n hx hb dX9_hidden_57 rfl (lv_at hl 2 rfl) ?_
              refine lv_iconst (v := 1) hx hb dX9_hidden_58 (by decide) ?_
              refine lv_iload_n hx hb dX9_hidden_59 rfl (lv_at hl 3 rfl) ?_
              refine lv_ishl hx hb dX9_hidden_60 ?_
              refine lv_ior hx hb dX9_hidden_61 ?_
              refine lv_istore_n (lv' := [(2, .int (u5 ||| (1 <<< (u6 &&& 31)))), (0, .ref (eA E 0)), (1, .int w1), (3, .int u6)]) hx hb dX9_hidden_62 rfl hl (by decide) rfl (fun ls hl => ?_)
              refine lv_iinc (v := (u6 + 1)) (lv' := [(3, .int (u6 + 1)), (2, .int (u5 ||| (1 <<< (u6 &&& 31)))), (0, .ref (eA E 0)), (1, .int w1)]) hx hb dX9_hidden_63 hl (k := 3) rfl rfl (by decide) rfl (fun ls hl => ?_)
              refine lv_goto (tgt := 23) hx hb dX9_hidden_66 (by decide) ?_
              cases h
              exact hT1 rfl _ _ _ hV (lv_sub hl [2, 3, 1, 0] rfl)
      · have hV : AtW E (wC E σ4 ++ X) A s H locs := hV
        have hl : lv_has ls 4 [(2, .int z9)] := hl
        refine lv_iload_n hx hb dX9_hidden_69 rfl (lv_at hl 0 rfl) ?_
        exact (inlr h).elim
    have hj15 : ∀ (w11 : Int32) (σ12 : St) (H : Heap) (locs : List Loc) (ls : Array Slot), x_X9_hidden_b15 w11 σ12 = some (.inr (nx, σf)) → AtW E (wC E σ12 ++ X) A s H locs → lv_has ls 4 [(0, .ref (eA E 0)), (1, .int w11)] → W p l e rmx_X9_hidden s m a below meth c H locs 0 0 QQ (F0 m 15 ls [.ref (eA E 0)]) := by
      intro w11 σ12 H locs ls h hV hl
      unfold x_X9_hidden_b15 at h
      refine lv_iconst (v := 0) hx hb dX9_hidden_15 (by decide) ?_
      exact hj16 w11 0 σ12 _ _ _ h hV (lv_sub hl [0, 1] rfl)
    refine lv_aload_n hx hb dX9_hidden_0 rfl (lv_at hl 0 rfl) ?_
    refine lv_iload_n hx hb dX9_hidden_1 rfl (lv_at hl 1 rfl) ?_
    refine lv_if_lt (tgt := 15) hx hb dX9_hidden_2 (by decide) (fun hc => ?_) (fun hc => ?_)
    · have h := ifp hc h
      exact hj15 p1 σ _ _ _ h hV (lv_sub hl [0, 1] rfl)
    · have h := ifn hc h
      refine lv_iload_n hx hb dX9_hidden_5 rfl (lv_at hl 1 rfl) ?_
      refine lv_bipush (v := 8) hx hb dX9_hidden_6 (by decide) ?_
      refine lv_icmp_gt (tgt := 15) hx hb dX9_hidden_8 (by decide) (fun hc => ?_) (fun hc => ?_)
      · have h := ifp hc h
        exact hj15 p1 σ _ _ _ h hV (lv_sub hl [0, 1] rfl)
      · have h := ifn hc h
        refine lv_iconst (v := 1) hx hb dX9_hidden_11 (by decide) ?_
        refine lv_goto (tgt := 16) hx hb dX9_hidden_12 (by decide) ?_
        exact hj16 p1 1 σ _ _ _ h hV (lv_sub hl [0, 1] rfl)
  rw [hH, hlocs] at goal
  exact goal
theorem k_X9_hidden {p : Program} {l : Launch} {e : Env} {R : Room} {s : State} {m : MethodId} {a : Array Value} {below : List Frame} {meth : Method} {c : Code} {H : Heap} {locs : List Loc} {cells slots : Nat} {Q : State → Prop} {cc : ByteArray} {own : String} {nL pc : Nat} {ls : Array Slot} {rest : List Value} {A : Nat → Prop} {E : EV} {X : va_W} {σ : St} {p1 : Int32} {rv : Int32} {σf : St} (h : x_X9_hidden p1 σ = some (.inl (rv, σf))) (cx : CallFix p m c cc nL s a TBL own) (hV : AtW E (wC E σ ++ X) A s H locs) (hF : FZ E A s s.heap) {idx : Nat} (w1 : Cond.methodLink own idx yX9_hidden ∈ TBL) (hR : (rm_X9_hidden).frames + 1 ≤ R.frames ∧ 8 + (4 + 11) + (rm_X9_hidden).locals ≤ R.locals) (hcs : cells ≤ R.cells ∧ slots ≤ R.slots) (hls : ls.size = nL) (hcat : (rest.map fun v => v.category).sum ≤ 8) (d : decode cc pc = .ok (.invokevirtual idx, 3)) (kk : ∀ (H1 : Heap) (locs1 : List Loc), AtW E (wC E σf ++ X) A s H1 locs1 → W p l e R s m a below meth c H1 locs1 cells slots Q (F0 m (pc + 3) ls (.int rv :: rest))) : W p l e R s m a below meth c H locs cells slots Q (F0 m pc ls (.int p1 :: .ref (eA E 0) :: rest)) :=
  r_callFi (n := 1) (As := [.int p1]) (q0 := 0) (ci := 9) (qq := (RX9, TX9, 14)) (c_X9_hidden h) wC_fst rfl rfl mk_5_167 mk_5_168 mk_1_1 mk_5_169 (by decide +kernel) rfl ⟨rfl, rfl⟩ cx hV hF w1 hR hcs hls rfl hcat d kk
theorem kx_X9_hidden {p : Program} {l : Launch} {e : Env} {R : Room} {s : State} {m : MethodId} {a : Array Value} {below : List Frame} {meth : Method} {c : Code} {H : Heap} {locs : List Loc} {cc : ByteArray} {own : String} {nL pc : Nat} {ls : Array Slot} {rest : List Value} {A : Nat → Prop} {E : EV} {X : va_W} {σ : St} {p1 : Int32} (hT : l.stackTraces = false) {nx : Nat} {σf : St} (h : x_X9_hidden p1 σ = some (.inr (nx, σf))) (cx : CallFix p m c cc nL s a TBL own) (hV : AtW E (wC E σ ++ X) A s H locs) (hF : FZ E A s s.heap) (hx0 : ∀ x ∈ c.exceptionTable.toList, False) (hlk : meth.locks = false) {idx : Nat} (w1 : Cond.methodLink own idx yX9_hidden ∈ TBL) (hR : (rmx_X9_hidden).frames + 1 ≤ R.frames ∧ 8 + (4 + 11) + (rmx_X9_hidden).locals ≤ R.locals) (hcs : 1 ≤ R.cells ∧ 6 ≤ R.slots) (hls : ls.size = nL) (hcat : (rest.map fun v => v.category).sum ≤ 8) (d : decode cc pc = .ok (.invokevirtual idx, 3)) : W p l e R s m a below meth c H locs 0 0 (EX E (wC E σf ++ X) (exN nx) A s a below) (F0 m pc ls (.int p1 :: .ref (eA E 0) :: rest)) :=
  r_callx (n := 1) (As := [.int p1]) (q0 := 0) (ci := 9) (qq := (RX9, TX9, 14)) (t_X9_hidden hT h) rfl rfl mk_5_167 mk_5_168 mk_1_1 mk_5_169 (by decide +kernel) rfl ⟨rfl, rfl⟩ cx hV hF hx0 hlk w1 hR hcs hls rfl hcat d
def x_X9_needSearch_b48 (w1 : Int32) (w2 : Int32) (σ3 : St) : Option (St ⊕ (Nat × St)) :=
  bt (x_X9_need w2 σ3) fun σ4 =>
  bt (x_X9_needLying w1 σ4) fun σ5 =>
  some (.inl σ5)
def x_X9_needSearch_b43 (w6 : Int32) (σ7 : St) : Option (St ⊕ (Nat × St)) :=
  x_X9_needSearch_b48 w6 1 σ7
def x_X9_needSearch_b20 (w8 : Int32) (w9 : Int32) (w10 : Int32) (w11 : Int32) (σ12 : St) : Option (St ⊕ (Nat × St)) :=
  bt (x_X9_need w11 σ12) fun σ13 =>
  bd (x_X9_isPace w9) fun v14 =>
  bt (x_X9_need v14 σ13) fun σ15 =>
  (if w10 = 0 then
  x_X9_needSearch_b43 w8 σ15
  else
  (if w10 = 1 then
  x_X9_needSearch_b43 w8 σ15
  else
  x_X9_needSearch_b48 w8 0 σ15))
def x_X9_needSearch_b19 (w16 : Int32) (w17 : Int32) (w18 : Int32) (σ19 : St) : Option (St ⊕ (Nat × St)) :=
  x_X9_needSearch_b20 w16 w17 w18 0 σ19
def x_X9_needSearch (p1 : Int32) (p2 : Int32) (p3 : Int32) (p4 : Int32) (σ : St) : Option (St ⊕ (Nat × St)) :=
  bt (x_X9_needSleeve p1 σ) fun σ20 =>
  (if p2 < 0 then
  x_X9_needSearch_b19 p1 p3 p4 σ20
  else
  (if 4 < p2 then
  x_X9_needSearch_b19 p1 p3 p4 σ20
  else
  x_X9_needSearch_b20 p1 p3 p4 1 σ20))
abbrev rm_X9_needSearch : Room := { frames := 3, cells := 0, slots := 0, locals := 65 }
abbrev rmx_X9_needSearch : Room := { frames := 7, cells := 1, slots := 6, locals := 103 }
set_option maxHeartbeats 4000000 in
set_option maxRecDepth 100000 in
theorem c_X9_needSearch {l : Launch} {E : EV} {X : va_W} {σ : St} {p1 : Int32} {p2 : Int32} {p3 : Int32} {p4 : Int32} {σf : St} (h : x_X9_needSearch p1 p2 p3 p4 σ = some (.inl σf)) : CMF l yX9_needSearch cX9_needSearch 5 none rm_X9_needSearch [.ref (eA E 0), .int p1, .int p2, .int p3, .int p4] E (wC E σ ++ X) (wC E σf ++ X) qV := by
  refine CMF.start (by decide) (Nat.le_of_ble_eq_true rfl) (fun p e s m a below meth c A ls cx hr hlk hV hF hl => ?_)
  have cx : CallFix p m c cX9_needSearch 5 s a TBL RX9 := cx
  have hx := cx.1
  have hb := cx.2.1
  have hl : lv_has ls 5 [(0, .ref (eA E 0)), (1, .int p1), (2, .int p2), (3, .int p3), (4, .int p4)] := hl
  generalize hQ : EQ E (wC E σf ++ X) qV A s a below = QQ
  obtain ⟨H, hH⟩ : ∃ H, H = s.heap := ⟨_, rfl⟩
  obtain ⟨locs, hlocs⟩ : ∃ z, z = ([] : List Loc) := ⟨_, rfl⟩
  have hV : AtW E (wC E σ ++ X) A s H locs := by rw [hH, hlocs]; exact hV
  have goal : W p l e rm_X9_needSearch s m a below meth c H locs 0 0 QQ (F0 m 0 ls []) := by
    unfold x_X9_needSearch at h
    have hj48 : ∀ (w1 : Int32) (w2 : Int32) (σ3 : St) (H : Heap) (locs : List Loc) (ls : Array Slot), x_X9_needSearch_b48 w1 w2 σ3 = some (.inl σf) → AtW E (wC E σ3 ++ X) A s H locs → lv_has ls 5 [(0, .ref (eA E 0)), (1, .int w1)] → W p l e rm_X9_needSearch s m a below meth c H locs 0 0 QQ (F0 m 48 ls [.int w2, .ref (eA E 0)]) := by
      intro w1 w2 σ3 H locs ls h hV hl
      unfold x_X9_needSearch_b48 at h
      refine bt_e h (fun σ4 hq h => ?_) (fun q hq h => ?_)
      rotate_left
      · exact (inrl' h).elim
      refine k_X9_need hq cx hV hF mk_3_178 ⟨Nat.le_of_ble_eq_true rfl, Nat.le_of_ble_eq_true rfl⟩ ⟨Nat.zero_le _, Nat.zero_le _⟩ hl.1 (Nat.le_of_ble_eq_true rfl) dX9_needSearch_48 (fun H locs hV => ?_)
      refine lv_aload_n hx hb dX9_needSearch_51 rfl (lv_at hl 0 rfl) ?_
      refine lv_iload_n hx hb dX9_needSearch_52 rfl (lv_at hl 1 rfl) ?_
      refine bt_e h (fun σ5 hq h => ?_) (fun q hq h => ?_)
      rotate_left
      · exact (inrl' h).elim
      refine k_X9_needLying hq cx hV hF mk_5_54 ⟨Nat.le_of_ble_eq_true rfl, Nat.le_of_ble_eq_true rfl⟩ ⟨Nat.zero_le _, Nat.zero_le _⟩ hl.1 (Nat.le_of_ble_eq_true rfl) dX9_needSearch_53 (fun H locs hV => ?_)
      have h := congrArg some (Sum.inl.inj (Option.some.inj h))
      have h1 := Option.some.inj h
      subst h1
      subst hQ
      exact r_vret cx hr hlk hV dX9_needSearch_56
    have hj43 : ∀ (w6 : Int32) (σ7 : St) (H : Heap) (locs : List Loc) (ls : Array Slot), x_X9_needSearch_b43 w6 σ7 = some (.inl σf) → AtW E (wC E σ7 ++ X) A s H locs → lv_has ls 5 [(0, .ref (eA E 0)), (1, .int w6)] → W p l e rm_X9_needSearch s m a below meth c H locs 0 0 QQ (F0 m 43 ls [.ref (eA E 0)]) := by
      intro w6 σ7 H locs ls h hV hl
      unfold x_X9_needSearch_b43 at h
      refine lv_iconst (v := 1) hx hb dX9_needSearch_43 (by decide) ?_
      refine lv_goto (tgt := 48) hx hb dX9_needSearch_44 (by decide) ?_
      exact hj48 w6 1 σ7 _ _ _ h hV (lv_sub hl [0, 1] rfl)
    have hj20 : ∀ (w8 : Int32) (w9 : Int32) (w10 : Int32) (w11 : Int32) (σ12 : St) (H : Heap) (locs : List Loc) (ls : Array Slot), x_X9_needSearch_b20 w8 w9 w10 w11 σ12 = some (.inl σf) → AtW E (wC E σ12 ++ X) A s H locs → lv_has ls 5 [(0, .ref (eA E 0)), (1, .int w8), (3, .int w9), (4, .int w10)] → W p l e rm_X9_needSearch s m a below meth c H locs 0 0 QQ (F0 m 20 ls [.int w11, .ref (eA E 0)]) := by
      intro w8 w9 w10 w11 σ12 H locs ls h hV hl
      unfold x_X9_needSearch_b20 at h
      refine bt_e h (fun σ13 hq h => ?_) (fun q hq h => ?_)
      rotate_left
      · exact (inrl' h).elim
      refine k_X9_need hq cx hV hF mk_3_178 ⟨Nat.le_of_ble_eq_true rfl, Nat.le_of_ble_eq_true rfl⟩ ⟨Nat.zero_le _, Nat.zero_le _⟩ hl.1 (Nat.le_of_ble_eq_true rfl) dX9_needSearch_20 (fun H locs hV => ?_)
      refine lv_aload_n hx hb dX9_needSearch_23 rfl (lv_at hl 0 rfl) ?_
      refine lv_iload_n hx hb dX9_needSearch_24 rfl (lv_at hl 2 rfl) ?_
      refine bd_e h (fun v14 hq h => ?_)
      refine k_X9_isPace hq cx hV mk_5_43 ⟨Nat.le_of_ble_eq_true rfl, Nat.le_of_ble_eq_true rfl⟩ ⟨Nat.zero_le _, Nat.zero_le _⟩ hl.1 (Nat.le_of_ble_eq_true rfl) dX9_needSearch_25 (fun H locs hV => ?_)
      refine bt_e h (fun σ15 hq h => ?_) (fun q hq h => ?_)
      rotate_left
      · exact (inrl' h).elim
      refine k_X9_need hq cx hV hF mk_3_178 ⟨Nat.le_of_ble_eq_true rfl, Nat.le_of_ble_eq_true rfl⟩ ⟨Nat.zero_le _, Nat.zero_le _⟩ hl.1 (Nat.le_of_ble_eq_true rfl) dX9_needSearch_28 (fun H locs hV => ?_)
      refine lv_aload_n hx hb dX9_needSearch_31 rfl (lv_at hl 0 rfl) ?_
      refine lv_iload hx hb dX9_needSearch_32 (lv_at hl 3 rfl) ?_
      refine lv_if_eq (tgt := 43) hx hb dX9_needSearch_34 (by decide) (fun hc => ?_) (fun hc => ?_)
      · have h := ifp hc h
        exact hj43 w8 σ15 _ _ _ h hV (lv_sub hl [0, 1] rfl)
      · have h := ifn hc h
        refine lv_iload hx hb dX9_needSearch_37 (lv_at hl 3 rfl) ?_
        refine lv_iconst (v := 1) hx hb dX9_needSearch_39 (by decide) ?_
        refine lv_icmp_ne (tgt := 47) hx hb dX9_needSearch_40 (by decide) (fun hc => ?_) (fun hc => ?_)
        · have h := ifn hc h
          refine lv_iconst (v := 0) hx hb dX9_needSearch_47 (by decide) ?_
          exact hj48 w8 0 σ15 _ _ _ h hV (lv_sub hl [0, 1] rfl)
        · have h := ifp hc h
          exact hj43 w8 σ15 _ _ _ h hV (lv_sub hl [0, 1] rfl)
    have hj19 : ∀ (w16 : Int32) (w17 : Int32) (w18 : Int32) (σ19 : St) (H : Heap) (locs : List Loc) (ls : Array Slot), x_X9_needSearch_b19 w16 w17 w18 σ19 = some (.inl σf) → AtW E (wC E σ19 ++ X) A s H locs → lv_has ls 5 [(0, .ref (eA E 0)), (1, .int w16), (3, .int w17), (4, .int w18)] → W p l e rm_X9_needSearch s m a below meth c H locs 0 0 QQ (F0 m 19 ls [.ref (eA E 0)]) := by
      intro w16 w17 w18 σ19 H locs ls h hV hl
      unfold x_X9_needSearch_b19 at h
      refine lv_iconst (v := 0) hx hb dX9_needSearch_19 (by decide) ?_
      exact hj20 w16 w17 w18 0 σ19 _ _ _ h hV (lv_sub hl [0, 1, 2, 3] rfl)
    refine lv_aload_n hx hb dX9_needSearch_0 rfl (lv_at hl 0 rfl) ?_
    refine lv_iload_n hx hb dX9_needSearch_1 rfl (lv_at hl 1 rfl) ?_
    refine bt_e h (fun σ20 hq h => ?_) (fun q hq h => ?_)
    rotate_left
    · exact (inrl' h).elim
    refine k_X9_needSleeve hq cx hV hF mk_4_237 ⟨Nat.le_of_ble_eq_true rfl, Nat.le_of_ble_eq_true rfl⟩ ⟨Nat.zero_le _, Nat.zero_le _⟩ hl.1 (Nat.le_of_ble_eq_true rfl) dX9_needSearch_2 (fun H locs hV => ?_)
    refine lv_aload_n hx hb dX9_needSearch_5 rfl (lv_at hl 0 rfl) ?_
    refine lv_iload_n hx hb dX9_needSearch_6 rfl (lv_at hl 2 rfl) ?_
    refine lv_if_lt (tgt := 19) hx hb dX9_needSearch_7 (by decide) (fun hc => ?_) (fun hc => ?_)
    · have h := ifp hc h
      exact hj19 p1 p3 p4 σ20 _ _ _ h hV (lv_sub hl [0, 1, 3, 4] rfl)
    · have h := ifn hc h
      refine lv_iload_n hx hb dX9_needSearch_10 rfl (lv_at hl 2 rfl) ?_
      refine lv_iconst (v := 4) hx hb dX9_needSearch_11 (by decide) ?_
      refine lv_icmp_gt (tgt := 19) hx hb dX9_needSearch_12 (by decide) (fun hc => ?_) (fun hc => ?_)
      · have h := ifp hc h
        exact hj19 p1 p3 p4 σ20 _ _ _ h hV (lv_sub hl [0, 1, 3, 4] rfl)
      · have h := ifn hc h
        refine lv_iconst (v := 1) hx hb dX9_needSearch_15 (by decide) ?_
        refine lv_goto (tgt := 20) hx hb dX9_needSearch_16 (by decide) ?_
        exact hj20 p1 p3 p4 1 σ20 _ _ _ h hV (lv_sub hl [0, 1, 3, 4] rfl)
  rw [hH, hlocs] at goal
  exact goal
set_option maxHeartbeats 4000000 in
set_option maxRecDepth 100000 in
theorem t_X9_needSearch {l : Launch} (hT : l.stackTraces = false) {E : EV} {X : va_W} {σ : St} {p1 : Int32} {p2 : Int32} {p3 : Int32} {p4 : Int32} {nx : Nat} {σf : St} (h : x_X9_needSearch p1 p2 p3 p4 σ = some (.inr (nx, σf))) : CXF l yX9_needSearch cX9_needSearch 5 none rmx_X9_needSearch [.ref (eA E 0), .int p1, .int p2, .int p3, .int p4] E (wC E σ ++ X) (wC E σf ++ X) (exN nx) := by
  refine CXF.start (by decide) (Nat.le_of_ble_eq_true rfl) (fun p e s m a below meth c A ls cx hx0 hlk hV hF hl => ?_)
  have cx : CallFix p m c cX9_needSearch 5 s a TBL RX9 := cx
  have hx := cx.1
  have hb := cx.2.1
  have hl : lv_has ls 5 [(0, .ref (eA E 0)), (1, .int p1), (2, .int p2), (3, .int p3), (4, .int p4)] := hl
  generalize hQ : EX E (wC E σf ++ X) (exN nx) A s a below = QQ
  obtain ⟨H, hH⟩ : ∃ H, H = s.heap := ⟨_, rfl⟩
  obtain ⟨locs, hlocs⟩ : ∃ z, z = ([] : List Loc) := ⟨_, rfl⟩
  have hV : AtW E (wC E σ ++ X) A s H locs := by rw [hH, hlocs]; exact hV
  have goal : W p l e rmx_X9_needSearch s m a below meth c H locs 0 0 QQ (F0 m 0 ls []) := by
    unfold x_X9_needSearch at h
    have hj48 : ∀ (w1 : Int32) (w2 : Int32) (σ3 : St) (H : Heap) (locs : List Loc) (ls : Array Slot), x_X9_needSearch_b48 w1 w2 σ3 = some (.inr (nx, σf)) → AtW E (wC E σ3 ++ X) A s H locs → lv_has ls 5 [(0, .ref (eA E 0)), (1, .int w1)] → W p l e rmx_X9_needSearch s m a below meth c H locs 0 0 QQ (F0 m 48 ls [.int w2, .ref (eA E 0)]) := by
      intro w1 w2 σ3 H locs ls h hV hl
      unfold x_X9_needSearch_b48 at h
      refine bt_e h (fun σ4 hq h => ?_) (fun q hq h => ?_)
      rotate_left
      · have h := Sum.inr.inj h
        subst h
        subst hQ
        exact kx_X9_need hT hq cx hV hF hx0 hlk mk_3_178 ⟨Nat.le_of_ble_eq_true rfl, Nat.le_of_ble_eq_true rfl⟩ ⟨Nat.le_of_ble_eq_true rfl, Nat.le_of_ble_eq_true rfl⟩ hl.1 (Nat.le_of_ble_eq_true rfl) dX9_needSearch_48
      refine k_X9_need hq cx hV hF mk_3_178 ⟨Nat.le_of_ble_eq_true rfl, Nat.le_of_ble_eq_true rfl⟩ ⟨Nat.zero_le _, Nat.zero_le _⟩ hl.1 (Nat.le_of_ble_eq_true rfl) dX9_needSearch_48 (fun H locs hV => ?_)
      refine lv_aload_n hx hb dX9_needSearch_51 rfl (lv_at hl 0 rfl) ?_
      refine lv_iload_n hx hb dX9_needSearch_52 rfl (lv_at hl 1 rfl) ?_
      refine bt_e h (fun σ5 hq h => ?_) (fun q hq h => ?_)
      rotate_left
      · have h := Sum.inr.inj h
        subst h
        subst hQ
        exact kx_X9_needLying hT hq cx hV hF hx0 hlk mk_5_54 ⟨Nat.le_of_ble_eq_true rfl, Nat.le_of_ble_eq_true rfl⟩ ⟨Nat.le_of_ble_eq_true rfl, Nat.le_of_ble_eq_true rfl⟩ hl.1 (Nat.le_of_ble_eq_true rfl) dX9_needSearch_53
      refine k_X9_needLying hq cx hV hF mk_5_54 ⟨Nat.le_of_ble_eq_true rfl, Nat.le_of_ble_eq_true rfl⟩ ⟨Nat.zero_le _, Nat.zero_le _⟩ hl.1 (Nat.le_of_ble_eq_true rfl) dX9_needSearch_53 (fun H locs hV => ?_)
      exact (inlr h).elim
    have hj43 : ∀ (w6 : Int32) (σ7 : St) (H : Heap) (locs : List Loc) (ls : Array Slot), x_X9_needSearch_b43 w6 σ7 = some (.inr (nx, σf)) → AtW E (wC E σ7 ++ X) A s H locs → lv_has ls 5 [(0, .ref (eA E 0)), (1, .int w6)] → W p l e rmx_X9_needSearch s m a below meth c H locs 0 0 QQ (F0 m 43 ls [.ref (eA E 0)]) := by
      intro w6 σ7 H locs ls h hV hl
      unfold x_X9_needSearch_b43 at h
      refine lv_iconst (v := 1) hx hb dX9_needSearch_43 (by decide) ?_
      refine lv_goto (tgt := 48) hx hb dX9_needSearch_44 (by decide) ?_
      exact hj48 w6 1 σ7 _ _ _ h hV (lv_sub hl [0, 1] rfl)
    have hj20 : ∀ (w8 : Int32) (w9 : Int32) (w10 : Int32) (w11 : Int32) (σ12 : St) (H : Heap) (locs : List Loc) (ls : Array Slot), x_X9_needSearch_b20 w8 w9 w10 w11 σ12 = some (.inr (nx, σf)) → AtW E (wC E σ12 ++ X) A s H locs → lv_has ls 5 [(0, .ref (eA E 0)), (1, .int w8), (3, .int w9), (4, .int w10)] → W p l e rmx_X9_needSearch s m a below meth c H locs 0 0 QQ (F0 m 20 ls [.int w11, .ref (eA E 0)]) := by
      intro w8 w9 w10 w11 σ12 H locs ls h hV hl
      unfold x_X9_needSearch_b20 at h
      refine bt_e h (fun σ13 hq h => ?_) (fun q hq h => ?_)
      rotate_left
      · have h := Sum.inr.inj h
        subst h
        subst hQ
        exact kx_X9_need hT hq cx hV hF hx0 hlk mk_3_178 ⟨Nat.le_of_ble_eq_true rfl, Nat.le_of_ble_eq_true rfl⟩ ⟨Nat.le_of_ble_eq_true rfl, Nat.le_of_ble_eq_true rfl⟩ hl.1 (Nat.le_of_ble_eq_true rfl) dX9_needSearch_20
      refine k_X9_need hq cx hV hF mk_3_178 ⟨Nat.le_of_ble_eq_true rfl, Nat.le_of_ble_eq_true rfl⟩ ⟨Nat.zero_le _, Nat.zero_le _⟩ hl.1 (Nat.le_of_ble_eq_true rfl) dX9_needSearch_20 (fun H locs hV => ?_)
      refine lv_aload_n hx hb dX9_needSearch_23 rfl (lv_at hl 0 rfl) ?_
      refine lv_iload_n hx hb dX9_needSearch_24 rfl (lv_at hl 2 rfl) ?_
      refine bd_e h (fun v14 hq h => ?_)
      refine k_X9_isPace hq cx hV mk_5_43 ⟨Nat.le_of_ble_eq_true rfl, Nat.le_of_ble_eq_true rfl⟩ ⟨Nat.zero_le _, Nat.zero_le _⟩ hl.1 (Nat.le_of_ble_eq_true rfl) dX9_needSearch_25 (fun H locs hV => ?_)
      refine bt_e h (fun σ15 hq h => ?_) (fun q hq h => ?_)
      rotate_left
      · have h := Sum.inr.inj h
        subst h
        subst hQ
        exact kx_X9_need hT hq cx hV hF hx0 hlk mk_3_178 ⟨Nat.le_of_ble_eq_true rfl, Nat.le_of_ble_eq_true rfl⟩ ⟨Nat.le_of_ble_eq_true rfl, Nat.le_of_ble_eq_true rfl⟩ hl.1 (Nat.le_of_ble_eq_true rfl) dX9_needSearch_28
      refine k_X9_need hq cx hV hF mk_3_178 ⟨Nat.le_of_ble_eq_true rfl, Nat.le_of_ble_eq_true rfl⟩ ⟨Nat.zero_le _, Nat.zero_le _⟩ hl.1 (Nat.le_of_ble_eq_true rfl) dX9_needSearch_28 (fun H locs hV => ?_)
      refine lv_aload_n hx hb dX9_needSearch_31 rfl (lv_at hl 0 rfl) ?_
      refine lv_iload hx hb dX9_needSearch_32 (lv_at hl 3 rfl) ?_
      refine lv_if_eq (tgt := 43) hx hb dX9_needSearch_34 (by decide) (fun hc => ?_) (fun hc => ?_)
      · have h := ifp hc h
        exact hj43 w8 σ15 _ _ _ h hV (lv_sub hl [0, 1] rfl)
      · have h := ifn hc h
        refine lv_iload hx hb dX9_needSearch_37 (lv_at hl 3 rfl) ?_
        refine lv_iconst (v := 1) hx hb dX9_needSearch_39 (by decide) ?_
        refine lv_icmp_ne (tgt := 47) hx hb dX9_needSearch_40 (by decide) (fun hc => ?_) (fun hc => ?_)
        · have h := ifn hc h
          refine lv_iconst (v := 0) hx hb dX9_needSearch_47 (by decide) ?_
          exact hj48 w8 0 σ15 _ _ _ h hV (lv_sub hl [0, 1] rfl)
        · have h := ifp hc h
          exact hj43 w8 σ15 _ _ _ h hV (lv_sub hl [0, 1] rfl)
    have hj19 : ∀ (w16 : Int32) (w17 : Int32) (w18 : Int32) (σ19 : St) (H : Heap) (locs : List Loc) (ls : Array Slot), x_X9_needSearch_b19 w16 w17 w18 σ19 = some (.inr (nx, σf)) → AtW E (wC E σ19 ++ X) A s H locs → lv_has ls 5 [(0, .ref (eA E 0)), (1, .int w16), (3, .int w17), (4, .int w18)] → W p l e rmx_X9_needSearch s m a below meth c H locs 0 0 QQ (F0 m 19 ls [.ref (eA E 0)]) := by
      intro w16 w17 w18 σ19 H locs ls h hV hl
      unfold x_X9_needSearch_b19 at h
      refine lv_iconst (v := 0) hx hb dX9_needSearch_19 (by decide) ?_
      exact hj20 w16 w17 w18 0 σ19 _ _ _ h hV (lv_sub hl [0, 1, 2, 3] rfl)
    refine lv_aload_n hx hb dX9_needSearch_0 rfl (lv_at hl 0 rfl) ?_
    refine lv_iload_n hx hb dX9_needSearch_1 rfl (lv_at hl 1 rfl) ?_
    refine bt_e h (fun σ20 hq h => ?_) (fun q hq h => ?_)
    rotate_left
    · have h := Sum.inr.inj h
      subst h
      subst hQ
      exact kx_X9_needSleeve hT hq cx hV hF hx0 hlk mk_4_237 ⟨Nat.le_of_ble_eq_true rfl, Nat.le_of_ble_eq_true rfl⟩ ⟨Nat.le_of_ble_eq_true rfl, Nat.le_of_ble_eq_true rfl⟩ hl.1 (Nat.le_of_ble_eq_true rfl) dX9_needSearch_2
    refine k_X9_needSleeve hq cx hV hF mk_4_237 ⟨Nat.le_of_ble_eq_true rfl, Nat.le_of_ble_eq_true rfl⟩ ⟨Nat.zero_le _, Nat.zero_le _⟩ hl.1 (Nat.le_of_ble_eq_true rfl) dX9_needSearch_2 (fun H locs hV => ?_)
    refine lv_aload_n hx hb dX9_needSearch_5 rfl (lv_at hl 0 rfl) ?_
    refine lv_iload_n hx hb dX9_needSearch_6 rfl (lv_at hl 2 rfl) ?_
    refine lv_if_lt (tgt := 19) hx hb dX9_needSearch_7 (by decide) (fun hc => ?_) (fun hc => ?_)
    · have h := ifp hc h
      exact hj19 p1 p3 p4 σ20 _ _ _ h hV (lv_sub hl [0, 1, 3, 4] rfl)
    · have h := ifn hc h
      refine lv_iload_n hx hb dX9_needSearch_10 rfl (lv_at hl 2 rfl) ?_
      refine lv_iconst (v := 4) hx hb dX9_needSearch_11 (by decide) ?_
      refine lv_icmp_gt (tgt := 19) hx hb dX9_needSearch_12 (by decide) (fun hc => ?_) (fun hc => ?_)
      · have h := ifp hc h
        exact hj19 p1 p3 p4 σ20 _ _ _ h hV (lv_sub hl [0, 1, 3, 4] rfl)
      · have h := ifn hc h
        refine lv_iconst (v := 1) hx hb dX9_needSearch_15 (by decide) ?_
        refine lv_goto (tgt := 20) hx hb dX9_needSearch_16 (by decide) ?_
        exact hj20 p1 p3 p4 1 σ20 _ _ _ h hV (lv_sub hl [0, 1, 3, 4] rfl)
  rw [hH, hlocs] at goal
  exact goal
theorem k_X9_needSearch {p : Program} {l : Launch} {e : Env} {R : Room} {s : State} {m : MethodId} {a : Array Value} {below : List Frame} {meth : Method} {c : Code} {H : Heap} {locs : List Loc} {cells slots : Nat} {Q : State → Prop} {cc : ByteArray} {own : String} {nL pc : Nat} {ls : Array Slot} {rest : List Value} {A : Nat → Prop} {E : EV} {X : va_W} {σ : St} {p1 : Int32} {p2 : Int32} {p3 : Int32} {p4 : Int32} {σf : St} (h : x_X9_needSearch p1 p2 p3 p4 σ = some (.inl σf)) (cx : CallFix p m c cc nL s a TBL own) (hV : AtW E (wC E σ ++ X) A s H locs) (hF : FZ E A s s.heap) {idx : Nat} (w1 : Cond.methodLink own idx yX9_needSearch ∈ TBL) (hR : (rm_X9_needSearch).frames + 1 ≤ R.frames ∧ 8 + (5 + 11) + (rm_X9_needSearch).locals ≤ R.locals) (hcs : cells ≤ R.cells ∧ slots ≤ R.slots) (hls : ls.size = nL) (hcat : (rest.map fun v => v.category).sum ≤ 8) (d : decode cc pc = .ok (.invokevirtual idx, 3)) (kk : ∀ (H1 : Heap) (locs1 : List Loc), AtW E (wC E σf ++ X) A s H1 locs1 → W p l e R s m a below meth c H1 locs1 cells slots Q (F0 m (pc + 3) ls (rest))) : W p l e R s m a below meth c H locs cells slots Q (F0 m pc ls (.int p4 :: .int p3 :: .int p2 :: .int p1 :: .ref (eA E 0) :: rest)) :=
  r_callFv (n := 4) (As := [.int p1, .int p2, .int p3, .int p4]) (q0 := 0) (ci := 9) (qq := (RX9, TX9, 14)) (c_X9_needSearch h) wC_fst rfl rfl mk_5_188 mk_P_48 mk_1_1 mk_5_189 (by decide +kernel) rfl ⟨rfl, rfl⟩ cx hV hF w1 hR hcs hls rfl hcat d kk
theorem kx_X9_needSearch {p : Program} {l : Launch} {e : Env} {R : Room} {s : State} {m : MethodId} {a : Array Value} {below : List Frame} {meth : Method} {c : Code} {H : Heap} {locs : List Loc} {cc : ByteArray} {own : String} {nL pc : Nat} {ls : Array Slot} {rest : List Value} {A : Nat → Prop} {E : EV} {X : va_W} {σ : St} {p1 : Int32} {p2 : Int32} {p3 : Int32} {p4 : Int32} (hT : l.stackTraces = false) {nx : Nat} {σf : St} (h : x_X9_needSearch p1 p2 p3 p4 σ = some (.inr (nx, σf))) (cx : CallFix p m c cc nL s a TBL own) (hV : AtW E (wC E σ ++ X) A s H locs) (hF : FZ E A s s.heap) (hx0 : ∀ x ∈ c.exceptionTable.toList, False) (hlk : meth.locks = false) {idx : Nat} (w1 : Cond.methodLink own idx yX9_needSearch ∈ TBL) (hR : (rmx_X9_needSearch).frames + 1 ≤ R.frames ∧ 8 + (5 + 11) + (rmx_X9_needSearch).locals ≤ R.locals) (hcs : 1 ≤ R.cells ∧ 6 ≤ R.slots) (hls : ls.size = nL) (hcat : (rest.map fun v => v.category).sum ≤ 8) (d : decode cc pc = .ok (.invokevirtual idx, 3)) : W p l e R s m a below meth c H locs 0 0 (EX E (wC E σf ++ X) (exN nx) A s a below) (F0 m pc ls (.int p4 :: .int p3 :: .int p2 :: .int p1 :: .ref (eA E 0) :: rest)) :=
  r_callx (n := 4) (As := [.int p1, .int p2, .int p3, .int p4]) (q0 := 0) (ci := 9) (qq := (RX9, TX9, 14)) (t_X9_needSearch hT h) rfl rfl mk_5_188 mk_P_48 mk_1_1 mk_5_189 (by decide +kernel) rfl ⟨rfl, rfl⟩ cx hV hF hx0 hlk w1 hR hcs hls rfl hcat d
def x_X9_order (p1 : Int32) (p2 : Int32) (p3 : Int32) (p4 : Int32) (σ : St) : Option ((Int32 × St) ⊕ (Nat × St)) :=
  bt (x_X9_needSearch p1 p2 p3 0 σ) fun σ1 =>
  bd (x_X7_hasCrate 0 p4 σ1) fun v2 =>
  (if v2 = 0 then
  some (.inl ((-1), σ1))
  else
  bd (x_X8_rank p1 p2 p3 σ1) fun σ3 =>
  bd (x_X2_at 43 p4 σ3) fun v4 =>
  some (.inl (v4, σ3)))
abbrev rm_X9_order : Room := { frames := 6, cells := 0, slots := 0, locals := 141 }
abbrev rmx_X9_order : Room := { frames := 8, cells := 1, slots := 6, locals := 141 }
set_option maxHeartbeats 4000000 in
set_option maxRecDepth 100000 in
theorem c_X9_order {l : Launch} {E : EV} {X : va_W} {σ : St} {p1 : Int32} {p2 : Int32} {p3 : Int32} {p4 : Int32} {rv : Int32} {σf : St} (h : x_X9_order p1 p2 p3 p4 σ = some (.inl (rv, σf))) : CMF l yX9_order cX9_order 5 (some .int) rm_X9_order [.ref (eA E 0), .int p1, .int p2, .int p3, .int p4] E (wC E σ ++ X) (wC E σf ++ X) (qI rv) := by
  refine CMF.start (by decide) (Nat.le_of_ble_eq_true rfl) (fun p e s m a below meth c A ls cx hr hlk hV hF hl => ?_)
  have cx : CallFix p m c cX9_order 5 s a TBL RX9 := cx
  have hx := cx.1
  have hb := cx.2.1
  have hl : lv_has ls 5 [(0, .ref (eA E 0)), (1, .int p1), (2, .int p2), (3, .int p3), (4, .int p4)] := hl
  generalize hQ : EQ E (wC E σf ++ X) (qI rv) A s a below = QQ
  obtain ⟨H, hH⟩ : ∃ H, H = s.heap := ⟨_, rfl⟩
  obtain ⟨locs, hlocs⟩ : ∃ z, z = ([] : List Loc) := ⟨_, rfl⟩
  have hV : AtW E (wC E σ ++ X) A s H locs := by rw [hH, hlocs]; exact hV
  have goal : W p l e rm_X9_order s m a below meth c H locs 0 0 QQ (F0 m 0 ls []) := by
    unfold x_X9_order at h
    refine lv_aload_n hx hb dX9_order_0 rfl (lv_at hl 0 rfl) ?_
    refine lv_iload_n hx hb dX9_order_1 rfl (lv_at hl 1 rfl) ?_
    refine lv_iload_n hx hb dX9_order_2 rfl (lv_at hl 2 rfl) ?_
    refine lv_iload_n hx hb dX9_order_3 rfl (lv_at hl 3 rfl) ?_
    refine lv_iconst (v := 0) hx hb dX9_order_4 (by decide) ?_
    refine bt_e h (fun σ1 hq h => ?_) (fun q hq h => ?_)
    rotate_left
    · exact (inrl' h).elim
    refine k_X9_needSearch hq cx hV hF mk_5_186 ⟨Nat.le_of_ble_eq_true rfl, Nat.le_of_ble_eq_true rfl⟩ ⟨Nat.zero_le _, Nat.zero_le _⟩ hl.1 (Nat.le_of_ble_eq_true rfl) dX9_order_5 (fun H locs hV => ?_)
    refine lv_aload_n hx hb dX9_order_8 rfl (lv_at hl 0 rfl) ?_
    refine G_X9_told cx hV mk_2_141 dX9_order_9 ?_
    refine lv_iload hx hb dX9_order_12 (lv_at hl 4 rfl) ?_
    refine bd_e h (fun v2 hq h => ?_)
    refine k_X7_hasCrate (by decide) hq cx hV mk_3_145 ⟨Nat.le_of_ble_eq_true rfl, Nat.le_of_ble_eq_true rfl⟩ ⟨Nat.zero_le _, Nat.zero_le _⟩ hl.1 (Nat.le_of_ble_eq_true rfl) dX9_order_14 (fun H locs hV => ?_)
    refine lv_if_ne (tgt := 22) hx hb dX9_order_17 (by decide) (fun hc => ?_) (fun hc => ?_)
    · have h := ifn hc h
      refine lv_aload_n hx hb dX9_order_22 rfl (lv_at hl 0 rfl) ?_
      refine G_X9_whereabouts cx hV mk_2_148 dX9_order_23 ?_
      refine lv_iload_n hx hb dX9_order_26 rfl (lv_at hl 1 rfl) ?_
      refine lv_iload_n hx hb dX9_order_27 rfl (lv_at hl 2 rfl) ?_
      refine lv_iload_n hx hb dX9_order_28 rfl (lv_at hl 3 rfl) ?_
      refine bd_e h (fun σ3 hq h => ?_)
      refine k_X8_rank hq cx hV mk_5_190 ⟨Nat.le_of_ble_eq_true rfl, Nat.le_of_ble_eq_true rfl⟩ ⟨Nat.zero_le _, Nat.zero_le _⟩ hl.1 (Nat.le_of_ble_eq_true rfl) dX9_order_29 (fun H locs hV => ?_)
      refine lv_aload_n hx hb dX9_order_32 rfl (lv_at hl 0 rfl) ?_
      refine G_X9_whereabouts cx hV mk_2_148 dX9_order_33 ?_
      refine G_X8_ranked cx hV mk_2_16 dX9_order_36 ?_
      refine lv_iload hx hb dX9_order_39 (lv_at hl 4 rfl) ?_
      refine bd_e h (fun v4 hq h => ?_)
      refine k_X2_at (by decide) hq cx hV mk_3_93 ⟨Nat.le_of_ble_eq_true rfl, Nat.le_of_ble_eq_true rfl⟩ ⟨Nat.zero_le _, Nat.zero_le _⟩ hl.1 (Nat.le_of_ble_eq_true rfl) dX9_order_41 (fun H locs hV => ?_)
      have h := congrArg some (Sum.inl.inj (Option.some.inj h))
      obtain ⟨h1, h2⟩ := Prod.mk.inj (Option.some.inj h)
      subst h1
      subst h2
      subst hQ
      exact r_ireti cx hr hlk hV dX9_order_44
    · have h := ifp hc h
      refine lv_iconst (v := (-1)) hx hb dX9_order_20 (by decide) ?_
      have h := congrArg some (Sum.inl.inj (Option.some.inj h))
      obtain ⟨h1, h2⟩ := Prod.mk.inj (Option.some.inj h)
      subst h1
      subst h2
      subst hQ
      exact r_ireti cx hr hlk hV dX9_order_21
  rw [hH, hlocs] at goal
  exact goal
set_option maxHeartbeats 4000000 in
set_option maxRecDepth 100000 in
theorem t_X9_order {l : Launch} (hT : l.stackTraces = false) {E : EV} {X : va_W} {σ : St} {p1 : Int32} {p2 : Int32} {p3 : Int32} {p4 : Int32} {nx : Nat} {σf : St} (h : x_X9_order p1 p2 p3 p4 σ = some (.inr (nx, σf))) : CXF l yX9_order cX9_order 5 (some .int) rmx_X9_order [.ref (eA E 0), .int p1, .int p2, .int p3, .int p4] E (wC E σ ++ X) (wC E σf ++ X) (exN nx) := by
  refine CXF.start (by decide) (Nat.le_of_ble_eq_true rfl) (fun p e s m a below meth c A ls cx hx0 hlk hV hF hl => ?_)
  have cx : CallFix p m c cX9_order 5 s a TBL RX9 := cx
  have hx := cx.1
  have hb := cx.2.1
  have hl : lv_has ls 5 [(0, .ref (eA E 0)), (1, .int p1), (2, .int p2), (3, .int p3), (4, .int p4)] := hl
  generalize hQ : EX E (wC E σf ++ X) (exN nx) A s a below = QQ
  obtain ⟨H, hH⟩ : ∃ H, H = s.heap := ⟨_, rfl⟩
  obtain ⟨locs, hlocs⟩ : ∃ z, z = ([] : List Loc) := ⟨_, rfl⟩
  have hV : AtW E (wC E σ ++ X) A s H locs := by rw [hH, hlocs]; exact hV
  have goal : W p l e rmx_X9_order s m a below meth c H locs 0 0 QQ (F0 m 0 ls []) := by
    unfold x_X9_order at h
    refine lv_aload_n hx hb dX9_order_0 rfl (lv_at hl 0 rfl) ?_
    refine lv_iload_n hx hb dX9_order_1 rfl (lv_at hl 1 rfl) ?_
    refine lv_iload_n hx hb dX9_order_2 rfl (lv_at hl 2 rfl) ?_
    refine lv_iload_n hx hb dX9_order_3 rfl (lv_at hl 3 rfl) ?_
    refine lv_iconst (v := 0) hx hb dX9_order_4 (by decide) ?_
    refine bt_e h (fun σ1 hq h => ?_) (fun q hq h => ?_)
    rotate_left
    · have h := Sum.inr.inj h
      subst h
      subst hQ
      exact kx_X9_needSearch hT hq cx hV hF hx0 hlk mk_5_186 ⟨Nat.le_of_ble_eq_true rfl, Nat.le_of_ble_eq_true rfl⟩ ⟨Nat.le_of_ble_eq_true rfl, Nat.le_of_ble_eq_true rfl⟩ hl.1 (Nat.le_of_ble_eq_true rfl) dX9_order_5
    refine k_X9_needSearch hq cx hV hF mk_5_186 ⟨Nat.le_of_ble_eq_true rfl, Nat.le_of_ble_eq_true rfl⟩ ⟨Nat.zero_le _, Nat.zero_le _⟩ hl.1 (Nat.le_of_ble_eq_true rfl) dX9_order_5 (fun H locs hV => ?_)
    refine lv_aload_n hx hb dX9_order_8 rfl (lv_at hl 0 rfl) ?_
    refine G_X9_told cx hV mk_2_141 dX9_order_9 ?_
    refine lv_iload hx hb dX9_order_12 (lv_at hl 4 rfl) ?_
    refine bd_e h (fun v2 hq h => ?_)
    refine k_X7_hasCrate (by decide) hq cx hV mk_3_145 ⟨Nat.le_of_ble_eq_true rfl, Nat.le_of_ble_eq_true rfl⟩ ⟨Nat.zero_le _, Nat.zero_le _⟩ hl.1 (Nat.le_of_ble_eq_true rfl) dX9_order_14 (fun H locs hV => ?_)
    refine lv_if_ne (tgt := 22) hx hb dX9_order_17 (by decide) (fun hc => ?_) (fun hc => ?_)
    · have h := ifn hc h
      refine lv_aload_n hx hb dX9_order_22 rfl (lv_at hl 0 rfl) ?_
      refine G_X9_whereabouts cx hV mk_2_148 dX9_order_23 ?_
      refine lv_iload_n hx hb dX9_order_26 rfl (lv_at hl 1 rfl) ?_
      refine lv_iload_n hx hb dX9_order_27 rfl (lv_at hl 2 rfl) ?_
      refine lv_iload_n hx hb dX9_order_28 rfl (lv_at hl 3 rfl) ?_
      refine bd_e h (fun σ3 hq h => ?_)
      refine k_X8_rank hq cx hV mk_5_190 ⟨Nat.le_of_ble_eq_true rfl, Nat.le_of_ble_eq_true rfl⟩ ⟨Nat.zero_le _, Nat.zero_le _⟩ hl.1 (Nat.le_of_ble_eq_true rfl) dX9_order_29 (fun H locs hV => ?_)
      refine lv_aload_n hx hb dX9_order_32 rfl (lv_at hl 0 rfl) ?_
      refine G_X9_whereabouts cx hV mk_2_148 dX9_order_33 ?_
      refine G_X8_ranked cx hV mk_2_16 dX9_order_36 ?_
      refine lv_iload hx hb dX9_order_39 (lv_at hl 4 rfl) ?_
      refine bd_e h (fun v4 hq h => ?_)
      refine k_X2_at (by decide) hq cx hV mk_3_93 ⟨Nat.le_of_ble_eq_true rfl, Nat.le_of_ble_eq_true rfl⟩ ⟨Nat.zero_le _, Nat.zero_le _⟩ hl.1 (Nat.le_of_ble_eq_true rfl) dX9_order_41 (fun H locs hV => ?_)
      exact (inlr h).elim
    · have h := ifp hc h
      refine lv_iconst (v := (-1)) hx hb dX9_order_20 (by decide) ?_
      exact (inlr h).elim
  rw [hH, hlocs] at goal
  exact goal
theorem k_X9_order {p : Program} {l : Launch} {e : Env} {R : Room} {s : State} {m : MethodId} {a : Array Value} {below : List Frame} {meth : Method} {c : Code} {H : Heap} {locs : List Loc} {cells slots : Nat} {Q : State → Prop} {cc : ByteArray} {own : String} {nL pc : Nat} {ls : Array Slot} {rest : List Value} {A : Nat → Prop} {E : EV} {X : va_W} {σ : St} {p1 : Int32} {p2 : Int32} {p3 : Int32} {p4 : Int32} {rv : Int32} {σf : St} (h : x_X9_order p1 p2 p3 p4 σ = some (.inl (rv, σf))) (cx : CallFix p m c cc nL s a TBL own) (hV : AtW E (wC E σ ++ X) A s H locs) (hF : FZ E A s s.heap) {idx : Nat} (w1 : Cond.methodLink own idx yX9_order ∈ TBL) (hR : (rm_X9_order).frames + 1 ≤ R.frames ∧ 8 + (5 + 11) + (rm_X9_order).locals ≤ R.locals) (hcs : cells ≤ R.cells ∧ slots ≤ R.slots) (hls : ls.size = nL) (hcat : (rest.map fun v => v.category).sum ≤ 8) (d : decode cc pc = .ok (.invokevirtual idx, 3)) (kk : ∀ (H1 : Heap) (locs1 : List Loc), AtW E (wC E σf ++ X) A s H1 locs1 → W p l e R s m a below meth c H1 locs1 cells slots Q (F0 m (pc + 3) ls (.int rv :: rest))) : W p l e R s m a below meth c H locs cells slots Q (F0 m pc ls (.int p4 :: .int p3 :: .int p2 :: .int p1 :: .ref (eA E 0) :: rest)) :=
  r_callFi (n := 4) (As := [.int p1, .int p2, .int p3, .int p4]) (q0 := 0) (ci := 9) (qq := (RX9, TX9, 14)) (c_X9_order h) wC_fst rfl rfl mk_5_183 mk_5_184 mk_1_1 mk_5_185 (by decide +kernel) rfl ⟨rfl, rfl⟩ cx hV hF w1 hR hcs hls rfl hcat d kk
theorem kx_X9_order {p : Program} {l : Launch} {e : Env} {R : Room} {s : State} {m : MethodId} {a : Array Value} {below : List Frame} {meth : Method} {c : Code} {H : Heap} {locs : List Loc} {cc : ByteArray} {own : String} {nL pc : Nat} {ls : Array Slot} {rest : List Value} {A : Nat → Prop} {E : EV} {X : va_W} {σ : St} {p1 : Int32} {p2 : Int32} {p3 : Int32} {p4 : Int32} (hT : l.stackTraces = false) {nx : Nat} {σf : St} (h : x_X9_order p1 p2 p3 p4 σ = some (.inr (nx, σf))) (cx : CallFix p m c cc nL s a TBL own) (hV : AtW E (wC E σ ++ X) A s H locs) (hF : FZ E A s s.heap) (hx0 : ∀ x ∈ c.exceptionTable.toList, False) (hlk : meth.locks = false) {idx : Nat} (w1 : Cond.methodLink own idx yX9_order ∈ TBL) (hR : (rmx_X9_order).frames + 1 ≤ R.frames ∧ 8 + (5 + 11) + (rmx_X9_order).locals ≤ R.locals) (hcs : 1 ≤ R.cells ∧ 6 ≤ R.slots) (hls : ls.size = nL) (hcat : (rest.map fun v => v.category).sum ≤ 8) (d : decode cc pc = .ok (.invokevirtual idx, 3)) : W p l e R s m a below meth c H locs 0 0 (EX E (wC E σf ++ X) (exN nx) A s a below) (F0 m pc ls (.int p4 :: .int p3 :: .int p2 :: .int p1 :: .ref (eA E 0) :: rest)) :=
  r_callx (n := 4) (As := [.int p1, .int p2, .int p3, .int p4]) (q0 := 0) (ci := 9) (qq := (RX9, TX9, 14)) (t_X9_order hT h) rfl rfl mk_5_183 mk_5_184 mk_1_1 mk_5_185 (by decide +kernel) rfl ⟨rfl, rfl⟩ cx hV hF hx0 hlk w1 hR hcs hls rfl hcat d
def x_X9_mean (p1 : Int32) (p2 : Int32) (p3 : Int32) (p4 : Int32) (σ : St) : Option ((Int64 × St) ⊕ (Nat × St)) :=
  bt (x_X9_needSearch p1 p2 p3 p4 σ) fun σ1 =>
  bd (x_X8_rank p1 p2 p3 σ1) fun σ2 =>
  bd (x_X8_sharedSeconds p3 σ2) fun v3 =>
  bd (x_X9_leastTerms v3 (gL σ2 0) p4) fun v4 =>
  some (.inl (v4, σ2))
abbrev rm_X9_mean : Room := { frames := 6, cells := 0, slots := 0, locals := 141 }
abbrev rmx_X9_mean : Room := { frames := 8, cells := 1, slots := 6, locals := 141 }
set_option maxHeartbeats 4000000 in
set_option maxRecDepth 100000 in
theorem c_X9_mean {l : Launch} {E : EV} {X : va_W} {σ : St} {p1 : Int32} {p2 : Int32} {p3 : Int32} {p4 : Int32} {rv : Int64} {σf : St} (h : x_X9_mean p1 p2 p3 p4 σ = some (.inl (rv, σf))) : CMF l yX9_mean cX9_mean 5 (some .long) rm_X9_mean [.ref (eA E 0), .int p1, .int p2, .int p3, .int p4] E (wC E σ ++ X) (wC E σf ++ X) (qL rv) := by
  refine CMF.start (by decide) (Nat.le_of_ble_eq_true rfl) (fun p e s m a below meth c A ls cx hr hlk hV hF hl => ?_)
  have cx : CallFix p m c cX9_mean 5 s a TBL RX9 := cx
  have hx := cx.1
  have hb := cx.2.1
  have hl : lv_has ls 5 [(0, .ref (eA E 0)), (1, .int p1), (2, .int p2), (3, .int p3), (4, .int p4)] := hl
  generalize hQ : EQ E (wC E σf ++ X) (qL rv) A s a below = QQ
  obtain ⟨H, hH⟩ : ∃ H, H = s.heap := ⟨_, rfl⟩
  obtain ⟨locs, hlocs⟩ : ∃ z, z = ([] : List Loc) := ⟨_, rfl⟩
  have hV : AtW E (wC E σ ++ X) A s H locs := by rw [hH, hlocs]; exact hV
  have goal : W p l e rm_X9_mean s m a below meth c H locs 0 0 QQ (F0 m 0 ls []) := by
    unfold x_X9_mean at h
    refine lv_aload_n hx hb dX9_mean_0 rfl (lv_at hl 0 rfl) ?_
    refine lv_iload_n hx hb dX9_mean_1 rfl (lv_at hl 1 rfl) ?_
    refine lv_iload_n hx hb dX9_mean_2 rfl (lv_at hl 2 rfl) ?_
    refine lv_iload_n hx hb dX9_mean_3 rfl (lv_at hl 3 rfl) ?_
    refine lv_iload hx hb dX9_mean_4 (lv_at hl 4 rfl) ?_
    refine bt_e h (fun σ1 hq h => ?_) (fun q hq h => ?_)
    rotate_left
    · exact (inrl' h).elim
    refine k_X9_needSearch hq cx hV hF mk_5_186 ⟨Nat.le_of_ble_eq_true rfl, Nat.le_of_ble_eq_true rfl⟩ ⟨Nat.zero_le _, Nat.zero_le _⟩ hl.1 (Nat.le_of_ble_eq_true rfl) dX9_mean_6 (fun H locs hV => ?_)
    refine lv_aload_n hx hb dX9_mean_9 rfl (lv_at hl 0 rfl) ?_
    refine G_X9_whereabouts cx hV mk_2_148 dX9_mean_10 ?_
    refine lv_iload_n hx hb dX9_mean_13 rfl (lv_at hl 1 rfl) ?_
    refine lv_iload_n hx hb dX9_mean_14 rfl (lv_at hl 2 rfl) ?_
    refine lv_iload_n hx hb dX9_mean_15 rfl (lv_at hl 3 rfl) ?_
    refine bd_e h (fun σ2 hq h => ?_)
    refine k_X8_rank hq cx hV mk_5_190 ⟨Nat.le_of_ble_eq_true rfl, Nat.le_of_ble_eq_true rfl⟩ ⟨Nat.zero_le _, Nat.zero_le _⟩ hl.1 (Nat.le_of_ble_eq_true rfl) dX9_mean_16 (fun H locs hV => ?_)
    refine lv_aload_n hx hb dX9_mean_19 rfl (lv_at hl 0 rfl) ?_
    refine G_X9_whereabouts cx hV mk_2_148 dX9_mean_20 ?_
    refine lv_iload_n hx hb dX9_mean_23 rfl (lv_at hl 3 rfl) ?_
    refine bd_e h (fun v3 hq h => ?_)
    refine k_X8_sharedSeconds hq cx hV mk_5_217 ⟨Nat.le_of_ble_eq_true rfl, Nat.le_of_ble_eq_true rfl⟩ ⟨Nat.zero_le _, Nat.zero_le _⟩ hl.1 (Nat.le_of_ble_eq_true rfl) dX9_mean_24 (fun H locs hV => ?_)
    refine lv_aload_n hx hb dX9_mean_27 rfl (lv_at hl 0 rfl) ?_
    refine G_X9_whereabouts cx hV mk_2_148 dX9_mean_28 ?_
    refine G_X8_whole cx hV mk_2_14 dX9_mean_31 ?_
    refine lv_iload hx hb dX9_mean_34 (lv_at hl 4 rfl) ?_
    refine bd_e h (fun v4 hq h => ?_)
    refine k_X9_leastTerms hq cx hV mk_5_157 ⟨Nat.le_of_ble_eq_true rfl, Nat.le_of_ble_eq_true rfl⟩ ⟨Nat.zero_le _, Nat.zero_le _⟩ hl.1 (Nat.le_of_ble_eq_true rfl) dX9_mean_36 (fun H locs hV => ?_)
    have h := congrArg some (Sum.inl.inj (Option.some.inj h))
    obtain ⟨h1, h2⟩ := Prod.mk.inj (Option.some.inj h)
    subst h1
    subst h2
    subst hQ
    exact r_lret cx hr hlk hV dX9_mean_39
  rw [hH, hlocs] at goal
  exact goal
set_option maxHeartbeats 4000000 in
set_option maxRecDepth 100000 in
theorem t_X9_mean {l : Launch} (hT : l.stackTraces = false) {E : EV} {X : va_W} {σ : St} {p1 : Int32} {p2 : Int32} {p3 : Int32} {p4 : Int32} {nx : Nat} {σf : St} (h : x_X9_mean p1 p2 p3 p4 σ = some (.inr (nx, σf))) : CXF l yX9_mean cX9_mean 5 (some .long) rmx_X9_mean [.ref (eA E 0), .int p1, .int p2, .int p3, .int p4] E (wC E σ ++ X) (wC E σf ++ X) (exN nx) := by
  refine CXF.start (by decide) (Nat.le_of_ble_eq_true rfl) (fun p e s m a below meth c A ls cx hx0 hlk hV hF hl => ?_)
  have cx : CallFix p m c cX9_mean 5 s a TBL RX9 := cx
  have hx := cx.1
  have hb := cx.2.1
  have hl : lv_has ls 5 [(0, .ref (eA E 0)), (1, .int p1), (2, .int p2), (3, .int p3), (4, .int p4)] := hl
  generalize hQ : EX E (wC E σf ++ X) (exN nx) A s a below = QQ
  obtain ⟨H, hH⟩ : ∃ H, H = s.heap := ⟨_, rfl⟩
  obtain ⟨locs, hlocs⟩ : ∃ z, z = ([] : List Loc) := ⟨_, rfl⟩
  have hV : AtW E (wC E σ ++ X) A s H locs := by rw [hH, hlocs]; exact hV
  have goal : W p l e rmx_X9_mean s m a below meth c H locs 0 0 QQ (F0 m 0 ls []) := by
    unfold x_X9_mean at h
    refine lv_aload_n hx hb dX9_mean_0 rfl (lv_at hl 0 rfl) ?_
    refine lv_iload_n hx hb dX9_mean_1 rfl (lv_at hl 1 rfl) ?_
    refine lv_iload_n hx hb dX9_mean_2 rfl (lv_at hl 2 rfl) ?_
    refine lv_iload_n hx hb dX9_mean_3 rfl (lv_at hl 3 rfl) ?_
    refine lv_iload hx hb dX9_mean_4 (lv_at hl 4 rfl) ?_
    refine bt_e h (fun σ1 hq h => ?_) (fun q hq h => ?_)
    rotate_left
    · have h := Sum.inr.inj h
      subst h
      subst hQ
      exact kx_X9_needSearch hT hq cx hV hF hx0 hlk mk_5_186 ⟨Nat.le_of_ble_eq_true rfl, Nat.le_of_ble_eq_true rfl⟩ ⟨Nat.le_of_ble_eq_true rfl, Nat.le_of_ble_eq_true rfl⟩ hl.1 (Nat.le_of_ble_eq_true rfl) dX9_mean_6
    refine k_X9_needSearch hq cx hV hF mk_5_186 ⟨Nat.le_of_ble_eq_true rfl, Nat.le_of_ble_eq_true rfl⟩ ⟨Nat.zero_le _, Nat.zero_le _⟩ hl.1 (Nat.le_of_ble_eq_true rfl) dX9_mean_6 (fun H locs hV => ?_)
    refine lv_aload_n hx hb dX9_mean_9 rfl (lv_at hl 0 rfl) ?_
    refine G_X9_whereabouts cx hV mk_2_148 dX9_mean_10 ?_
    refine lv_iload_n hx hb dX9_mean_13 rfl (lv_at hl 1 rfl) ?_
    refine lv_iload_n hx hb dX9_mean_14 rfl (lv_at hl 2 rfl) ?_
    refine lv_iload_n hx hb dX9_mean_15 rfl (lv_at hl 3 rfl) ?_
    refine bd_e h (fun σ2 hq h => ?_)
    refine k_X8_rank hq cx hV mk_5_190 ⟨Nat.le_of_ble_eq_true rfl, Nat.le_of_ble_eq_true rfl⟩ ⟨Nat.zero_le _, Nat.zero_le _⟩ hl.1 (Nat.le_of_ble_eq_true rfl) dX9_mean_16 (fun H locs hV => ?_)
    refine lv_aload_n hx hb dX9_mean_19 rfl (lv_at hl 0 rfl) ?_
    refine G_X9_whereabouts cx hV mk_2_148 dX9_mean_20 ?_
    refine lv_iload_n hx hb dX9_mean_23 rfl (lv_at hl 3 rfl) ?_
    refine bd_e h (fun v3 hq h => ?_)
    refine k_X8_sharedSeconds hq cx hV mk_5_217 ⟨Nat.le_of_ble_eq_true rfl, Nat.le_of_ble_eq_true rfl⟩ ⟨Nat.zero_le _, Nat.zero_le _⟩ hl.1 (Nat.le_of_ble_eq_true rfl) dX9_mean_24 (fun H locs hV => ?_)
    refine lv_aload_n hx hb dX9_mean_27 rfl (lv_at hl 0 rfl) ?_
    refine G_X9_whereabouts cx hV mk_2_148 dX9_mean_28 ?_
    refine G_X8_whole cx hV mk_2_14 dX9_mean_31 ?_
    refine lv_iload hx hb dX9_mean_34 (lv_at hl 4 rfl) ?_
    refine bd_e h (fun v4 hq h => ?_)
    refine k_X9_leastTerms hq cx hV mk_5_157 ⟨Nat.le_of_ble_eq_true rfl, Nat.le_of_ble_eq_true rfl⟩ ⟨Nat.zero_le _, Nat.zero_le _⟩ hl.1 (Nat.le_of_ble_eq_true rfl) dX9_mean_36 (fun H locs hV => ?_)
    exact (inlr h).elim
  rw [hH, hlocs] at goal
  exact goal
theorem k_X9_mean {p : Program} {l : Launch} {e : Env} {R : Room} {s : State} {m : MethodId} {a : Array Value} {below : List Frame} {meth : Method} {c : Code} {H : Heap} {locs : List Loc} {cells slots : Nat} {Q : State → Prop} {cc : ByteArray} {own : String} {nL pc : Nat} {ls : Array Slot} {rest : List Value} {A : Nat → Prop} {E : EV} {X : va_W} {σ : St} {p1 : Int32} {p2 : Int32} {p3 : Int32} {p4 : Int32} {rv : Int64} {σf : St} (h : x_X9_mean p1 p2 p3 p4 σ = some (.inl (rv, σf))) (cx : CallFix p m c cc nL s a TBL own) (hV : AtW E (wC E σ ++ X) A s H locs) (hF : FZ E A s s.heap) {idx : Nat} (w1 : Cond.methodLink own idx yX9_mean ∈ TBL) (hR : (rm_X9_mean).frames + 1 ≤ R.frames ∧ 8 + (5 + 11) + (rm_X9_mean).locals ≤ R.locals) (hcs : cells ≤ R.cells ∧ slots ≤ R.slots) (hls : ls.size = nL) (hcat : (rest.map fun v => v.category).sum ≤ 8) (d : decode cc pc = .ok (.invokevirtual idx, 3)) (kk : ∀ (H1 : Heap) (locs1 : List Loc), AtW E (wC E σf ++ X) A s H1 locs1 → W p l e R s m a below meth c H1 locs1 cells slots Q (F0 m (pc + 3) ls (.long rv :: rest))) : W p l e R s m a below meth c H locs cells slots Q (F0 m pc ls (.int p4 :: .int p3 :: .int p2 :: .int p1 :: .ref (eA E 0) :: rest)) :=
  r_callFl (n := 4) (As := [.int p1, .int p2, .int p3, .int p4]) (q0 := 0) (ci := 9) (qq := (RX9, TX9, 14)) (c_X9_mean h) wC_fst rfl rfl mk_5_214 mk_5_215 mk_1_1 mk_5_216 (by decide +kernel) rfl ⟨rfl, rfl⟩ cx hV hF w1 hR hcs hls rfl hcat d kk
theorem kx_X9_mean {p : Program} {l : Launch} {e : Env} {R : Room} {s : State} {m : MethodId} {a : Array Value} {below : List Frame} {meth : Method} {c : Code} {H : Heap} {locs : List Loc} {cc : ByteArray} {own : String} {nL pc : Nat} {ls : Array Slot} {rest : List Value} {A : Nat → Prop} {E : EV} {X : va_W} {σ : St} {p1 : Int32} {p2 : Int32} {p3 : Int32} {p4 : Int32} (hT : l.stackTraces = false) {nx : Nat} {σf : St} (h : x_X9_mean p1 p2 p3 p4 σ = some (.inr (nx, σf))) (cx : CallFix p m c cc nL s a TBL own) (hV : AtW E (wC E σ ++ X) A s H locs) (hF : FZ E A s s.heap) (hx0 : ∀ x ∈ c.exceptionTable.toList, False) (hlk : meth.locks = false) {idx : Nat} (w1 : Cond.methodLink own idx yX9_mean ∈ TBL) (hR : (rmx_X9_mean).frames + 1 ≤ R.frames ∧ 8 + (5 + 11) + (rmx_X9_mean).locals ≤ R.locals) (hcs : 1 ≤ R.cells ∧ 6 ≤ R.slots) (hls : ls.size = nL) (hcat : (rest.map fun v => v.category).sum ≤ 8) (d : decode cc pc = .ok (.invokevirtual idx, 3)) : W p l e R s m a below meth c H locs 0 0 (EX E (wC E σf ++ X) (exN nx) A s a below) (F0 m pc ls (.int p4 :: .int p3 :: .int p2 :: .int p1 :: .ref (eA E 0) :: rest)) :=
  r_callx (n := 4) (As := [.int p1, .int p2, .int p3, .int p4]) (q0 := 0) (ci := 9) (qq := (RX9, TX9, 14)) (t_X9_mean hT h) rfl rfl mk_5_214 mk_5_215 mk_1_1 mk_5_216 (by decide +kernel) rfl ⟨rfl, rfl⟩ cx hV hF hx0 hlk w1 hR hcs hls rfl hcat d
def x_X9_pace_L4 (σ : St) (u1 : Int32) (u2 : Int32) : Option (Bool × (Int32 × Int32)) :=
  (if 8 < u2 then
  some (false, (u1, u2))
  else
  bd (x_X2_at 6 u2 σ) fun v3 =>
  bd (x_X2_at 6 u1 σ) fun v4 =>
  (if (u2 * (8 - v3)) ≤ (u1 * (8 - v4)) then
  some (true, (u1, (u2 + 1)))
  else
  some (true, (u2, (u2 + 1)))))
def x_X9_pace (σ : St) : Option Int32 :=
  bd2 (lp (fun v : (Int32 × Int32) => x_X9_pace_L4 σ v.1 v.2) FU (1, 2)) fun z5 z6 =>
  some z5
abbrev rm_X9_pace : Room := { frames := 1, cells := 0, slots := 0, locals := 21 }
set_option maxHeartbeats 4000000 in
set_option maxRecDepth 100000 in
theorem c_X9_pace {l : Launch} {E : EV} {X : va_W} {σ : St} {rv : Int32} (h : x_X9_pace σ = some rv) : CM l yX9_pace cX9_pace 3 (some .int) rm_X9_pace [.ref (eA E 0)] E (wC E σ ++ X) (wC E σ ++ X) (qI rv) := by
  refine CM.start (by decide) (Nat.le_of_ble_eq_true rfl) (fun p e s m a below meth c A ls cx hr hlk hV hl => ?_)
  have cx : CallFix p m c cX9_pace 3 s a TBL RX9 := cx
  have hx := cx.1
  have hb := cx.2.1
  have hl : lv_has ls 3 [(0, .ref (eA E 0))] := hl
  generalize hQ : EQ E (wC E σ ++ X) (qI rv) A s a below = QQ
  obtain ⟨H, hH⟩ : ∃ H, H = s.heap := ⟨_, rfl⟩
  obtain ⟨locs, hlocs⟩ : ∃ z, z = ([] : List Loc) := ⟨_, rfl⟩
  have hV : AtW E (wC E σ ++ X) A s H locs := by rw [hH, hlocs]; exact hV
  have goal : W p l e rm_X9_pace s m a below meth c H locs 0 0 QQ (F0 m 0 ls []) := by
    unfold x_X9_pace at h
    refine lv_iconst (v := 1) hx hb dX9_pace_0 (by decide) ?_
    refine lv_istore_n (lv' := [(1, .int 1), (0, .ref (eA E 0))]) hx hb dX9_pace_1 rfl hl (by decide) rfl (fun ls hl => ?_)
    refine lv_iconst (v := 2) hx hb dX9_pace_2 (by decide) ?_
    refine lv_istore_n (lv' := [(2, .int 2), (1, .int 1), (0, .ref (eA E 0))]) hx hb dX9_pace_3 rfl hl (by decide) rfl (fun ls hl => ?_)
    refine bd2_e h (fun z5 z6 ho h => ?_)
    refine (lp_rule (G := (fun v : (Int32 × Int32) => ∀ (H : Heap) (locs : List Loc) (ls : Array Slot), AtW E (wC E σ ++ X) A s H locs → lv_has ls 3 [(0, .ref (eA E 0)), (1, .int v.1), (2, .int v.2)] → W p l e rm_X9_pace s m a below meth c H locs 0 0 QQ (F0 m 4 ls []))) (K := (fun v : (Int32 × Int32) => ∀ (H : Heap) (locs : List Loc) (ls : Array Slot), AtW E (wC E σ ++ X) A s H locs → lv_has ls 3 [(1, .int v.1)] → W p l e rm_X9_pace s m a below meth c H locs 0 0 QQ (F0 m 53 ls []))) (fun v b1 y1 h hT1 hF1 => ?_) ho (fun H locs ls hV hl => ?_)) _ _ _ hV (lv_sub hl [2, 1, 0] rfl)
    · obtain ⟨u1, u2⟩ := v
      have h : x_X9_pace_L4 σ u1 u2 = some (b1, y1) := h
      intro H locs ls hV hl
      have hV : AtW E (wC E σ ++ X) A s H locs := hV
      have hl : lv_has ls 3 [(0, .ref (eA E 0)), (1, .int u1), (2, .int u2)] := hl
      unfold x_X9_pace_L4 at h
      refine lv_iload_n hx hb dX9_pace_4 rfl (lv_at hl 2 rfl) ?_
      refine lv_bipush (v := 8) hx hb dX9_pace_5 (by decide) ?_
      refine lv_icmp_gt (tgt := 53) hx hb dX9_pace_7 (by decide) (fun hc => ?_) (fun hc => ?_)
      · have h := ifp hc h
        cases h
        exact hF1 rfl _ _ _ hV (lv_sub hl [1] rfl)
      · have h := ifn hc h
        refine lv_iload_n hx hb dX9_pace_10 rfl (lv_at hl 2 rfl) ?_
        refine lv_bipush (v := 8) hx hb dX9_pace_11 (by decide) ?_
        refine lv_aload_n hx hb dX9_pace_13 rfl (lv_at hl 0 rfl) ?_
        refine G_X9_told cx hV mk_2_141 dX9_pace_14 ?_
        refine G_X7_misses cx hV (by decide) mk_1_82 dX9_pace_17 ?_
        refine lv_iload_n hx hb dX9_pace_20 rfl (lv_at hl 2 rfl) ?_
        refine bd_e h (fun v3 hq h => ?_)
        refine k_X2_at (by decide) hq cx hV mk_3_93 ⟨Nat.le_of_ble_eq_true rfl, Nat.le_of_ble_eq_true rfl⟩ ⟨Nat.zero_le _, Nat.zero_le _⟩ hl.1 (Nat.le_of_ble_eq_true rfl) dX9_pace_21 (fun H locs hV => ?_)
        refine lv_isub hx hb dX9_pace_24 ?_
        refine lv_imul hx hb dX9_pace_25 ?_
        refine lv_iload_n hx hb dX9_pace_26 rfl (lv_at hl 1 rfl) ?_
        refine lv_bipush (v := 8) hx hb dX9_pace_27 (by decide) ?_
        refine lv_aload_n hx hb dX9_pace_29 rfl (lv_at hl 0 rfl) ?_
        refine G_X9_told cx hV mk_2_141 dX9_pace_30 ?_
        refine G_X7_misses cx hV (by decide) mk_1_82 dX9_pace_33 ?_
        refine lv_iload_n hx hb dX9_pace_36 rfl (lv_at hl 1 rfl) ?_
        refine bd_e h (fun v4 hq h => ?_)
        refine k_X2_at (by decide) hq cx hV mk_3_93 ⟨Nat.le_of_ble_eq_true rfl, Nat.le_of_ble_eq_true rfl⟩ ⟨Nat.zero_le _, Nat.zero_le _⟩ hl.1 (Nat.le_of_ble_eq_true rfl) dX9_pace_37 (fun H locs hV => ?_)
        refine lv_isub hx hb dX9_pace_40 ?_
        refine lv_imul hx hb dX9_pace_41 ?_
        refine lv_icmp_le (tgt := 47) hx hb dX9_pace_42 (by decide) (fun hc => ?_) (fun hc => ?_)
        · have h := ifp hc h
          refine lv_iinc (v := (u2 + 1)) (lv' := [(2, .int (u2 + 1)), (0, .ref (eA E 0)), (1, .int u1)]) hx hb dX9_pace_47 hl (k := 2) rfl rfl (by decide) rfl (fun ls hl => ?_)
          refine lv_goto (tgt := 4) hx hb dX9_pace_50 (by decide) ?_
          cases h
          exact hT1 rfl _ _ _ hV (lv_sub hl [1, 2, 0] rfl)
        · have h := ifn hc h
          refine lv_iload_n hx hb dX9_pace_45 rfl (lv_at hl 2 rfl) ?_
          refine lv_istore_n (lv' := [(1, .int u2), (0, .ref (eA E 0)), (2, .int u2)]) hx hb dX9_pace_46 rfl hl (by decide) rfl (fun ls hl => ?_)
          refine lv_iinc (v := (u2 + 1)) (lv' := [(2, .int (u2 + 1)), (1, .int u2), (0, .ref (eA E 0))]) hx hb dX9_pace_47 hl (k := 2) rfl rfl (by decide) rfl (fun ls hl => ?_)
          refine lv_goto (tgt := 4) hx hb dX9_pace_50 (by decide) ?_
          cases h
          exact hT1 rfl _ _ _ hV (lv_sub hl [2, 1, 0] rfl)
    · have hV : AtW E (wC E σ ++ X) A s H locs := hV
      have hl : lv_has ls 3 [(1, .int z5)] := hl
      refine lv_iload_n hx hb dX9_pace_53 rfl (lv_at hl 0 rfl) ?_
      have h1 := Option.some.inj h
      subst h1
      subst hQ
      exact r_ireti cx hr hlk hV dX9_pace_54
  rw [hH, hlocs] at goal
  exact goal
theorem k_X9_pace {p : Program} {l : Launch} {e : Env} {R : Room} {s : State} {m : MethodId} {a : Array Value} {below : List Frame} {meth : Method} {c : Code} {H : Heap} {locs : List Loc} {cells slots : Nat} {Q : State → Prop} {cc : ByteArray} {own : String} {nL pc : Nat} {ls : Array Slot} {rest : List Value} {A : Nat → Prop} {E : EV} {X : va_W} {σ : St} {rv : Int32} (h : x_X9_pace σ = some rv) (cx : CallFix p m c cc nL s a TBL own) (hV : AtW E (wC E σ ++ X) A s H locs) {idx : Nat} (w1 : Cond.methodLink own idx yX9_pace ∈ TBL) (hR : (rm_X9_pace).frames + 1 ≤ R.frames ∧ 8 + (3 + 11) + (rm_X9_pace).locals ≤ R.locals) (hcs : cells ≤ R.cells ∧ slots ≤ R.slots) (hls : ls.size = nL) (hcat : (rest.map fun v => v.category).sum ≤ 8) (d : decode cc pc = .ok (.invokevirtual idx, 3)) (kk : ∀ (H1 : Heap) (locs1 : List Loc), AtW E (wC E σ ++ X) A s H1 locs1 → W p l e R s m a below meth c H1 locs1 cells slots Q (F0 m (pc + 3) ls (.int rv :: rest))) : W p l e R s m a below meth c H locs cells slots Q (F0 m pc ls (.ref (eA E 0) :: rest)) :=
  r_calli (n := 0) (As := []) (q0 := 0) (ci := 9) (qq := (RX9, TX9, 14)) (c_X9_pace h) rfl rfl rfl mk_3_90 mk_3_91 mk_1_1 mk_3_92 (by decide +kernel) rfl ⟨rfl, rfl⟩ cx hV w1 hR hcs hls rfl hcat d kk
def x_X9_round_L25 (w1 : Int32) (u5 : Int32) (u6 : Int32) (u7 : Int32) (σ8 : St) : Option (Bool × (Int32 × Int32 × Int32 × St)) :=
  (if (1 <<< ((gI σ8 2) &&& 31)) ≤ u7 then
  some (false, (u5, u6, u7, σ8))
  else
  bd (x_X1_go 0 u7 1 σ8) fun σ9 =>
  bd (x_X2_sum 38 σ9) fun v10 =>
  (if u6 = (-1) then
  some (true, (u7, v10, (u7 + 1), σ9))
  else
  (if u6 ≤ v10 then
  some (true, (u5, u6, (u7 + 1), σ9))
  else
  some (true, (u7, v10, (u7 + 1), σ9)))))
def x_X9_round_b15 (w1 : Int32) (w2 : Int32) (σ3 : St) : Option ((Int32 × St) ⊕ (Nat × St)) :=
  bt (x_X9_need w2 σ3) fun σ4 =>
  bd4 (lp (fun v : (Int32 × Int32 × Int32 × St) => x_X9_round_L25 w1 v.1 v.2.1 v.2.2.1 v.2.2.2) FU (0, (-1), 0, σ4)) fun z11 z12 z13 σ14 =>
  (if w1 = 0 then
  some (.inl (z11, σ14))
  else
  some (.inl (z12, σ14)))
def x_X9_round_b10 (w15 : Int32) (σ16 : St) : Option ((Int32 × St) ⊕ (Nat × St)) :=
  x_X9_round_b15 w15 1 σ16
def x_X9_round (p1 : Int32) (σ : St) : Option ((Int32 × St) ⊕ (Nat × St)) :=
  (if p1 = 0 then
  x_X9_round_b10 p1 σ
  else
  (if p1 = 1 then
  x_X9_round_b10 p1 σ
  else
  x_X9_round_b15 p1 0 σ))
abbrev rm_X9_round : Room := { frames := 7, cells := 0, slots := 0, locals := 168 }
abbrev rmx_X9_round : Room := { frames := 7, cells := 1, slots := 6, locals := 168 }
set_option maxHeartbeats 4000000 in
set_option maxRecDepth 100000 in
theorem c_X9_round {l : Launch} {E : EV} {X : va_W} {σ : St} {p1 : Int32} {rv : Int32} {σf : St} (h : x_X9_round p1 σ = some (.inl (rv, σf))) : CMF l yX9_round cX9_round 6 (some .int) rm_X9_round [.ref (eA E 0), .int p1] E (wC E σ ++ X) (wC E σf ++ X) (qI rv) := by
  refine CMF.start (by decide) (Nat.le_of_ble_eq_true rfl) (fun p e s m a below meth c A ls cx hr hlk hV hF hl => ?_)
  have cx : CallFix p m c cX9_round 6 s a TBL RX9 := cx
  have hx := cx.1
  have hb := cx.2.1
  have hl : lv_has ls 6 [(0, .ref (eA E 0)), (1, .int p1)] := hl
  generalize hQ : EQ E (wC E σf ++ X) (qI rv) A s a below = QQ
  obtain ⟨H, hH⟩ : ∃ H, H = s.heap := ⟨_, rfl⟩
  obtain ⟨locs, hlocs⟩ : ∃ z, z = ([] : List Loc) := ⟨_, rfl⟩
  have hV : AtW E (wC E σ ++ X) A s H locs := by rw [hH, hlocs]; exact hV
  have goal : W p l e rm_X9_round s m a below meth c H locs 0 0 QQ (F0 m 0 ls []) := by
    unfold x_X9_round at h
    have hj15 : ∀ (w1 : Int32) (w2 : Int32) (σ3 : St) (H : Heap) (locs : List Loc) (ls : Array Slot), x_X9_round_b15 w1 w2 σ3 = some (.inl (rv, σf)) → AtW E (wC E σ3 ++ X) A s H locs → lv_has ls 6 [(0, .ref (eA E 0)), (1, .int w1)] → W p l e rm_X9_round s m a below meth c H locs 0 0 QQ (F0 m 15 ls [.int w2, .ref (eA E 0)]) := by
      intro w1 w2 σ3 H locs ls h hV hl
      unfold x_X9_round_b15 at h
      refine bt_e h (fun σ4 hq h => ?_) (fun q hq h => ?_)
      rotate_left
      · exact (inrl' h).elim
      refine k_X9_need hq cx hV hF mk_3_178 ⟨Nat.le_of_ble_eq_true rfl, Nat.le_of_ble_eq_true rfl⟩ ⟨Nat.zero_le _, Nat.zero_le _⟩ hl.1 (Nat.le_of_ble_eq_true rfl) dX9_round_15 (fun H locs hV => ?_)
      refine lv_iconst (v := 0) hx hb dX9_round_18 (by decide) ?_
      refine lv_istore_n (lv' := [(2, .int 0), (0, .ref (eA E 0)), (1, .int w1)]) hx hb dX9_round_19 rfl hl (by decide) rfl (fun ls hl => ?_)
      refine lv_iconst (v := (-1)) hx hb dX9_round_20 (by decide) ?_
      refine lv_istore_n (lv' := [(3, .int (-1)), (2, .int 0), (0, .ref (eA E 0)), (1, .int w1)]) hx hb dX9_round_21 rfl hl (by decide) rfl (fun ls hl => ?_)
      refine lv_iconst (v := 0) hx hb dX9_round_22 (by decide) ?_
      refine lv_istore (lv' := [(4, .int 0), (3, .int (-1)), (2, .int 0), (0, .ref (eA E 0)), (1, .int w1)]) hx hb dX9_round_23 hl (by decide) rfl (fun ls hl => ?_)
      refine bd4_e h (fun z11 z12 z13 σ14 ho h => ?_)
      refine (lp_rule (G := (fun v : (Int32 × Int32 × Int32 × St) => ∀ (H : Heap) (locs : List Loc) (ls : Array Slot), AtW E (wC E v.2.2.2 ++ X) A s H locs → lv_has ls 6 [(0, .ref (eA E 0)), (1, .int w1), (2, .int v.1), (3, .int v.2.1), (4, .int v.2.2.1)] → W p l e rm_X9_round s m a below meth c H locs 0 0 QQ (F0 m 25 ls []))) (K := (fun v : (Int32 × Int32 × Int32 × St) => ∀ (H : Heap) (locs : List Loc) (ls : Array Slot), AtW E (wC E v.2.2.2 ++ X) A s H locs → lv_has ls 6 [(1, .int w1), (2, .int v.1), (3, .int v.2.1)] → W p l e rm_X9_round s m a below meth c H locs 0 0 QQ (F0 m 85 ls []))) (fun v b1 y1 h hT1 hF1 => ?_) ho (fun H locs ls hV hl => ?_)) _ _ _ hV (lv_sub hl [3, 4, 2, 1, 0] rfl)
      · obtain ⟨u5, u6, u7, σ8⟩ := v
        have h : x_X9_round_L25 w1 u5 u6 u7 σ8 = some (b1, y1) := h
        intro H locs ls hV hl
        have hV : AtW E (wC E σ8 ++ X) A s H locs := hV
        have hl : lv_has ls 6 [(0, .ref (eA E 0)), (1, .int w1), (2, .int u5), (3, .int u6), (4, .int u7)] := hl
        unfold x_X9_round_L25 at h
        refine lv_iload hx hb dX9_round_25 (lv_at hl 4 rfl) ?_
        refine lv_iconst (v := 1) hx hb dX9_round_27 (by decide) ?_
        refine lv_aload_n hx hb dX9_round_28 rfl (lv_at hl 0 rfl) ?_
        refine G_X9_told cx hV mk_2_141 dX9_round_29 ?_
        refine G_X7_lookers cx hV (by decide) mk_1_65 dX9_round_32 ?_
        refine lv_ishl hx hb dX9_round_35 ?_
        refine lv_icmp_ge (tgt := 85) hx hb dX9_round_36 (by decide) (fun hc => ?_) (fun hc => ?_)
        · have h := ifp hc h
          cases h
          exact hF1 rfl _ _ _ hV (lv_sub hl [1, 2, 3] rfl)
        · have h := ifn hc h
          refine lv_aload_n hx hb dX9_round_39 rfl (lv_at hl 0 rfl) ?_
          refine G_X9_theDay cx hV mk_2_147 dX9_round_40 ?_
          refine lv_iconst (v := 0) hx hb dX9_round_43 (by decide) ?_
          refine lv_iload hx hb dX9_round_44 (lv_at hl 4 rfl) ?_
          refine lv_iconst (v := 1) hx hb dX9_round_46 (by decide) ?_
          refine bd_e h (fun σ9 hq h => ?_)
          refine k_X1_go hq cx hV mk_2_207 ⟨Nat.le_of_ble_eq_true rfl, Nat.le_of_ble_eq_true rfl⟩ ⟨Nat.zero_le _, Nat.zero_le _⟩ hl.1 (Nat.le_of_ble_eq_true rfl) dX9_round_47 (fun H locs hV => ?_)
          refine lv_aload_n hx hb dX9_round_50 rfl (lv_at hl 0 rfl) ?_
          refine G_X9_theDay cx hV mk_2_147 dX9_round_51 ?_
          refine G_X1_waited cx hV mk_1_197 dX9_round_54 ?_
          refine bd_e h (fun v10 hq h => ?_)
          refine k_X2_sum (by decide) hq cx hV mk_3_88 ⟨Nat.le_of_ble_eq_true rfl, Nat.le_of_ble_eq_true rfl⟩ ⟨Nat.zero_le _, Nat.zero_le _⟩ hl.1 (Nat.le_of_ble_eq_true rfl) dX9_round_57 (fun H locs hV => ?_)
          refine lv_istore (lv' := [(5, .int v10), (0, .ref (eA E 0)), (1, .int w1), (2, .int u5), (3, .int u6), (4, .int u7)]) hx hb dX9_round_60 hl (by decide) rfl (fun ls hl => ?_)
          refine lv_iload_n hx hb dX9_round_62 rfl (lv_at hl 4 rfl) ?_
          refine lv_iconst (v := (-1)) hx hb dX9_round_63 (by decide) ?_
          refine lv_icmp_eq (tgt := 73) hx hb dX9_round_64 (by decide) (fun hc => ?_) (fun hc => ?_)
          · have h := ifp hc h
            refine lv_iload hx hb dX9_round_73 (lv_at hl 5 rfl) ?_
            refine lv_istore_n (lv' := [(2, .int u7), (5, .int v10), (0, .ref (eA E 0)), (1, .int w1), (3, .int u6), (4, .int u7)]) hx hb dX9_round_75 rfl hl (by decide) rfl (fun ls hl => ?_)
            refine lv_iload hx hb dX9_round_76 (lv_at hl 1 rfl) ?_
            refine lv_istore_n (lv' := [(3, .int v10), (2, .int u7), (5, .int v10), (0, .ref (eA E 0)), (1, .int w1), (4, .int u7)]) hx hb dX9_round_78 rfl hl (by decide) rfl (fun ls hl => ?_)
            refine lv_iinc (v := (u7 + 1)) (lv' := [(4, .int (u7 + 1)), (3, .int v10), (2, .int u7), (5, .int v10), (0, .ref (eA E 0)), (1, .int w1)]) hx hb dX9_round_79 hl (k := 5) rfl rfl (by decide) rfl (fun ls hl => ?_)
            refine lv_goto (tgt := 25) hx hb dX9_round_82 (by decide) ?_
            cases h
            exact hT1 rfl _ _ _ hV (lv_sub hl [4, 5, 2, 1, 0] rfl)
          · have h := ifn hc h
            refine lv_iload hx hb dX9_round_67 (lv_at hl 0 rfl) ?_
            refine lv_iload_n hx hb dX9_round_69 rfl (lv_at hl 4 rfl) ?_
            refine lv_icmp_ge (tgt := 79) hx hb dX9_round_70 (by decide) (fun hc => ?_) (fun hc => ?_)
            · have h := ifp hc h
              refine lv_iinc (v := (u7 + 1)) (lv' := [(4, .int (u7 + 1)), (5, .int v10), (0, .ref (eA E 0)), (1, .int w1), (2, .int u5), (3, .int u6)]) hx hb dX9_round_79 hl (k := 5) rfl rfl (by decide) rfl (fun ls hl => ?_)
              refine lv_goto (tgt := 25) hx hb dX9_round_82 (by decide) ?_
              cases h
              exact hT1 rfl _ _ _ hV (lv_sub hl [2, 3, 4, 5, 0] rfl)
            · have h := ifn hc h
              refine lv_iload hx hb dX9_round_73 (lv_at hl 5 rfl) ?_
              refine lv_istore_n (lv' := [(2, .int u7), (5, .int v10), (0, .ref (eA E 0)), (1, .int w1), (3, .int u6), (4, .int u7)]) hx hb dX9_round_75 rfl hl (by decide) rfl (fun ls hl => ?_)
              refine lv_iload hx hb dX9_round_76 (lv_at hl 1 rfl) ?_
              refine lv_istore_n (lv' := [(3, .int v10), (2, .int u7), (5, .int v10), (0, .ref (eA E 0)), (1, .int w1), (4, .int u7)]) hx hb dX9_round_78 rfl hl (by decide) rfl (fun ls hl => ?_)
              refine lv_iinc (v := (u7 + 1)) (lv' := [(4, .int (u7 + 1)), (3, .int v10), (2, .int u7), (5, .int v10), (0, .ref (eA E 0)), (1, .int w1)]) hx hb dX9_round_79 hl (k := 5) rfl rfl (by decide) rfl (fun ls hl => ?_)
              refine lv_goto (tgt := 25) hx hb dX9_round_82 (by decide) ?_
              cases h
              exact hT1 rfl _ _ _ hV (lv_sub hl [4, 5, 2, 1, 0] rfl)
      · have hV : AtW E (wC E σ14 ++ X) A s H locs := hV
        have hl : lv_has ls 6 [(1, .int w1), (2, .int z11), (3, .int z12)] := hl
        refine lv_iload_n hx hb dX9_round_85 rfl (lv_at hl 0 rfl) ?_
        refine lv_if_ne (tgt := 93) hx hb dX9_round_86 (by decide) (fun hc => ?_) (fun hc => ?_)
        · have h := ifn hc h
          refine lv_iload_n hx hb dX9_round_93 rfl (lv_at hl 2 rfl) ?_
          have h := congrArg some (Sum.inl.inj (Option.some.inj h))
          obtain ⟨h1, h2⟩ := Prod.mk.inj (Option.some.inj h)
          subst h1
          subst h2
          subst hQ
          exact r_ireti cx hr hlk hV dX9_round_94
        · have h := ifp hc h
          refine lv_iload_n hx hb dX9_round_89 rfl (lv_at hl 1 rfl) ?_
          refine lv_goto (tgt := 94) hx hb dX9_round_90 (by decide) ?_
          have h := congrArg some (Sum.inl.inj (Option.some.inj h))
          obtain ⟨h1, h2⟩ := Prod.mk.inj (Option.some.inj h)
          subst h1
          subst h2
          subst hQ
          exact r_ireti cx hr hlk hV dX9_round_94
    have hj10 : ∀ (w15 : Int32) (σ16 : St) (H : Heap) (locs : List Loc) (ls : Array Slot), x_X9_round_b10 w15 σ16 = some (.inl (rv, σf)) → AtW E (wC E σ16 ++ X) A s H locs → lv_has ls 6 [(0, .ref (eA E 0)), (1, .int w15)] → W p l e rm_X9_round s m a below meth c H locs 0 0 QQ (F0 m 10 ls [.ref (eA E 0)]) := by
      intro w15 σ16 H locs ls h hV hl
      unfold x_X9_round_b10 at h
      refine lv_iconst (v := 1) hx hb dX9_round_10 (by decide) ?_
      refine lv_goto (tgt := 15) hx hb dX9_round_11 (by decide) ?_
      exact hj15 w15 1 σ16 _ _ _ h hV (lv_sub hl [0, 1] rfl)
    refine lv_aload_n hx hb dX9_round_0 rfl (lv_at hl 0 rfl) ?_
    refine lv_iload_n hx hb dX9_round_1 rfl (lv_at hl 1 rfl) ?_
    refine lv_if_eq (tgt := 10) hx hb dX9_round_2 (by decide) (fun hc => ?_) (fun hc => ?_)
    · have h := ifp hc h
      exact hj10 p1 σ _ _ _ h hV (lv_sub hl [0, 1] rfl)
    · have h := ifn hc h
      refine lv_iload_n hx hb dX9_round_5 rfl (lv_at hl 1 rfl) ?_
      refine lv_iconst (v := 1) hx hb dX9_round_6 (by decide) ?_
      refine lv_icmp_ne (tgt := 14) hx hb dX9_round_7 (by decide) (fun hc => ?_) (fun hc => ?_)
      · have h := ifn hc h
        refine lv_iconst (v := 0) hx hb dX9_round_14 (by decide) ?_
        exact hj15 p1 0 σ _ _ _ h hV (lv_sub hl [0, 1] rfl)
      · have h := ifp hc h
        exact hj10 p1 σ _ _ _ h hV (lv_sub hl [0, 1] rfl)
  rw [hH, hlocs] at goal
  exact goal
set_option maxHeartbeats 4000000 in
set_option maxRecDepth 100000 in
theorem t_X9_round {l : Launch} (hT : l.stackTraces = false) {E : EV} {X : va_W} {σ : St} {p1 : Int32} {nx : Nat} {σf : St} (h : x_X9_round p1 σ = some (.inr (nx, σf))) : CXF l yX9_round cX9_round 6 (some .int) rmx_X9_round [.ref (eA E 0), .int p1] E (wC E σ ++ X) (wC E σf ++ X) (exN nx) := by
  refine CXF.start (by decide) (Nat.le_of_ble_eq_true rfl) (fun p e s m a below meth c A ls cx hx0 hlk hV hF hl => ?_)
  have cx : CallFix p m c cX9_round 6 s a TBL RX9 := cx
  have hx := cx.1
  have hb := cx.2.1
  have hl : lv_has ls 6 [(0, .ref (eA E 0)), (1, .int p1)] := hl
  generalize hQ : EX E (wC E σf ++ X) (exN nx) A s a below = QQ
  obtain ⟨H, hH⟩ : ∃ H, H = s.heap := ⟨_, rfl⟩
  obtain ⟨locs, hlocs⟩ : ∃ z, z = ([] : List Loc) := ⟨_, rfl⟩
  have hV : AtW E (wC E σ ++ X) A s H locs := by rw [hH, hlocs]; exact hV
  have goal : W p l e rmx_X9_round s m a below meth c H locs 0 0 QQ (F0 m 0 ls []) := by
    unfold x_X9_round at h
    have hj15 : ∀ (w1 : Int32) (w2 : Int32) (σ3 : St) (H : Heap) (locs : List Loc) (ls : Array Slot), x_X9_round_b15 w1 w2 σ3 = some (.inr (nx, σf)) → AtW E (wC E σ3 ++ X) A s H locs → lv_has ls 6 [(0, .ref (eA E 0)), (1, .int w1)] → W p l e rmx_X9_round s m a below meth c H locs 0 0 QQ (F0 m 15 ls [.int w2, .ref (eA E 0)]) := by
      intro w1 w2 σ3 H locs ls h hV hl
      unfold x_X9_round_b15 at h
      refine bt_e h (fun σ4 hq h => ?_) (fun q hq h => ?_)
      rotate_left
      · have h := Sum.inr.inj h
        subst h
        subst hQ
        exact kx_X9_need hT hq cx hV hF hx0 hlk mk_3_178 ⟨Nat.le_of_ble_eq_true rfl, Nat.le_of_ble_eq_true rfl⟩ ⟨Nat.le_of_ble_eq_true rfl, Nat.le_of_ble_eq_true rfl⟩ hl.1 (Nat.le_of_ble_eq_true rfl) dX9_round_15
      refine k_X9_need hq cx hV hF mk_3_178 ⟨Nat.le_of_ble_eq_true rfl, Nat.le_of_ble_eq_true rfl⟩ ⟨Nat.zero_le _, Nat.zero_le _⟩ hl.1 (Nat.le_of_ble_eq_true rfl) dX9_round_15 (fun H locs hV => ?_)
      refine lv_iconst (v := 0) hx hb dX9_round_18 (by decide) ?_
      refine lv_istore_n (lv' := [(2, .int 0), (0, .ref (eA E 0)), (1, .int w1)]) hx hb dX9_round_19 rfl hl (by decide) rfl (fun ls hl => ?_)
      refine lv_iconst (v := (-1)) hx hb dX9_round_20 (by decide) ?_
      refine lv_istore_n (lv' := [(3, .int (-1)), (2, .int 0), (0, .ref (eA E 0)), (1, .int w1)]) hx hb dX9_round_21 rfl hl (by decide) rfl (fun ls hl => ?_)
      refine lv_iconst (v := 0) hx hb dX9_round_22 (by decide) ?_
      refine lv_istore (lv' := [(4, .int 0), (3, .int (-1)), (2, .int 0), (0, .ref (eA E 0)), (1, .int w1)]) hx hb dX9_round_23 hl (by decide) rfl (fun ls hl => ?_)
      refine bd4_e h (fun z11 z12 z13 σ14 ho h => ?_)
      refine (lp_rule (G := (fun v : (Int32 × Int32 × Int32 × St) => ∀ (H : Heap) (locs : List Loc) (ls : Array Slot), AtW E (wC E v.2.2.2 ++ X) A s H locs → lv_has ls 6 [(0, .ref (eA E 0)), (1, .int w1), (2, .int v.1), (3, .int v.2.1), (4, .int v.2.2.1)] → W p l e rmx_X9_round s m a below meth c H locs 0 0 QQ (F0 m 25 ls []))) (K := (fun v : (Int32 × Int32 × Int32 × St) => ∀ (H : Heap) (locs : List Loc) (ls : Array Slot), AtW E (wC E v.2.2.2 ++ X) A s H locs → lv_has ls 6 [(1, .int w1), (2, .int v.1), (3, .int v.2.1)] → W p l e rmx_X9_round s m a below meth c H locs 0 0 QQ (F0 m 85 ls []))) (fun v b1 y1 h hT1 hF1 => ?_) ho (fun H locs ls hV hl => ?_)) _ _ _ hV (lv_sub hl [3, 4, 2, 1, 0] rfl)
      · obtain ⟨u5, u6, u7, σ8⟩ := v
        have h : x_X9_round_L25 w1 u5 u6 u7 σ8 = some (b1, y1) := h
        intro H locs ls hV hl
        have hV : AtW E (wC E σ8 ++ X) A s H locs := hV
        have hl : lv_has ls 6 [(0, .ref (eA E 0)), (1, .int w1), (2, .int u5), (3, .int u6), (4, .int u7)] := hl
        unfold x_X9_round_L25 at h
        refine lv_iload hx hb dX9_round_25 (lv_at hl 4 rfl) ?_
        refine lv_iconst (v := 1) hx hb dX9_round_27 (by decide) ?_
        refine lv_aload_n hx hb dX9_round_28 rfl (lv_at hl 0 rfl) ?_
        refine G_X9_told cx hV mk_2_141 dX9_round_29 ?_
        refine G_X7_lookers cx hV (by decide) mk_1_65 dX9_round_32 ?_
        refine lv_ishl hx hb dX9_round_35 ?_
        refine lv_icmp_ge (tgt := 85) hx hb dX9_round_36 (by decide) (fun hc => ?_) (fun hc => ?_)
        · have h := ifp hc h
          cases h
          exact hF1 rfl _ _ _ hV (lv_sub hl [1, 2, 3] rfl)
        · have h := ifn hc h
          refine lv_aload_n hx hb dX9_round_39 rfl (lv_at hl 0 rfl) ?_
          refine G_X9_theDay cx hV mk_2_147 dX9_round_40 ?_
          refine lv_iconst (v := 0) hx hb dX9_round_43 (by decide) ?_
          refine lv_iload hx hb dX9_round_44 (lv_at hl 4 rfl) ?_
          refine lv_iconst (v := 1) hx hb dX9_round_46 (by decide) ?_
          refine bd_e h (fun σ9 hq h => ?_)
          refine k_X1_go hq cx hV mk_2_207 ⟨Nat.le_of_ble_eq_true rfl, Nat.le_of_ble_eq_true rfl⟩ ⟨Nat.zero_le _, Nat.zero_le _⟩ hl.1 (Nat.le_of_ble_eq_true rfl) dX9_round_47 (fun H locs hV => ?_)
          refine lv_aload_n hx hb dX9_round_50 rfl (lv_at hl 0 rfl) ?_
          refine G_X9_theDay cx hV mk_2_147 dX9_round_51 ?_
          refine G_X1_waited cx hV mk_1_197 dX9_round_54 ?_
          refine bd_e h (fun v10 hq h => ?_)
          refine k_X2_sum (by decide) hq cx hV mk_3_88 ⟨Nat.le_of_ble_eq_true rfl, Nat.le_of_ble_eq_true rfl⟩ ⟨Nat.zero_le _, Nat.zero_le _⟩ hl.1 (Nat.le_of_ble_eq_true rfl) dX9_round_57 (fun H locs hV => ?_)
          refine lv_istore (lv' := [(5, .int v10), (0, .ref (eA E 0)), (1, .int w1), (2, .int u5), (3, .int u6), (4, .int u7)]) hx hb dX9_round_60 hl (by decide) rfl (fun ls hl => ?_)
          refine lv_iload_n hx hb dX9_round_62 rfl (lv_at hl 4 rfl) ?_
          refine lv_iconst (v := (-1)) hx hb dX9_round_63 (by decide) ?_
          refine lv_icmp_eq (tgt := 73) hx hb dX9_round_64 (by decide) (fun hc => ?_) (fun hc => ?_)
          · have h := ifp hc h
            refine lv_iload hx hb dX9_round_73 (lv_at hl 5 rfl) ?_
            refine lv_istore_n (lv' := [(2, .int u7), (5, .int v10), (0, .ref (eA E 0)), (1, .int w1), (3, .int u6), (4, .int u7)]) hx hb dX9_round_75 rfl hl (by decide) rfl (fun ls hl => ?_)
            refine lv_iload hx hb dX9_round_76 (lv_at hl 1 rfl) ?_
            refine lv_istore_n (lv' := [(3, .int v10), (2, .int u7), (5, .int v10), (0, .ref (eA E 0)), (1, .int w1), (4, .int u7)]) hx hb dX9_round_78 rfl hl (by decide) rfl (fun ls hl => ?_)
            refine lv_iinc (v := (u7 + 1)) (lv' := [(4, .int (u7 + 1)), (3, .int v10), (2, .int u7), (5, .int v10), (0, .ref (eA E 0)), (1, .int w1)]) hx hb dX9_round_79 hl (k := 5) rfl rfl (by decide) rfl (fun ls hl => ?_)
            refine lv_goto (tgt := 25) hx hb dX9_round_82 (by decide) ?_
            cases h
            exact hT1 rfl _ _ _ hV (lv_sub hl [4, 5, 2, 1, 0] rfl)
          · have h := ifn hc h
            refine lv_iload hx hb dX9_round_67 (lv_at hl 0 rfl) ?_
            refine lv_iload_n hx hb dX9_round_69 rfl (lv_at hl 4 rfl) ?_
            refine lv_icmp_ge (tgt := 79) hx hb dX9_round_70 (by decide) (fun hc => ?_) (fun hc => ?_)
            · have h := ifp hc h
              refine lv_iinc (v := (u7 + 1)) (lv' := [(4, .int (u7 + 1)), (5, .int v10), (0, .ref (eA E 0)), (1, .int w1), (2, .int u5), (3, .int u6)]) hx hb dX9_round_79 hl (k := 5) rfl rfl (by decide) rfl (fun ls hl => ?_)
              refine lv_goto (tgt := 25) hx hb dX9_round_82 (by decide) ?_
              cases h
              exact hT1 rfl _ _ _ hV (lv_sub hl [2, 3, 4, 5, 0] rfl)
            · have h := ifn hc h
              refine lv_iload hx hb dX9_round_73 (lv_at hl 5 rfl) ?_
              refine lv_istore_n (lv' := [(2, .int u7), (5, .int v10), (0, .ref (eA E 0)), (1, .int w1), (3, .int u6), (4, .int u7)]) hx hb dX9_round_75 rfl hl (by decide) rfl (fun ls hl => ?_)
              refine lv_iload hx hb dX9_round_76 (lv_at hl 1 rfl) ?_
              refine lv_istore_n (lv' := [(3, .int v10), (2, .int u7), (5, .int v10), (0, .ref (eA E 0)), (1, .int w1), (4, .int u7)]) hx hb dX9_round_78 rfl hl (by decide) rfl (fun ls hl => ?_)
              refine lv_iinc (v := (u7 + 1)) (lv' := [(4, .int (u7 + 1)), (3, .int v10), (2, .int u7), (5, .int v10), (0, .ref (eA E 0)), (1, .int w1)]) hx hb dX9_round_79 hl (k := 5) rfl rfl (by decide) rfl (fun ls hl => ?_)
              refine lv_goto (tgt := 25) hx hb dX9_round_82 (by decide) ?_
              cases h
              exact hT1 rfl _ _ _ hV (lv_sub hl [4, 5, 2, 1, 0] rfl)
      · have hV : AtW E (wC E σ14 ++ X) A s H locs := hV
        have hl : lv_has ls 6 [(1, .int w1), (2, .int z11), (3, .int z12)] := hl
        refine lv_iload_n hx hb dX9_round_85 rfl (lv_at hl 0 rfl) ?_
        refine lv_if_ne (tgt := 93) hx hb dX9_round_86 (by decide) (fun hc => ?_) (fun hc => ?_)
        · have h := ifn hc h
          refine lv_iload_n hx hb dX9_round_93 rfl (lv_at hl 2 rfl) ?_
          exact (inlr h).elim
        · have h := ifp hc h
          refine lv_iload_n hx hb dX9_round_89 rfl (lv_at hl 1 rfl) ?_
          refine lv_goto (tgt := 94) hx hb dX9_round_90 (by decide) ?_
          exact (inlr h).elim
    have hj10 : ∀ (w15 : Int32) (σ16 : St) (H : Heap) (locs : List Loc) (ls : Array Slot), x_X9_round_b10 w15 σ16 = some (.inr (nx, σf)) → AtW E (wC E σ16 ++ X) A s H locs → lv_has ls 6 [(0, .ref (eA E 0)), (1, .int w15)] → W p l e rmx_X9_round s m a below meth c H locs 0 0 QQ (F0 m 10 ls [.ref (eA E 0)]) := by
      intro w15 σ16 H locs ls h hV hl
      unfold x_X9_round_b10 at h
      refine lv_iconst (v := 1) hx hb dX9_round_10 (by decide) ?_
      refine lv_goto (tgt := 15) hx hb dX9_round_11 (by decide) ?_
      exact hj15 w15 1 σ16 _ _ _ h hV (lv_sub hl [0, 1] rfl)
    refine lv_aload_n hx hb dX9_round_0 rfl (lv_at hl 0 rfl) ?_
    refine lv_iload_n hx hb dX9_round_1 rfl (lv_at hl 1 rfl) ?_
    refine lv_if_eq (tgt := 10) hx hb dX9_round_2 (by decide) (fun hc => ?_) (fun hc => ?_)
    · have h := ifp hc h
      exact hj10 p1 σ _ _ _ h hV (lv_sub hl [0, 1] rfl)
    · have h := ifn hc h
      refine lv_iload_n hx hb dX9_round_5 rfl (lv_at hl 1 rfl) ?_
      refine lv_iconst (v := 1) hx hb dX9_round_6 (by decide) ?_
      refine lv_icmp_ne (tgt := 14) hx hb dX9_round_7 (by decide) (fun hc => ?_) (fun hc => ?_)
      · have h := ifn hc h
        refine lv_iconst (v := 0) hx hb dX9_round_14 (by decide) ?_
        exact hj15 p1 0 σ _ _ _ h hV (lv_sub hl [0, 1] rfl)
      · have h := ifp hc h
        exact hj10 p1 σ _ _ _ h hV (lv_sub hl [0, 1] rfl)
  rw [hH, hlocs] at goal
  exact goal
theorem k_X9_round {p : Program} {l : Launch} {e : Env} {R : Room} {s : State} {m : MethodId} {a : Array Value} {below : List Frame} {meth : Method} {c : Code} {H : Heap} {locs : List Loc} {cells slots : Nat} {Q : State → Prop} {cc : ByteArray} {own : String} {nL pc : Nat} {ls : Array Slot} {rest : List Value} {A : Nat → Prop} {E : EV} {X : va_W} {σ : St} {p1 : Int32} {rv : Int32} {σf : St} (h : x_X9_round p1 σ = some (.inl (rv, σf))) (cx : CallFix p m c cc nL s a TBL own) (hV : AtW E (wC E σ ++ X) A s H locs) (hF : FZ E A s s.heap) {idx : Nat} (w1 : Cond.methodLink own idx yX9_round ∈ TBL) (hR : (rm_X9_round).frames + 1 ≤ R.frames ∧ 8 + (6 + 11) + (rm_X9_round).locals ≤ R.locals) (hcs : cells ≤ R.cells ∧ slots ≤ R.slots) (hls : ls.size = nL) (hcat : (rest.map fun v => v.category).sum ≤ 8) (d : decode cc pc = .ok (.invokevirtual idx, 3)) (kk : ∀ (H1 : Heap) (locs1 : List Loc), AtW E (wC E σf ++ X) A s H1 locs1 → W p l e R s m a below meth c H1 locs1 cells slots Q (F0 m (pc + 3) ls (.int rv :: rest))) : W p l e R s m a below meth c H locs cells slots Q (F0 m pc ls (.int p1 :: .ref (eA E 0) :: rest)) :=
  r_callFi (n := 1) (As := [.int p1]) (q0 := 0) (ci := 9) (qq := (RX9, TX9, 14)) (c_X9_round h) wC_fst rfl rfl mk_5_225 mk_5_226 mk_1_1 mk_5_227 (by decide +kernel) rfl ⟨rfl, rfl⟩ cx hV hF w1 hR hcs hls rfl hcat d kk
theorem kx_X9_round {p : Program} {l : Launch} {e : Env} {R : Room} {s : State} {m : MethodId} {a : Array Value} {below : List Frame} {meth : Method} {c : Code} {H : Heap} {locs : List Loc} {cc : ByteArray} {own : String} {nL pc : Nat} {ls : Array Slot} {rest : List Value} {A : Nat → Prop} {E : EV} {X : va_W} {σ : St} {p1 : Int32} (hT : l.stackTraces = false) {nx : Nat} {σf : St} (h : x_X9_round p1 σ = some (.inr (nx, σf))) (cx : CallFix p m c cc nL s a TBL own) (hV : AtW E (wC E σ ++ X) A s H locs) (hF : FZ E A s s.heap) (hx0 : ∀ x ∈ c.exceptionTable.toList, False) (hlk : meth.locks = false) {idx : Nat} (w1 : Cond.methodLink own idx yX9_round ∈ TBL) (hR : (rmx_X9_round).frames + 1 ≤ R.frames ∧ 8 + (6 + 11) + (rmx_X9_round).locals ≤ R.locals) (hcs : 1 ≤ R.cells ∧ 6 ≤ R.slots) (hls : ls.size = nL) (hcat : (rest.map fun v => v.category).sum ≤ 8) (d : decode cc pc = .ok (.invokevirtual idx, 3)) : W p l e R s m a below meth c H locs 0 0 (EX E (wC E σf ++ X) (exN nx) A s a below) (F0 m pc ls (.int p1 :: .ref (eA E 0) :: rest)) :=
  r_callx (n := 1) (As := [.int p1]) (q0 := 0) (ci := 9) (qq := (RX9, TX9, 14)) (t_X9_round hT h) rfl rfl mk_5_225 mk_5_226 mk_1_1 mk_5_227 (by decide +kernel) rfl ⟨rfl, rfl⟩ cx hV hF hx0 hlk w1 hR hcs hls rfl hcat d
def x_X9_basket_b35 (w1 : Int32) (w2 : Int32) (w3 : Int32) (σ4 : St) : Option ((Int32 × St) ⊕ (Nat × St)) :=
  bt (x_X9_need w3 σ4) fun σ5 =>
  bd2 (x_X0_bestPrice w1 σ5) fun v6 σ7 =>
  (if w2 = 0 then
  bd (x_X2_at 44 v6 σ7) fun v8 =>
  some (.inl (v8, σ7))
  else
  (if w2 = 1 then
  some (.inl (v6, σ7))
  else
  bd (x_X2_at 45 v6 σ7) fun v9 =>
  some (.inl (v9, σ7))))
def x_X9_basket_b34 (w10 : Int32) (w11 : Int32) (σ12 : St) : Option ((Int32 × St) ⊕ (Nat × St)) :=
  x_X9_basket_b35 w10 w11 0 σ12
def x_X9_basket_b17 (w13 : Int32) (w14 : Int32) (w15 : Int32) (σ16 : St) : Option ((Int32 × St) ⊕ (Nat × St)) :=
  bt (x_X9_need w15 σ16) fun σ17 =>
  (if w14 < 0 then
  x_X9_basket_b34 w13 w14 σ17
  else
  (if 2 < w14 then
  x_X9_basket_b34 w13 w14 σ17
  else
  x_X9_basket_b35 w13 w14 1 σ17))
def x_X9_basket_b16 (w18 : Int32) (w19 : Int32) (σ20 : St) : Option ((Int32 × St) ⊕ (Nat × St)) :=
  x_X9_basket_b17 w18 w19 0 σ20
def x_X9_basket (p1 : Int32) (p2 : Int32) (σ : St) : Option ((Int32 × St) ⊕ (Nat × St)) :=
  (if p1 < 0 then
  x_X9_basket_b16 p1 p2 σ
  else
  (if 999 < p1 then
  x_X9_basket_b16 p1 p2 σ
  else
  x_X9_basket_b17 p1 p2 1 σ))
abbrev rm_X9_basket : Room := { frames := 4, cells := 0, slots := 0, locals := 93 }
abbrev rmx_X9_basket : Room := { frames := 7, cells := 1, slots := 6, locals := 103 }
set_option maxHeartbeats 4000000 in
set_option maxRecDepth 100000 in
theorem c_X9_basket {l : Launch} {E : EV} {X : va_W} {σ : St} {p1 : Int32} {p2 : Int32} {rv : Int32} {σf : St} (h : x_X9_basket p1 p2 σ = some (.inl (rv, σf))) : CMF l yX9_basket cX9_basket 4 (some .int) rm_X9_basket [.ref (eA E 0), .int p1, .int p2] E (wC E σ ++ X) (wC E σf ++ X) (qI rv) := by
  refine CMF.start (by decide) (Nat.le_of_ble_eq_true rfl) (fun p e s m a below meth c A ls cx hr hlk hV hF hl => ?_)
  have cx : CallFix p m c cX9_basket 4 s a TBL RX9 := cx
  have hx := cx.1
  have hb := cx.2.1
  have hl : lv_has ls 4 [(0, .ref (eA E 0)), (1, .int p1), (2, .int p2)] := hl
  generalize hQ : EQ E (wC E σf ++ X) (qI rv) A s a below = QQ
  obtain ⟨H, hH⟩ : ∃ H, H = s.heap := ⟨_, rfl⟩
  obtain ⟨locs, hlocs⟩ : ∃ z, z = ([] : List Loc) := ⟨_, rfl⟩
  have hV : AtW E (wC E σ ++ X) A s H locs := by rw [hH, hlocs]; exact hV
  have goal : W p l e rm_X9_basket s m a below meth c H locs 0 0 QQ (F0 m 0 ls []) := by
    unfold x_X9_basket at h
    have hj35 : ∀ (w1 : Int32) (w2 : Int32) (w3 : Int32) (σ4 : St) (H : Heap) (locs : List Loc) (ls : Array Slot), x_X9_basket_b35 w1 w2 w3 σ4 = some (.inl (rv, σf)) → AtW E (wC E σ4 ++ X) A s H locs → lv_has ls 4 [(0, .ref (eA E 0)), (1, .int w1), (2, .int w2)] → W p l e rm_X9_basket s m a below meth c H locs 0 0 QQ (F0 m 35 ls [.int w3, .ref (eA E 0)]) := by
      intro w1 w2 w3 σ4 H locs ls h hV hl
      unfold x_X9_basket_b35 at h
      refine bt_e h (fun σ5 hq h => ?_) (fun q hq h => ?_)
      rotate_left
      · exact (inrl' h).elim
      refine k_X9_need hq cx hV hF mk_3_178 ⟨Nat.le_of_ble_eq_true rfl, Nat.le_of_ble_eq_true rfl⟩ ⟨Nat.zero_le _, Nat.zero_le _⟩ hl.1 (Nat.le_of_ble_eq_true rfl) dX9_basket_35 (fun H locs hV => ?_)
      refine lv_aload_n hx hb dX9_basket_38 rfl (lv_at hl 0 rfl) ?_
      refine G_X9_theBasket cx hV mk_2_149 dX9_basket_39 ?_
      refine lv_iload_n hx hb dX9_basket_42 rfl (lv_at hl 1 rfl) ?_
      refine bd2_e h (fun v6 σ7 hq h => ?_)
      refine k_X0_bestPrice hq cx hV mk_5_235 ⟨Nat.le_of_ble_eq_true rfl, Nat.le_of_ble_eq_true rfl⟩ ⟨Nat.zero_le _, Nat.zero_le _⟩ hl.1 (Nat.le_of_ble_eq_true rfl) dX9_basket_43 (fun H locs hV => ?_)
      refine lv_istore_n (lv' := [(3, .int v6), (0, .ref (eA E 0)), (1, .int w1), (2, .int w2)]) hx hb dX9_basket_46 rfl hl (by decide) rfl (fun ls hl => ?_)
      refine lv_iload_n hx hb dX9_basket_47 rfl (lv_at hl 3 rfl) ?_
      by_cases hc0 : w2 = 0
      · have h := ifp hc0 h
        refine lv_lookup (tgt := 76) hx hb dX9_basket_48 (by decide) (by first | (rw [hc0]; done) | (rw [hc0]; rfl)) (by decide) ?_
        refine lv_aload_n hx hb dX9_basket_76 rfl (lv_at hl 1 rfl) ?_
        refine G_X9_theBasket cx hV mk_2_149 dX9_basket_77 ?_
        refine G_X0_goods cx hV mk_2_44 dX9_basket_80 ?_
        refine lv_iload_n hx hb dX9_basket_83 rfl (lv_at hl 0 rfl) ?_
        refine bd_e h (fun v8 hq h => ?_)
        refine k_X2_at (by decide) hq cx hV mk_3_93 ⟨Nat.le_of_ble_eq_true rfl, Nat.le_of_ble_eq_true rfl⟩ ⟨Nat.zero_le _, Nat.zero_le _⟩ hl.1 (Nat.le_of_ble_eq_true rfl) dX9_basket_84 (fun H locs hV => ?_)
        have h := congrArg some (Sum.inl.inj (Option.some.inj h))
        obtain ⟨h1, h2⟩ := Prod.mk.inj (Option.some.inj h)
        subst h1
        subst h2
        subst hQ
        exact r_ireti cx hr hlk hV dX9_basket_87
      have h := ifn hc0 h
      by_cases hc1 : w2 = 1
      · have h := ifp hc1 h
        refine lv_lookup (tgt := 88) hx hb dX9_basket_48 (by decide) (by first | (rw [hc1]; done) | (rw [hc1]; rfl)) (by decide) ?_
        refine lv_iload_n hx hb dX9_basket_88 rfl (lv_at hl 0 rfl) ?_
        have h := congrArg some (Sum.inl.inj (Option.some.inj h))
        obtain ⟨h1, h2⟩ := Prod.mk.inj (Option.some.inj h)
        subst h1
        subst h2
        subst hQ
        exact r_ireti cx hr hlk hV dX9_basket_89
      have h := ifn hc1 h
      refine lv_lookup (tgt := 90) (off := 42) hx hb dX9_basket_48 (by decide) (Eq.trans (lv_osw (a := 0) hc0 rfl) (Eq.trans (lv_osw (a := 1) hc1 rfl) rfl)) (by decide) ?_
      refine lv_aload_n hx hb dX9_basket_90 rfl (lv_at hl 1 rfl) ?_
      refine G_X9_theBasket cx hV mk_2_149 dX9_basket_91 ?_
      refine G_X0_sets cx hV mk_2_46 dX9_basket_94 ?_
      refine lv_iload_n hx hb dX9_basket_97 rfl (lv_at hl 0 rfl) ?_
      refine bd_e h (fun v9 hq h => ?_)
      refine k_X2_at (by decide) hq cx hV mk_3_93 ⟨Nat.le_of_ble_eq_true rfl, Nat.le_of_ble_eq_true rfl⟩ ⟨Nat.zero_le _, Nat.zero_le _⟩ hl.1 (Nat.le_of_ble_eq_true rfl) dX9_basket_98 (fun H locs hV => ?_)
      have h := congrArg some (Sum.inl.inj (Option.some.inj h))
      obtain ⟨h1, h2⟩ := Prod.mk.inj (Option.some.inj h)
      subst h1
      subst h2
      subst hQ
      exact r_ireti cx hr hlk hV dX9_basket_101
    have hj34 : ∀ (w10 : Int32) (w11 : Int32) (σ12 : St) (H : Heap) (locs : List Loc) (ls : Array Slot), x_X9_basket_b34 w10 w11 σ12 = some (.inl (rv, σf)) → AtW E (wC E σ12 ++ X) A s H locs → lv_has ls 4 [(0, .ref (eA E 0)), (1, .int w10), (2, .int w11)] → W p l e rm_X9_basket s m a below meth c H locs 0 0 QQ (F0 m 34 ls [.ref (eA E 0)]) := by
      intro w10 w11 σ12 H locs ls h hV hl
      unfold x_X9_basket_b34 at h
      refine lv_iconst (v := 0) hx hb dX9_basket_34 (by decide) ?_
      exact hj35 w10 w11 0 σ12 _ _ _ h hV (lv_sub hl [0, 1, 2] rfl)
    have hj17 : ∀ (w13 : Int32) (w14 : Int32) (w15 : Int32) (σ16 : St) (H : Heap) (locs : List Loc) (ls : Array Slot), x_X9_basket_b17 w13 w14 w15 σ16 = some (.inl (rv, σf)) → AtW E (wC E σ16 ++ X) A s H locs → lv_has ls 4 [(0, .ref (eA E 0)), (1, .int w13), (2, .int w14)] → W p l e rm_X9_basket s m a below meth c H locs 0 0 QQ (F0 m 17 ls [.int w15, .ref (eA E 0)]) := by
      intro w13 w14 w15 σ16 H locs ls h hV hl
      unfold x_X9_basket_b17 at h
      refine bt_e h (fun σ17 hq h => ?_) (fun q hq h => ?_)
      rotate_left
      · exact (inrl' h).elim
      refine k_X9_need hq cx hV hF mk_3_178 ⟨Nat.le_of_ble_eq_true rfl, Nat.le_of_ble_eq_true rfl⟩ ⟨Nat.zero_le _, Nat.zero_le _⟩ hl.1 (Nat.le_of_ble_eq_true rfl) dX9_basket_17 (fun H locs hV => ?_)
      refine lv_aload_n hx hb dX9_basket_20 rfl (lv_at hl 0 rfl) ?_
      refine lv_iload_n hx hb dX9_basket_21 rfl (lv_at hl 2 rfl) ?_
      refine lv_if_lt (tgt := 34) hx hb dX9_basket_22 (by decide) (fun hc => ?_) (fun hc => ?_)
      · have h := ifp hc h
        exact hj34 w13 w14 σ17 _ _ _ h hV (lv_sub hl [0, 1, 2] rfl)
      · have h := ifn hc h
        refine lv_iload_n hx hb dX9_basket_25 rfl (lv_at hl 2 rfl) ?_
        refine lv_iconst (v := 2) hx hb dX9_basket_26 (by decide) ?_
        refine lv_icmp_gt (tgt := 34) hx hb dX9_basket_27 (by decide) (fun hc => ?_) (fun hc => ?_)
        · have h := ifp hc h
          exact hj34 w13 w14 σ17 _ _ _ h hV (lv_sub hl [0, 1, 2] rfl)
        · have h := ifn hc h
          refine lv_iconst (v := 1) hx hb dX9_basket_30 (by decide) ?_
          refine lv_goto (tgt := 35) hx hb dX9_basket_31 (by decide) ?_
          exact hj35 w13 w14 1 σ17 _ _ _ h hV (lv_sub hl [0, 1, 2] rfl)
    have hj16 : ∀ (w18 : Int32) (w19 : Int32) (σ20 : St) (H : Heap) (locs : List Loc) (ls : Array Slot), x_X9_basket_b16 w18 w19 σ20 = some (.inl (rv, σf)) → AtW E (wC E σ20 ++ X) A s H locs → lv_has ls 4 [(0, .ref (eA E 0)), (1, .int w18), (2, .int w19)] → W p l e rm_X9_basket s m a below meth c H locs 0 0 QQ (F0 m 16 ls [.ref (eA E 0)]) := by
      intro w18 w19 σ20 H locs ls h hV hl
      unfold x_X9_basket_b16 at h
      refine lv_iconst (v := 0) hx hb dX9_basket_16 (by decide) ?_
      exact hj17 w18 w19 0 σ20 _ _ _ h hV (lv_sub hl [0, 1, 2] rfl)
    refine lv_aload_n hx hb dX9_basket_0 rfl (lv_at hl 0 rfl) ?_
    refine lv_iload_n hx hb dX9_basket_1 rfl (lv_at hl 1 rfl) ?_
    refine lv_if_lt (tgt := 16) hx hb dX9_basket_2 (by decide) (fun hc => ?_) (fun hc => ?_)
    · have h := ifp hc h
      exact hj16 p1 p2 σ _ _ _ h hV (lv_sub hl [0, 1, 2] rfl)
    · have h := ifn hc h
      refine lv_iload_n hx hb dX9_basket_5 rfl (lv_at hl 1 rfl) ?_
      refine lv_sipush (v := 999) hx hb dX9_basket_6 (by decide) ?_
      refine lv_icmp_gt (tgt := 16) hx hb dX9_basket_9 (by decide) (fun hc => ?_) (fun hc => ?_)
      · have h := ifp hc h
        exact hj16 p1 p2 σ _ _ _ h hV (lv_sub hl [0, 1, 2] rfl)
      · have h := ifn hc h
        refine lv_iconst (v := 1) hx hb dX9_basket_12 (by decide) ?_
        refine lv_goto (tgt := 17) hx hb dX9_basket_13 (by decide) ?_
        exact hj17 p1 p2 1 σ _ _ _ h hV (lv_sub hl [0, 1, 2] rfl)
  rw [hH, hlocs] at goal
  exact goal
set_option maxHeartbeats 4000000 in
set_option maxRecDepth 100000 in
theorem t_X9_basket {l : Launch} (hT : l.stackTraces = false) {E : EV} {X : va_W} {σ : St} {p1 : Int32} {p2 : Int32} {nx : Nat} {σf : St} (h : x_X9_basket p1 p2 σ = some (.inr (nx, σf))) : CXF l yX9_basket cX9_basket 4 (some .int) rmx_X9_basket [.ref (eA E 0), .int p1, .int p2] E (wC E σ ++ X) (wC E σf ++ X) (exN nx) := by
  refine CXF.start (by decide) (Nat.le_of_ble_eq_true rfl) (fun p e s m a below meth c A ls cx hx0 hlk hV hF hl => ?_)
  have cx : CallFix p m c cX9_basket 4 s a TBL RX9 := cx
  have hx := cx.1
  have hb := cx.2.1
  have hl : lv_has ls 4 [(0, .ref (eA E 0)), (1, .int p1), (2, .int p2)] := hl
  generalize hQ : EX E (wC E σf ++ X) (exN nx) A s a below = QQ
  obtain ⟨H, hH⟩ : ∃ H, H = s.heap := ⟨_, rfl⟩
  obtain ⟨locs, hlocs⟩ : ∃ z, z = ([] : List Loc) := ⟨_, rfl⟩
  have hV : AtW E (wC E σ ++ X) A s H locs := by rw [hH, hlocs]; exact hV
  have goal : W p l e rmx_X9_basket s m a below meth c H locs 0 0 QQ (F0 m 0 ls []) := by
    unfold x_X9_basket at h
    have hj35 : ∀ (w1 : Int32) (w2 : Int32) (w3 : Int32) (σ4 : St) (H : Heap) (locs : List Loc) (ls : Array Slot), x_X9_basket_b35 w1 w2 w3 σ4 = some (.inr (nx, σf)) → AtW E (wC E σ4 ++ X) A s H locs → lv_has ls 4 [(0, .ref (eA E 0)), (1, .int w1), (2, .int w2)] → W p l e rmx_X9_basket s m a below meth c H locs 0 0 QQ (F0 m 35 ls [.int w3, .ref (eA E 0)]) := by
      intro w1 w2 w3 σ4 H locs ls h hV hl
      unfold x_X9_basket_b35 at h
      refine bt_e h (fun σ5 hq h => ?_) (fun q hq h => ?_)
      rotate_left
      · have h := Sum.inr.inj h
        subst h
        subst hQ
        exact kx_X9_need hT hq cx hV hF hx0 hlk mk_3_178 ⟨Nat.le_of_ble_eq_true rfl, Nat.le_of_ble_eq_true rfl⟩ ⟨Nat.le_of_ble_eq_true rfl, Nat.le_of_ble_eq_true rfl⟩ hl.1 (Nat.le_of_ble_eq_true rfl) dX9_basket_35
      refine k_X9_need hq cx hV hF mk_3_178 ⟨Nat.le_of_ble_eq_true rfl, Nat.le_of_ble_eq_true rfl⟩ ⟨Nat.zero_le _, Nat.zero_le _⟩ hl.1 (Nat.le_of_ble_eq_true rfl) dX9_basket_35 (fun H locs hV => ?_)
      refine lv_aload_n hx hb dX9_basket_38 rfl (lv_at hl 0 rfl) ?_
      refine G_X9_theBasket cx hV mk_2_149 dX9_basket_39 ?_
      refine lv_iload_n hx hb dX9_basket_42 rfl (lv_at hl 1 rfl) ?_
      refine bd2_e h (fun v6 σ7 hq h => ?_)
      refine k_X0_bestPrice hq cx hV mk_5_235 ⟨Nat.le_of_ble_eq_true rfl, Nat.le_of_ble_eq_true rfl⟩ ⟨Nat.zero_le _, Nat.zero_le _⟩ hl.1 (Nat.le_of_ble_eq_true rfl) dX9_basket_43 (fun H locs hV => ?_)
      refine lv_istore_n (lv' := [(3, .int v6), (0, .ref (eA E 0)), (1, .int w1), (2, .int w2)]) hx hb dX9_basket_46 rfl hl (by decide) rfl (fun ls hl => ?_)
      refine lv_iload_n hx hb dX9_basket_47 rfl (lv_at hl 3 rfl) ?_
      by_cases hc0 : w2 = 0
      · have h := ifp hc0 h
        refine lv_lookup (tgt := 76) hx hb dX9_basket_48 (by decide) (by first | (rw [hc0]; done) | (rw [hc0]; rfl)) (by decide) ?_
        refine lv_aload_n hx hb dX9_basket_76 rfl (lv_at hl 1 rfl) ?_
        refine G_X9_theBasket cx hV mk_2_149 dX9_basket_77 ?_
        refine G_X0_goods cx hV mk_2_44 dX9_basket_80 ?_
        refine lv_iload_n hx hb dX9_basket_83 rfl (lv_at hl 0 rfl) ?_
        refine bd_e h (fun v8 hq h => ?_)
        refine k_X2_at (by decide) hq cx hV mk_3_93 ⟨Nat.le_of_ble_eq_true rfl, Nat.le_of_ble_eq_true rfl⟩ ⟨Nat.zero_le _, Nat.zero_le _⟩ hl.1 (Nat.le_of_ble_eq_true rfl) dX9_basket_84 (fun H locs hV => ?_)
        exact (inlr h).elim
      have h := ifn hc0 h
      by_cases hc1 : w2 = 1
      · have h := ifp hc1 h
        refine lv_lookup (tgt := 88) hx hb dX9_basket_48 (by decide) (by first | (rw [hc1]; done) | (rw [hc1]; rfl)) (by decide) ?_
        refine lv_iload_n hx hb dX9_basket_88 rfl (lv_at hl 0 rfl) ?_
        exact (inlr h).elim
      have h := ifn hc1 h
      refine lv_lookup (tgt := 90) (off := 42) hx hb dX9_basket_48 (by decide) (Eq.trans (lv_osw (a := 0) hc0 rfl) (Eq.trans (lv_osw (a := 1) hc1 rfl) rfl)) (by decide) ?_
      refine lv_aload_n hx hb dX9_basket_90 rfl (lv_at hl 1 rfl) ?_
      refine G_X9_theBasket cx hV mk_2_149 dX9_basket_91 ?_
      refine G_X0_sets cx hV mk_2_46 dX9_basket_94 ?_
      refine lv_iload_n hx hb dX9_basket_97 rfl (lv_at hl 0 rfl) ?_
      refine bd_e h (fun v9 hq h => ?_)
      refine k_X2_at (by decide) hq cx hV mk_3_93 ⟨Nat.le_of_ble_eq_true rfl, Nat.le_of_ble_eq_true rfl⟩ ⟨Nat.zero_le _, Nat.zero_le _⟩ hl.1 (Nat.le_of_ble_eq_true rfl) dX9_basket_98 (fun H locs hV => ?_)
      exact (inlr h).elim
    have hj34 : ∀ (w10 : Int32) (w11 : Int32) (σ12 : St) (H : Heap) (locs : List Loc) (ls : Array Slot), x_X9_basket_b34 w10 w11 σ12 = some (.inr (nx, σf)) → AtW E (wC E σ12 ++ X) A s H locs → lv_has ls 4 [(0, .ref (eA E 0)), (1, .int w10), (2, .int w11)] → W p l e rmx_X9_basket s m a below meth c H locs 0 0 QQ (F0 m 34 ls [.ref (eA E 0)]) := by
      intro w10 w11 σ12 H locs ls h hV hl
      unfold x_X9_basket_b34 at h
      refine lv_iconst (v := 0) hx hb dX9_basket_34 (by decide) ?_
      exact hj35 w10 w11 0 σ12 _ _ _ h hV (lv_sub hl [0, 1, 2] rfl)
    have hj17 : ∀ (w13 : Int32) (w14 : Int32) (w15 : Int32) (σ16 : St) (H : Heap) (locs : List Loc) (ls : Array Slot), x_X9_basket_b17 w13 w14 w15 σ16 = some (.inr (nx, σf)) → AtW E (wC E σ16 ++ X) A s H locs → lv_has ls 4 [(0, .ref (eA E 0)), (1, .int w13), (2, .int w14)] → W p l e rmx_X9_basket s m a below meth c H locs 0 0 QQ (F0 m 17 ls [.int w15, .ref (eA E 0)]) := by
      intro w13 w14 w15 σ16 H locs ls h hV hl
      unfold x_X9_basket_b17 at h
      refine bt_e h (fun σ17 hq h => ?_) (fun q hq h => ?_)
      rotate_left
      · have h := Sum.inr.inj h
        subst h
        subst hQ
        exact kx_X9_need hT hq cx hV hF hx0 hlk mk_3_178 ⟨Nat.le_of_ble_eq_true rfl, Nat.le_of_ble_eq_true rfl⟩ ⟨Nat.le_of_ble_eq_true rfl, Nat.le_of_ble_eq_true rfl⟩ hl.1 (Nat.le_of_ble_eq_true rfl) dX9_basket_17
      refine k_X9_need hq cx hV hF mk_3_178 ⟨Nat.le_of_ble_eq_true rfl, Nat.le_of_ble_eq_true rfl⟩ ⟨Nat.zero_le _, Nat.zero_le _⟩ hl.1 (Nat.le_of_ble_eq_true rfl) dX9_basket_17 (fun H locs hV => ?_)
      refine lv_aload_n hx hb dX9_basket_20 rfl (lv_at hl 0 rfl) ?_
      refine lv_iload_n hx hb dX9_basket_21 rfl (lv_at hl 2 rfl) ?_
      refine lv_if_lt (tgt := 34) hx hb dX9_basket_22 (by decide) (fun hc => ?_) (fun hc => ?_)
      · have h := ifp hc h
        exact hj34 w13 w14 σ17 _ _ _ h hV (lv_sub hl [0, 1, 2] rfl)
      · have h := ifn hc h
        refine lv_iload_n hx hb dX9_basket_25 rfl (lv_at hl 2 rfl) ?_
        refine lv_iconst (v := 2) hx hb dX9_basket_26 (by decide) ?_
        refine lv_icmp_gt (tgt := 34) hx hb dX9_basket_27 (by decide) (fun hc => ?_) (fun hc => ?_)
        · have h := ifp hc h
          exact hj34 w13 w14 σ17 _ _ _ h hV (lv_sub hl [0, 1, 2] rfl)
        · have h := ifn hc h
          refine lv_iconst (v := 1) hx hb dX9_basket_30 (by decide) ?_
          refine lv_goto (tgt := 35) hx hb dX9_basket_31 (by decide) ?_
          exact hj35 w13 w14 1 σ17 _ _ _ h hV (lv_sub hl [0, 1, 2] rfl)
    have hj16 : ∀ (w18 : Int32) (w19 : Int32) (σ20 : St) (H : Heap) (locs : List Loc) (ls : Array Slot), x_X9_basket_b16 w18 w19 σ20 = some (.inr (nx, σf)) → AtW E (wC E σ20 ++ X) A s H locs → lv_has ls 4 [(0, .ref (eA E 0)), (1, .int w18), (2, .int w19)] → W p l e rmx_X9_basket s m a below meth c H locs 0 0 QQ (F0 m 16 ls [.ref (eA E 0)]) := by
      intro w18 w19 σ20 H locs ls h hV hl
      unfold x_X9_basket_b16 at h
      refine lv_iconst (v := 0) hx hb dX9_basket_16 (by decide) ?_
      exact hj17 w18 w19 0 σ20 _ _ _ h hV (lv_sub hl [0, 1, 2] rfl)
    refine lv_aload_n hx hb dX9_basket_0 rfl (lv_at hl 0 rfl) ?_
    refine lv_iload_n hx hb dX9_basket_1 rfl (lv_at hl 1 rfl) ?_
    refine lv_if_lt (tgt := 16) hx hb dX9_basket_2 (by decide) (fun hc => ?_) (fun hc => ?_)
    · have h := ifp hc h
      exact hj16 p1 p2 σ _ _ _ h hV (lv_sub hl [0, 1, 2] rfl)
    · have h := ifn hc h
      refine lv_iload_n hx hb dX9_basket_5 rfl (lv_at hl 1 rfl) ?_
      refine lv_sipush (v := 999) hx hb dX9_basket_6 (by decide) ?_
      refine lv_icmp_gt (tgt := 16) hx hb dX9_basket_9 (by decide) (fun hc => ?_) (fun hc => ?_)
      · have h := ifp hc h
        exact hj16 p1 p2 σ _ _ _ h hV (lv_sub hl [0, 1, 2] rfl)
      · have h := ifn hc h
        refine lv_iconst (v := 1) hx hb dX9_basket_12 (by decide) ?_
        refine lv_goto (tgt := 17) hx hb dX9_basket_13 (by decide) ?_
        exact hj17 p1 p2 1 σ _ _ _ h hV (lv_sub hl [0, 1, 2] rfl)
  rw [hH, hlocs] at goal
  exact goal
theorem k_X9_basket {p : Program} {l : Launch} {e : Env} {R : Room} {s : State} {m : MethodId} {a : Array Value} {below : List Frame} {meth : Method} {c : Code} {H : Heap} {locs : List Loc} {cells slots : Nat} {Q : State → Prop} {cc : ByteArray} {own : String} {nL pc : Nat} {ls : Array Slot} {rest : List Value} {A : Nat → Prop} {E : EV} {X : va_W} {σ : St} {p1 : Int32} {p2 : Int32} {rv : Int32} {σf : St} (h : x_X9_basket p1 p2 σ = some (.inl (rv, σf))) (cx : CallFix p m c cc nL s a TBL own) (hV : AtW E (wC E σ ++ X) A s H locs) (hF : FZ E A s s.heap) {idx : Nat} (w1 : Cond.methodLink own idx yX9_basket ∈ TBL) (hR : (rm_X9_basket).frames + 1 ≤ R.frames ∧ 8 + (4 + 11) + (rm_X9_basket).locals ≤ R.locals) (hcs : cells ≤ R.cells ∧ slots ≤ R.slots) (hls : ls.size = nL) (hcat : (rest.map fun v => v.category).sum ≤ 8) (d : decode cc pc = .ok (.invokevirtual idx, 3)) (kk : ∀ (H1 : Heap) (locs1 : List Loc), AtW E (wC E σf ++ X) A s H1 locs1 → W p l e R s m a below meth c H1 locs1 cells slots Q (F0 m (pc + 3) ls (.int rv :: rest))) : W p l e R s m a below meth c H locs cells slots Q (F0 m pc ls (.int p2 :: .int p1 :: .ref (eA E 0) :: rest)) :=
  r_callFi (n := 2) (As := [.int p1, .int p2]) (q0 := 0) (ci := 9) (qq := (RX9, TX9, 14)) (c_X9_basket h) wC_fst rfl rfl mk_5_232 mk_5_233 mk_1_1 mk_5_234 (by decide +kernel) rfl ⟨rfl, rfl⟩ cx hV hF w1 hR hcs hls rfl hcat d kk
theorem kx_X9_basket {p : Program} {l : Launch} {e : Env} {R : Room} {s : State} {m : MethodId} {a : Array Value} {below : List Frame} {meth : Method} {c : Code} {H : Heap} {locs : List Loc} {cc : ByteArray} {own : String} {nL pc : Nat} {ls : Array Slot} {rest : List Value} {A : Nat → Prop} {E : EV} {X : va_W} {σ : St} {p1 : Int32} {p2 : Int32} (hT : l.stackTraces = false) {nx : Nat} {σf : St} (h : x_X9_basket p1 p2 σ = some (.inr (nx, σf))) (cx : CallFix p m c cc nL s a TBL own) (hV : AtW E (wC E σ ++ X) A s H locs) (hF : FZ E A s s.heap) (hx0 : ∀ x ∈ c.exceptionTable.toList, False) (hlk : meth.locks = false) {idx : Nat} (w1 : Cond.methodLink own idx yX9_basket ∈ TBL) (hR : (rmx_X9_basket).frames + 1 ≤ R.frames ∧ 8 + (4 + 11) + (rmx_X9_basket).locals ≤ R.locals) (hcs : 1 ≤ R.cells ∧ 6 ≤ R.slots) (hls : ls.size = nL) (hcat : (rest.map fun v => v.category).sum ≤ 8) (d : decode cc pc = .ok (.invokevirtual idx, 3)) : W p l e R s m a below meth c H locs 0 0 (EX E (wC E σf ++ X) (exN nx) A s a below) (F0 m pc ls (.int p2 :: .int p1 :: .ref (eA E 0) :: rest)) :=
  r_callx (n := 2) (As := [.int p1, .int p2]) (q0 := 0) (ci := 9) (qq := (RX9, TX9, 14)) (t_X9_basket hT h) rfl rfl mk_5_232 mk_5_233 mk_1_1 mk_5_234 (by decide +kernel) rfl ⟨rfl, rfl⟩ cx hV hF hx0 hlk w1 hR hcs hls rfl hcat d
def x_X9_sort_L4 (u1 : Int32) (u2 : Int32) (σ3 : St) : Option (Bool × (Int32 × Int32 × St)) :=
  (if (gI σ3 1) ≤ u2 then
  some (false, (u1, u2, σ3))
  else
  bd (x_X5_offOwn 0 0 u2 σ3) fun v4 =>
  (if v4 ≤ 0 then
  some (true, (u1, (u2 + 1), σ3))
  else
  bd (x_X7_ofSleeve 0 u2 3 σ3) fun v5 =>
  bd (x_X5_putBehind 0 u2 v5 σ3) fun σ6 =>
  some (true, ((u1 + 1), (u2 + 1), σ6))))
def x_X9_sort (σ : St) : Option (Int32 × St) :=
  bd3 (lp (fun v : (Int32 × Int32 × St) => x_X9_sort_L4 v.1 v.2.1 v.2.2) FU (0, 0, σ)) fun z7 z8 σ9 =>
  some (z7, σ9)
abbrev rm_X9_sort : Room := { frames := 3, cells := 0, slots := 0, locals := 68 }
set_option maxHeartbeats 4000000 in
set_option maxRecDepth 100000 in
theorem c_X9_sort {l : Launch} {E : EV} {X : va_W} {σ : St} {rv : Int32} {σf : St} (h : x_X9_sort σ = some (rv, σf)) : CM l yX9_sort cX9_sort 3 (some .int) rm_X9_sort [.ref (eA E 0)] E (wC E σ ++ X) (wC E σf ++ X) (qI rv) := by
  refine CM.start (by decide) (Nat.le_of_ble_eq_true rfl) (fun p e s m a below meth c A ls cx hr hlk hV hl => ?_)
  have cx : CallFix p m c cX9_sort 3 s a TBL RX9 := cx
  have hx := cx.1
  have hb := cx.2.1
  have hl : lv_has ls 3 [(0, .ref (eA E 0))] := hl
  generalize hQ : EQ E (wC E σf ++ X) (qI rv) A s a below = QQ
  obtain ⟨H, hH⟩ : ∃ H, H = s.heap := ⟨_, rfl⟩
  obtain ⟨locs, hlocs⟩ : ∃ z, z = ([] : List Loc) := ⟨_, rfl⟩
  have hV : AtW E (wC E σ ++ X) A s H locs := by rw [hH, hlocs]; exact hV
  have goal : W p l e rm_X9_sort s m a below meth c H locs 0 0 QQ (F0 m 0 ls []) := by
    unfold x_X9_sort at h
    refine lv_iconst (v := 0) hx hb dX9_sort_0 (by decide) ?_
    refine lv_istore_n (lv' := [(1, .int 0), (0, .ref (eA E 0))]) hx hb dX9_sort_1 rfl hl (by decide) rfl (fun ls hl => ?_)
    refine lv_iconst (v := 0) hx hb dX9_sort_2 (by decide) ?_
    refine lv_istore_n (lv' := [(2, .int 0), (1, .int 0), (0, .ref (eA E 0))]) hx hb dX9_sort_3 rfl hl (by decide) rfl (fun ls hl => ?_)
    refine bd3_e h (fun z7 z8 σ9 ho h => ?_)
    refine (lp_rule (G := (fun v : (Int32 × Int32 × St) => ∀ (H : Heap) (locs : List Loc) (ls : Array Slot), AtW E (wC E v.2.2 ++ X) A s H locs → lv_has ls 3 [(0, .ref (eA E 0)), (1, .int v.1), (2, .int v.2.1)] → W p l e rm_X9_sort s m a below meth c H locs 0 0 QQ (F0 m 4 ls []))) (K := (fun v : (Int32 × Int32 × St) => ∀ (H : Heap) (locs : List Loc) (ls : Array Slot), AtW E (wC E v.2.2 ++ X) A s H locs → lv_has ls 3 [(1, .int v.1)] → W p l e rm_X9_sort s m a below meth c H locs 0 0 QQ (F0 m 56 ls []))) (fun v b1 y1 h hT1 hF1 => ?_) ho (fun H locs ls hV hl => ?_)) _ _ _ hV (lv_sub hl [2, 1, 0] rfl)
    · obtain ⟨u1, u2, σ3⟩ := v
      have h : x_X9_sort_L4 u1 u2 σ3 = some (b1, y1) := h
      intro H locs ls hV hl
      have hV : AtW E (wC E σ3 ++ X) A s H locs := hV
      have hl : lv_has ls 3 [(0, .ref (eA E 0)), (1, .int u1), (2, .int u2)] := hl
      unfold x_X9_sort_L4 at h
      refine lv_iload_n hx hb dX9_sort_4 rfl (lv_at hl 2 rfl) ?_
      refine lv_aload_n hx hb dX9_sort_5 rfl (lv_at hl 0 rfl) ?_
      refine G_X9_told cx hV mk_2_141 dX9_sort_6 ?_
      refine G_X7_sleeves cx hV (by decide) mk_1_60 dX9_sort_9 ?_
      refine lv_icmp_ge (tgt := 56) hx hb dX9_sort_12 (by decide) (fun hc => ?_) (fun hc => ?_)
      · have h := ifp hc h
        cases h
        exact hF1 rfl _ _ _ hV (lv_sub hl [1] rfl)
      · have h := ifn hc h
        refine lv_aload_n hx hb dX9_sort_15 rfl (lv_at hl 0 rfl) ?_
        refine G_X9_stock cx hV mk_2_142 dX9_sort_16 ?_
        refine lv_aload_n hx hb dX9_sort_19 rfl (lv_at hl 0 rfl) ?_
        refine G_X9_told cx hV mk_2_141 dX9_sort_20 ?_
        refine lv_iload_n hx hb dX9_sort_23 rfl (lv_at hl 2 rfl) ?_
        refine bd_e h (fun v4 hq h => ?_)
        refine k_X5_offOwn (by decide) (by decide) hq cx hV mk_3_98 ⟨Nat.le_of_ble_eq_true rfl, Nat.le_of_ble_eq_true rfl⟩ ⟨Nat.zero_le _, Nat.zero_le _⟩ hl.1 (Nat.le_of_ble_eq_true rfl) dX9_sort_24 (fun H locs hV => ?_)
        refine lv_if_le (tgt := 50) hx hb dX9_sort_27 (by decide) (fun hc => ?_) (fun hc => ?_)
        · have h := ifp hc h
          refine lv_iinc (v := (u2 + 1)) (lv' := [(2, .int (u2 + 1)), (0, .ref (eA E 0)), (1, .int u1)]) hx hb dX9_sort_50 hl (k := 2) rfl rfl (by decide) rfl (fun ls hl => ?_)
          refine lv_goto (tgt := 4) hx hb dX9_sort_53 (by decide) ?_
          cases h
          exact hT1 rfl _ _ _ hV (lv_sub hl [1, 2, 0] rfl)
        · have h := ifn hc h
          refine lv_aload_n hx hb dX9_sort_30 rfl (lv_at hl 0 rfl) ?_
          refine G_X9_stock cx hV mk_2_142 dX9_sort_31 ?_
          refine lv_iload_n hx hb dX9_sort_34 rfl (lv_at hl 2 rfl) ?_
          refine lv_aload_n hx hb dX9_sort_35 rfl (lv_at hl 0 rfl) ?_
          refine G_X9_told cx hV mk_2_141 dX9_sort_36 ?_
          refine lv_iload_n hx hb dX9_sort_39 rfl (lv_at hl 2 rfl) ?_
          refine lv_iconst (v := 3) hx hb dX9_sort_40 (by decide) ?_
          refine bd_e h (fun v5 hq h => ?_)
          refine k_X7_ofSleeve (by decide) hq cx hV mk_3_110 ⟨Nat.le_of_ble_eq_true rfl, Nat.le_of_ble_eq_true rfl⟩ ⟨Nat.zero_le _, Nat.zero_le _⟩ hl.1 (Nat.le_of_ble_eq_true rfl) dX9_sort_41 (fun H locs hV => ?_)
          refine bd_e h (fun σ6 hq h => ?_)
          refine k_X5_putBehind (by decide) hq cx hV mk_3_111 ⟨Nat.le_of_ble_eq_true rfl, Nat.le_of_ble_eq_true rfl⟩ ⟨Nat.zero_le _, Nat.zero_le _⟩ hl.1 (Nat.le_of_ble_eq_true rfl) dX9_sort_44 (fun H locs hV => ?_)
          refine lv_iinc (v := (u1 + 1)) (lv' := [(1, .int (u1 + 1)), (0, .ref (eA E 0)), (2, .int u2)]) hx hb dX9_sort_47 hl (k := 1) rfl rfl (by decide) rfl (fun ls hl => ?_)
          refine lv_iinc (v := (u2 + 1)) (lv' := [(2, .int (u2 + 1)), (1, .int (u1 + 1)), (0, .ref (eA E 0))]) hx hb dX9_sort_50 hl (k := 2) rfl rfl (by decide) rfl (fun ls hl => ?_)
          refine lv_goto (tgt := 4) hx hb dX9_sort_53 (by decide) ?_
          cases h
          exact hT1 rfl _ _ _ hV (lv_sub hl [2, 1, 0] rfl)
    · have hV : AtW E (wC E σ9 ++ X) A s H locs := hV
      have hl : lv_has ls 3 [(1, .int z7)] := hl
      refine lv_iload_n hx hb dX9_sort_56 rfl (lv_at hl 0 rfl) ?_
      obtain ⟨h1, h2⟩ := Prod.mk.inj (Option.some.inj h)
      subst h1
      subst h2
      subst hQ
      exact r_ireti cx hr hlk hV dX9_sort_57
  rw [hH, hlocs] at goal
  exact goal
theorem k_X9_sort {p : Program} {l : Launch} {e : Env} {R : Room} {s : State} {m : MethodId} {a : Array Value} {below : List Frame} {meth : Method} {c : Code} {H : Heap} {locs : List Loc} {cells slots : Nat} {Q : State → Prop} {cc : ByteArray} {own : String} {nL pc : Nat} {ls : Array Slot} {rest : List Value} {A : Nat → Prop} {E : EV} {X : va_W} {σ : St} {rv : Int32} {σf : St} (h : x_X9_sort σ = some (rv, σf)) (cx : CallFix p m c cc nL s a TBL own) (hV : AtW E (wC E σ ++ X) A s H locs) {idx : Nat} (w1 : Cond.methodLink own idx yX9_sort ∈ TBL) (hR : (rm_X9_sort).frames + 1 ≤ R.frames ∧ 8 + (3 + 11) + (rm_X9_sort).locals ≤ R.locals) (hcs : cells ≤ R.cells ∧ slots ≤ R.slots) (hls : ls.size = nL) (hcat : (rest.map fun v => v.category).sum ≤ 8) (d : decode cc pc = .ok (.invokevirtual idx, 3)) (kk : ∀ (H1 : Heap) (locs1 : List Loc), AtW E (wC E σf ++ X) A s H1 locs1 → W p l e R s m a below meth c H1 locs1 cells slots Q (F0 m (pc + 3) ls (.int rv :: rest))) : W p l e R s m a below meth c H locs cells slots Q (F0 m pc ls (.ref (eA E 0) :: rest)) :=
  r_calli (n := 0) (As := []) (q0 := 0) (ci := 9) (qq := (RX9, TX9, 14)) (c_X9_sort h) wC_fst rfl rfl mk_3_95 mk_3_96 mk_1_1 mk_3_97 (by decide +kernel) rfl ⟨rfl, rfl⟩ cx hV w1 hR hcs hls rfl hcat d kk
def x_X9_off (σ : St) : Option Int32 :=
  bd (x_X5_allOff 0 0 σ) fun v1 =>
  some v1
abbrev rm_X9_off : Room := { frames := 4, cells := 0, slots := 0, locals := 88 }
set_option maxHeartbeats 4000000 in
set_option maxRecDepth 100000 in
theorem c_X9_off {l : Launch} {E : EV} {X : va_W} {σ : St} {rv : Int32} (h : x_X9_off σ = some rv) : CM l yX9_off cX9_off 1 (some .int) rm_X9_off [.ref (eA E 0)] E (wC E σ ++ X) (wC E σ ++ X) (qI rv) := by
  refine CM.start (by decide) (Nat.le_of_ble_eq_true rfl) (fun p e s m a below meth c A ls cx hr hlk hV hl => ?_)
  have cx : CallFix p m c cX9_off 1 s a TBL RX9 := cx
  have hx := cx.1
  have hb := cx.2.1
  have hl : lv_has ls 1 [(0, .ref (eA E 0))] := hl
  generalize hQ : EQ E (wC E σ ++ X) (qI rv) A s a below = QQ
  obtain ⟨H, hH⟩ : ∃ H, H = s.heap := ⟨_, rfl⟩
  obtain ⟨locs, hlocs⟩ : ∃ z, z = ([] : List Loc) := ⟨_, rfl⟩
  have hV : AtW E (wC E σ ++ X) A s H locs := by rw [hH, hlocs]; exact hV
  have goal : W p l e rm_X9_off s m a below meth c H locs 0 0 QQ (F0 m 0 ls []) := by
    unfold x_X9_off at h
    refine lv_aload_n hx hb dX9_off_0 rfl (lv_at hl 0 rfl) ?_
    refine G_X9_stock cx hV mk_2_142 dX9_off_1 ?_
    refine lv_aload_n hx hb dX9_off_4 rfl (lv_at hl 0 rfl) ?_
    refine G_X9_told cx hV mk_2_141 dX9_off_5 ?_
    refine bd_e h (fun v1 hq h => ?_)
    refine k_X5_allOff (by decide) (by decide) hq cx hV mk_3_116 ⟨Nat.le_of_ble_eq_true rfl, Nat.le_of_ble_eq_true rfl⟩ ⟨Nat.zero_le _, Nat.zero_le _⟩ hl.1 (Nat.le_of_ble_eq_true rfl) dX9_off_8 (fun H locs hV => ?_)
    have h1 := Option.some.inj h
    subst h1
    subst hQ
    exact r_ireti cx hr hlk hV dX9_off_11
  rw [hH, hlocs] at goal
  exact goal
theorem k_X9_off {p : Program} {l : Launch} {e : Env} {R : Room} {s : State} {m : MethodId} {a : Array Value} {below : List Frame} {meth : Method} {c : Code} {H : Heap} {locs : List Loc} {cells slots : Nat} {Q : State → Prop} {cc : ByteArray} {own : String} {nL pc : Nat} {ls : Array Slot} {rest : List Value} {A : Nat → Prop} {E : EV} {X : va_W} {σ : St} {rv : Int32} (h : x_X9_off σ = some rv) (cx : CallFix p m c cc nL s a TBL own) (hV : AtW E (wC E σ ++ X) A s H locs) {idx : Nat} (w1 : Cond.methodLink own idx yX9_off ∈ TBL) (hR : (rm_X9_off).frames + 1 ≤ R.frames ∧ 8 + (1 + 11) + (rm_X9_off).locals ≤ R.locals) (hcs : cells ≤ R.cells ∧ slots ≤ R.slots) (hls : ls.size = nL) (hcat : (rest.map fun v => v.category).sum ≤ 8) (d : decode cc pc = .ok (.invokevirtual idx, 3)) (kk : ∀ (H1 : Heap) (locs1 : List Loc), AtW E (wC E σ ++ X) A s H1 locs1 → W p l e R s m a below meth c H1 locs1 cells slots Q (F0 m (pc + 3) ls (.int rv :: rest))) : W p l e R s m a below meth c H locs cells slots Q (F0 m pc ls (.ref (eA E 0) :: rest)) :=
  r_calli (n := 0) (As := []) (q0 := 0) (ci := 9) (qq := (RX9, TX9, 14)) (c_X9_off h) rfl rfl rfl mk_3_113 mk_3_114 mk_1_1 mk_3_115 (by decide +kernel) rfl ⟨rfl, rfl⟩ cx hV w1 hR hcs hls rfl hcat d kk
def x_X9_often_L84 (w1 : Int32) (w2 : Int32) (w3 : Int32) (w4 : Int32) (σ7 : St) (u8 : Int32) (u9 : Int32) : Option (Bool × (Int32 × Int32)) :=
  (if 60 < u9 then
  some (false, (u8, u9))
  else
  bd (x_X9_sortingCost w1 w2 w3 u9) fun v10 =>
  bd (x_X9_sortingCost w1 w2 w3 u8) fun v11 =>
  (if 0 ≤ (lg_cmp (v10 * (Int32.toInt64 u8)) (v11 * (Int32.toInt64 u9))) then
  some (true, (u8, (u9 + 1)))
  else
  some (true, (u9, (u9 + 1)))))
def x_X9_often_b75 (w1 : Int32) (w2 : Int32) (w3 : Int32) (w4 : Int32) (w5 : Int32) (σ6 : St) : Option ((Int32 × St) ⊕ (Nat × St)) :=
  bt (x_X9_need w5 σ6) fun σ7 =>
  bd2 (lp (fun v : (Int32 × Int32) => x_X9_often_L84 w1 w2 w3 w4 σ7 v.1 v.2) FU (1, 2)) fun z12 z13 =>
  (if w4 = 0 then
  some (.inl (z12, σ7))
  else
  bd (x_X9_sortingCost w1 w2 w3 z12) fun v14 =>
  bd (x_X9_leastTerms v14 (Int32.toInt64 z12) (w4 - 1)) fun v15 =>
  some (.inl ((Int64.toInt32 v15), σ7)))
def x_X9_often_b74 (w16 : Int32) (w17 : Int32) (w18 : Int32) (w19 : Int32) (σ20 : St) : Option ((Int32 × St) ⊕ (Nat × St)) :=
  x_X9_often_b75 w16 w17 w18 w19 0 σ20
def x_X9_often_b55 (w21 : Int32) (w22 : Int32) (w23 : Int32) (w24 : Int32) (w25 : Int32) (σ26 : St) : Option ((Int32 × St) ⊕ (Nat × St)) :=
  bt (x_X9_need w25 σ26) fun σ27 =>
  (if w24 < 0 then
  x_X9_often_b74 w21 w22 w23 w24 σ27
  else
  (if 2 < w24 then
  x_X9_often_b74 w21 w22 w23 w24 σ27
  else
  x_X9_often_b75 w21 w22 w23 w24 1 σ27))
def x_X9_often_b54 (w28 : Int32) (w29 : Int32) (w30 : Int32) (w31 : Int32) (σ32 : St) : Option ((Int32 × St) ⊕ (Nat × St)) :=
  x_X9_often_b55 w28 w29 w30 w31 0 σ32
def x_X9_often_b36 (w33 : Int32) (w34 : Int32) (w35 : Int32) (w36 : Int32) (w37 : Int32) (σ38 : St) : Option ((Int32 × St) ⊕ (Nat × St)) :=
  bt (x_X9_need w37 σ38) fun σ39 =>
  (if w35 < 0 then
  x_X9_often_b54 w33 w34 w35 w36 σ39
  else
  (if 99 < w35 then
  x_X9_often_b54 w33 w34 w35 w36 σ39
  else
  x_X9_often_b55 w33 w34 w35 w36 1 σ39))
def x_X9_often_b35 (w40 : Int32) (w41 : Int32) (w42 : Int32) (w43 : Int32) (σ44 : St) : Option ((Int32 × St) ⊕ (Nat × St)) :=
  x_X9_often_b36 w40 w41 w42 w43 0 σ44
def x_X9_often_b17 (w45 : Int32) (w46 : Int32) (w47 : Int32) (w48 : Int32) (w49 : Int32) (σ50 : St) : Option ((Int32 × St) ⊕ (Nat × St)) :=
  bt (x_X9_need w49 σ50) fun σ51 =>
  (if w46 < 0 then
  x_X9_often_b35 w45 w46 w47 w48 σ51
  else
  (if 99 < w46 then
  x_X9_often_b35 w45 w46 w47 w48 σ51
  else
  x_X9_often_b36 w45 w46 w47 w48 1 σ51))
def x_X9_often_b16 (w52 : Int32) (w53 : Int32) (w54 : Int32) (w55 : Int32) (σ56 : St) : Option ((Int32 × St) ⊕ (Nat × St)) :=
  x_X9_often_b17 w52 w53 w54 w55 0 σ56
def x_X9_often (p1 : Int32) (p2 : Int32) (p3 : Int32) (p4 : Int32) (σ : St) : Option ((Int32 × St) ⊕ (Nat × St)) :=
  (if p1 < 0 then
  x_X9_often_b16 p1 p2 p3 p4 σ
  else
  (if 9999 < p1 then
  x_X9_often_b16 p1 p2 p3 p4 σ
  else
  x_X9_often_b17 p1 p2 p3 p4 1 σ))
abbrev rm_X9_often : Room := { frames := 3, cells := 0, slots := 0, locals := 65 }
abbrev rmx_X9_often : Room := { frames := 7, cells := 1, slots := 6, locals := 103 }
set_option maxHeartbeats 4000000 in
set_option maxRecDepth 100000 in
theorem c_X9_often {l : Launch} {E : EV} {X : va_W} {σ : St} {p1 : Int32} {p2 : Int32} {p3 : Int32} {p4 : Int32} {rv : Int32} {σf : St} (h : x_X9_often p1 p2 p3 p4 σ = some (.inl (rv, σf))) : CMF l yX9_often cX9_often 7 (some .int) rm_X9_often [.ref (eA E 0), .int p1, .int p2, .int p3, .int p4] E (wC E σ ++ X) (wC E σf ++ X) (qI rv) := by
  refine CMF.start (by decide) (Nat.le_of_ble_eq_true rfl) (fun p e s m a below meth c A ls cx hr hlk hV hF hl => ?_)
  have cx : CallFix p m c cX9_often 7 s a TBL RX9 := cx
  have hx := cx.1
  have hb := cx.2.1
  have hl : lv_has ls 7 [(0, .ref (eA E 0)), (1, .int p1), (2, .int p2), (3, .int p3), (4, .int p4)] := hl
  generalize hQ : EQ E (wC E σf ++ X) (qI rv) A s a below = QQ
  obtain ⟨H, hH⟩ : ∃ H, H = s.heap := ⟨_, rfl⟩
  obtain ⟨locs, hlocs⟩ : ∃ z, z = ([] : List Loc) := ⟨_, rfl⟩
  have hV : AtW E (wC E σ ++ X) A s H locs := by rw [hH, hlocs]; exact hV
  have goal : W p l e rm_X9_often s m a below meth c H locs 0 0 QQ (F0 m 0 ls []) := by
    unfold x_X9_often at h
    have hj75 : ∀ (w1 : Int32) (w2 : Int32) (w3 : Int32) (w4 : Int32) (w5 : Int32) (σ6 : St) (H : Heap) (locs : List Loc) (ls : Array Slot), x_X9_often_b75 w1 w2 w3 w4 w5 σ6 = some (.inl (rv, σf)) → AtW E (wC E σ6 ++ X) A s H locs → lv_has ls 7 [(1, .int w1), (2, .int w2), (3, .int w3), (4, .int w4)] → W p l e rm_X9_often s m a below meth c H locs 0 0 QQ (F0 m 75 ls [.int w5, .ref (eA E 0)]) := by
      intro w1 w2 w3 w4 w5 σ6 H locs ls h hV hl
      unfold x_X9_often_b75 at h
      refine bt_e h (fun σ7 hq h => ?_) (fun q hq h => ?_)
      rotate_left
      · exact (inrl' h).elim
      refine k_X9_need hq cx hV hF mk_3_178 ⟨Nat.le_of_ble_eq_true rfl, Nat.le_of_ble_eq_true rfl⟩ ⟨Nat.zero_le _, Nat.zero_le _⟩ hl.1 (Nat.le_of_ble_eq_true rfl) dX9_often_75 (fun H locs hV => ?_)
      refine lv_iconst (v := 1) hx hb dX9_often_78 (by decide) ?_
      refine lv_istore (lv' := [(5, .int 1), (1, .int w1), (2, .int w2), (3, .int w3), (4, .int w4)]) hx hb dX9_often_79 hl (by decide) rfl (fun ls hl => ?_)
      refine lv_iconst (v := 2) hx hb dX9_often_81 (by decide) ?_
      refine lv_istore (lv' := [(6, .int 2), (5, .int 1), (1, .int w1), (2, .int w2), (3, .int w3), (4, .int w4)]) hx hb dX9_often_82 hl (by decide) rfl (fun ls hl => ?_)
      refine bd2_e h (fun z12 z13 ho h => ?_)
      refine (lp_rule (G := (fun v : (Int32 × Int32) => ∀ (H : Heap) (locs : List Loc) (ls : Array Slot), AtW E (wC E σ7 ++ X) A s H locs → lv_has ls 7 [(1, .int w1), (2, .int w2), (3, .int w3), (4, .int w4), (5, .int v.1), (6, .int v.2)] → W p l e rm_X9_often s m a below meth c H locs 0 0 QQ (F0 m 84 ls []))) (K := (fun v : (Int32 × Int32) => ∀ (H : Heap) (locs : List Loc) (ls : Array Slot), AtW E (wC E σ7 ++ X) A s H locs → lv_has ls 7 [(1, .int w1), (2, .int w2), (3, .int w3), (4, .int w4), (5, .int v.1)] → W p l e rm_X9_often s m a below meth c H locs 0 0 QQ (F0 m 129 ls []))) (fun v b1 y1 h hT1 hF1 => ?_) ho (fun H locs ls hV hl => ?_)) _ _ _ hV (lv_sub hl [2, 3, 4, 5, 1, 0] rfl)
      · obtain ⟨u8, u9⟩ := v
        have h : x_X9_often_L84 w1 w2 w3 w4 σ7 u8 u9 = some (b1, y1) := h
        intro H locs ls hV hl
        have hV : AtW E (wC E σ7 ++ X) A s H locs := hV
        have hl : lv_has ls 7 [(1, .int w1), (2, .int w2), (3, .int w3), (4, .int w4), (5, .int u8), (6, .int u9)] := hl
        unfold x_X9_often_L84 at h
        refine lv_iload hx hb dX9_often_84 (lv_at hl 5 rfl) ?_
        refine lv_bipush (v := 60) hx hb dX9_often_86 (by decide) ?_
        refine lv_icmp_gt (tgt := 129) hx hb dX9_often_88 (by decide) (fun hc => ?_) (fun hc => ?_)
        · have h := ifp hc h
          cases h
          exact hF1 rfl _ _ _ hV (lv_sub hl [0, 1, 2, 3, 4] rfl)
        · have h := ifn hc h
          refine lv_iload_n hx hb dX9_often_91 rfl (lv_at hl 0 rfl) ?_
          refine lv_iload_n hx hb dX9_often_92 rfl (lv_at hl 1 rfl) ?_
          refine lv_iload_n hx hb dX9_often_93 rfl (lv_at hl 2 rfl) ?_
          refine lv_iload hx hb dX9_often_94 (lv_at hl 5 rfl) ?_
          refine bd_e h (fun v10 hq h => ?_)
          refine k_X9_sortingCost hq cx hV mk_6_16 ⟨Nat.le_of_ble_eq_true rfl, Nat.le_of_ble_eq_true rfl⟩ ⟨Nat.zero_le _, Nat.zero_le _⟩ hl.1 (Nat.le_of_ble_eq_true rfl) dX9_often_96 (fun H locs hV => ?_)
          refine lv_iload hx hb dX9_often_99 (lv_at hl 4 rfl) ?_
          refine lv_i2l (v := (Int32.toInt64 u8)) hx hb dX9_often_101 rfl ?_
          refine lv_lmul hx hb dX9_often_102 ?_
          refine lv_iload_n hx hb dX9_often_103 rfl (lv_at hl 0 rfl) ?_
          refine lv_iload_n hx hb dX9_often_104 rfl (lv_at hl 1 rfl) ?_
          refine lv_iload_n hx hb dX9_often_105 rfl (lv_at hl 2 rfl) ?_
          refine lv_iload hx hb dX9_often_106 (lv_at hl 4 rfl) ?_
          refine bd_e h (fun v11 hq h => ?_)
          refine k_X9_sortingCost hq cx hV mk_6_16 ⟨Nat.le_of_ble_eq_true rfl, Nat.le_of_ble_eq_true rfl⟩ ⟨Nat.zero_le _, Nat.zero_le _⟩ hl.1 (Nat.le_of_ble_eq_true rfl) dX9_often_108 (fun H locs hV => ?_)
          refine lv_iload hx hb dX9_often_111 (lv_at hl 5 rfl) ?_
          refine lv_i2l (v := (Int32.toInt64 u9)) hx hb dX9_often_113 rfl ?_
          refine lv_lmul hx hb dX9_often_114 ?_
          refine W.lcmp hx hb dX9_often_115 ?_
          refine lv_if_ge (tgt := 123) hx hb dX9_often_116 (by decide) (fun hc => ?_) (fun hc => ?_)
          · have h := ifp hc h
            refine lv_iinc (v := (u9 + 1)) (lv' := [(6, .int (u9 + 1)), (1, .int w1), (2, .int w2), (3, .int w3), (4, .int w4), (5, .int u8)]) hx hb dX9_often_123 hl (k := 5) rfl rfl (by decide) rfl (fun ls hl => ?_)
            refine lv_goto (tgt := 84) hx hb dX9_often_126 (by decide) ?_
            cases h
            exact hT1 rfl _ _ _ hV (lv_sub hl [1, 2, 3, 4, 5, 0] rfl)
          · have h := ifn hc h
            refine lv_iload hx hb dX9_often_119 (lv_at hl 5 rfl) ?_
            refine lv_istore (lv' := [(5, .int u9), (1, .int w1), (2, .int w2), (3, .int w3), (4, .int w4), (6, .int u9)]) hx hb dX9_often_121 hl (by decide) rfl (fun ls hl => ?_)
            refine lv_iinc (v := (u9 + 1)) (lv' := [(6, .int (u9 + 1)), (5, .int u9), (1, .int w1), (2, .int w2), (3, .int w3), (4, .int w4)]) hx hb dX9_often_123 hl (k := 5) rfl rfl (by decide) rfl (fun ls hl => ?_)
            refine lv_goto (tgt := 84) hx hb dX9_often_126 (by decide) ?_
            cases h
            exact hT1 rfl _ _ _ hV (lv_sub hl [2, 3, 4, 5, 1, 0] rfl)
      · have hV : AtW E (wC E σ7 ++ X) A s H locs := hV
        have hl : lv_has ls 7 [(1, .int w1), (2, .int w2), (3, .int w3), (4, .int w4), (5, .int z12)] := hl
        refine lv_iload hx hb dX9_often_129 (lv_at hl 3 rfl) ?_
        refine lv_if_ne (tgt := 139) hx hb dX9_often_131 (by decide) (fun hc => ?_) (fun hc => ?_)
        · have h := ifn hc h
          refine lv_iload_n hx hb dX9_often_139 rfl (lv_at hl 0 rfl) ?_
          refine lv_iload_n hx hb dX9_often_140 rfl (lv_at hl 1 rfl) ?_
          refine lv_iload_n hx hb dX9_often_141 rfl (lv_at hl 2 rfl) ?_
          refine lv_iload hx hb dX9_often_142 (lv_at hl 4 rfl) ?_
          refine bd_e h (fun v14 hq h => ?_)
          refine k_X9_sortingCost hq cx hV mk_6_16 ⟨Nat.le_of_ble_eq_true rfl, Nat.le_of_ble_eq_true rfl⟩ ⟨Nat.zero_le _, Nat.zero_le _⟩ hl.1 (Nat.le_of_ble_eq_true rfl) dX9_often_144 (fun H locs hV => ?_)
          refine lv_iload hx hb dX9_often_147 (lv_at hl 4 rfl) ?_
          refine lv_i2l (v := (Int32.toInt64 z12)) hx hb dX9_often_149 rfl ?_
          refine lv_iload hx hb dX9_often_150 (lv_at hl 3 rfl) ?_
          refine lv_iconst (v := 1) hx hb dX9_often_152 (by decide) ?_
          refine lv_isub hx hb dX9_often_153 ?_
          refine bd_e h (fun v15 hq h => ?_)
          refine k_X9_leastTerms hq cx hV mk_5_157 ⟨Nat.le_of_ble_eq_true rfl, Nat.le_of_ble_eq_true rfl⟩ ⟨Nat.zero_le _, Nat.zero_le _⟩ hl.1 (Nat.le_of_ble_eq_true rfl) dX9_often_154 (fun H locs hV => ?_)
          refine lv_l2i (v := (Int64.toInt32 v15)) hx hb dX9_often_157 rfl ?_
          have h := congrArg some (Sum.inl.inj (Option.some.inj h))
          obtain ⟨h1, h2⟩ := Prod.mk.inj (Option.some.inj h)
          subst h1
          subst h2
          subst hQ
          exact r_ireti cx hr hlk hV dX9_often_158
        · have h := ifp hc h
          refine lv_iload hx hb dX9_often_134 (lv_at hl 4 rfl) ?_
          refine lv_goto (tgt := 158) hx hb dX9_often_136 (by decide) ?_
          have h := congrArg some (Sum.inl.inj (Option.some.inj h))
          obtain ⟨h1, h2⟩ := Prod.mk.inj (Option.some.inj h)
          subst h1
          subst h2
          subst hQ
          exact r_ireti cx hr hlk hV dX9_often_158
    have hj74 : ∀ (w16 : Int32) (w17 : Int32) (w18 : Int32) (w19 : Int32) (σ20 : St) (H : Heap) (locs : List Loc) (ls : Array Slot), x_X9_often_b74 w16 w17 w18 w19 σ20 = some (.inl (rv, σf)) → AtW E (wC E σ20 ++ X) A s H locs → lv_has ls 7 [(1, .int w16), (2, .int w17), (3, .int w18), (4, .int w19)] → W p l e rm_X9_often s m a below meth c H locs 0 0 QQ (F0 m 74 ls [.ref (eA E 0)]) := by
      intro w16 w17 w18 w19 σ20 H locs ls h hV hl
      unfold x_X9_often_b74 at h
      refine lv_iconst (v := 0) hx hb dX9_often_74 (by decide) ?_
      exact hj75 w16 w17 w18 w19 0 σ20 _ _ _ h hV (lv_sub hl [0, 1, 2, 3] rfl)
    have hj55 : ∀ (w21 : Int32) (w22 : Int32) (w23 : Int32) (w24 : Int32) (w25 : Int32) (σ26 : St) (H : Heap) (locs : List Loc) (ls : Array Slot), x_X9_often_b55 w21 w22 w23 w24 w25 σ26 = some (.inl (rv, σf)) → AtW E (wC E σ26 ++ X) A s H locs → lv_has ls 7 [(0, .ref (eA E 0)), (1, .int w21), (2, .int w22), (3, .int w23), (4, .int w24)] → W p l e rm_X9_often s m a below meth c H locs 0 0 QQ (F0 m 55 ls [.int w25, .ref (eA E 0)]) := by
      intro w21 w22 w23 w24 w25 σ26 H locs ls h hV hl
      unfold x_X9_often_b55 at h
      refine bt_e h (fun σ27 hq h => ?_) (fun q hq h => ?_)
      rotate_left
      · exact (inrl' h).elim
      refine k_X9_need hq cx hV hF mk_3_178 ⟨Nat.le_of_ble_eq_true rfl, Nat.le_of_ble_eq_true rfl⟩ ⟨Nat.zero_le _, Nat.zero_le _⟩ hl.1 (Nat.le_of_ble_eq_true rfl) dX9_often_55 (fun H locs hV => ?_)
      refine lv_aload_n hx hb dX9_often_58 rfl (lv_at hl 0 rfl) ?_
      refine lv_iload hx hb dX9_often_59 (lv_at hl 4 rfl) ?_
      refine lv_if_lt (tgt := 74) hx hb dX9_often_61 (by decide) (fun hc => ?_) (fun hc => ?_)
      · have h := ifp hc h
        exact hj74 w21 w22 w23 w24 σ27 _ _ _ h hV (lv_sub hl [1, 2, 3, 4] rfl)
      · have h := ifn hc h
        refine lv_iload hx hb dX9_often_64 (lv_at hl 4 rfl) ?_
        refine lv_iconst (v := 2) hx hb dX9_often_66 (by decide) ?_
        refine lv_icmp_gt (tgt := 74) hx hb dX9_often_67 (by decide) (fun hc => ?_) (fun hc => ?_)
        · have h := ifp hc h
          exact hj74 w21 w22 w23 w24 σ27 _ _ _ h hV (lv_sub hl [1, 2, 3, 4] rfl)
        · have h := ifn hc h
          refine lv_iconst (v := 1) hx hb dX9_often_70 (by decide) ?_
          refine lv_goto (tgt := 75) hx hb dX9_often_71 (by decide) ?_
          exact hj75 w21 w22 w23 w24 1 σ27 _ _ _ h hV (lv_sub hl [1, 2, 3, 4] rfl)
    have hj54 : ∀ (w28 : Int32) (w29 : Int32) (w30 : Int32) (w31 : Int32) (σ32 : St) (H : Heap) (locs : List Loc) (ls : Array Slot), x_X9_often_b54 w28 w29 w30 w31 σ32 = some (.inl (rv, σf)) → AtW E (wC E σ32 ++ X) A s H locs → lv_has ls 7 [(0, .ref (eA E 0)), (1, .int w28), (2, .int w29), (3, .int w30), (4, .int w31)] → W p l e rm_X9_often s m a below meth c H locs 0 0 QQ (F0 m 54 ls [.ref (eA E 0)]) := by
      intro w28 w29 w30 w31 σ32 H locs ls h hV hl
      unfold x_X9_often_b54 at h
      refine lv_iconst (v := 0) hx hb dX9_often_54 (by decide) ?_
      exact hj55 w28 w29 w30 w31 0 σ32 _ _ _ h hV (lv_sub hl [0, 1, 2, 3, 4] rfl)
    have hj36 : ∀ (w33 : Int32) (w34 : Int32) (w35 : Int32) (w36 : Int32) (w37 : Int32) (σ38 : St) (H : Heap) (locs : List Loc) (ls : Array Slot), x_X9_often_b36 w33 w34 w35 w36 w37 σ38 = some (.inl (rv, σf)) → AtW E (wC E σ38 ++ X) A s H locs → lv_has ls 7 [(0, .ref (eA E 0)), (1, .int w33), (2, .int w34), (3, .int w35), (4, .int w36)] → W p l e rm_X9_often s m a below meth c H locs 0 0 QQ (F0 m 36 ls [.int w37, .ref (eA E 0)]) := by
      intro w33 w34 w35 w36 w37 σ38 H locs ls h hV hl
      unfold x_X9_often_b36 at h
      refine bt_e h (fun σ39 hq h => ?_) (fun q hq h => ?_)
      rotate_left
      · exact (inrl' h).elim
      refine k_X9_need hq cx hV hF mk_3_178 ⟨Nat.le_of_ble_eq_true rfl, Nat.le_of_ble_eq_true rfl⟩ ⟨Nat.zero_le _, Nat.zero_le _⟩ hl.1 (Nat.le_of_ble_eq_true rfl) dX9_often_36 (fun H locs hV => ?_)
      refine lv_aload_n hx hb dX9_often_39 rfl (lv_at hl 0 rfl) ?_
      refine lv_iload_n hx hb dX9_often_40 rfl (lv_at hl 3 rfl) ?_
      refine lv_if_lt (tgt := 54) hx hb dX9_often_41 (by decide) (fun hc => ?_) (fun hc => ?_)
      · have h := ifp hc h
        exact hj54 w33 w34 w35 w36 σ39 _ _ _ h hV (lv_sub hl [0, 1, 2, 3, 4] rfl)
      · have h := ifn hc h
        refine lv_iload_n hx hb dX9_often_44 rfl (lv_at hl 3 rfl) ?_
        refine lv_bipush (v := 99) hx hb dX9_often_45 (by decide) ?_
        refine lv_icmp_gt (tgt := 54) hx hb dX9_often_47 (by decide) (fun hc => ?_) (fun hc => ?_)
        · have h := ifp hc h
          exact hj54 w33 w34 w35 w36 σ39 _ _ _ h hV (lv_sub hl [0, 1, 2, 3, 4] rfl)
        · have h := ifn hc h
          refine lv_iconst (v := 1) hx hb dX9_often_50 (by decide) ?_
          refine lv_goto (tgt := 55) hx hb dX9_often_51 (by decide) ?_
          exact hj55 w33 w34 w35 w36 1 σ39 _ _ _ h hV (lv_sub hl [0, 1, 2, 3, 4] rfl)
    have hj35 : ∀ (w40 : Int32) (w41 : Int32) (w42 : Int32) (w43 : Int32) (σ44 : St) (H : Heap) (locs : List Loc) (ls : Array Slot), x_X9_often_b35 w40 w41 w42 w43 σ44 = some (.inl (rv, σf)) → AtW E (wC E σ44 ++ X) A s H locs → lv_has ls 7 [(0, .ref (eA E 0)), (1, .int w40), (2, .int w41), (3, .int w42), (4, .int w43)] → W p l e rm_X9_often s m a below meth c H locs 0 0 QQ (F0 m 35 ls [.ref (eA E 0)]) := by
      intro w40 w41 w42 w43 σ44 H locs ls h hV hl
      unfold x_X9_often_b35 at h
      refine lv_iconst (v := 0) hx hb dX9_often_35 (by decide) ?_
      exact hj36 w40 w41 w42 w43 0 σ44 _ _ _ h hV (lv_sub hl [0, 1, 2, 3, 4] rfl)
    have hj17 : ∀ (w45 : Int32) (w46 : Int32) (w47 : Int32) (w48 : Int32) (w49 : Int32) (σ50 : St) (H : Heap) (locs : List Loc) (ls : Array Slot), x_X9_often_b17 w45 w46 w47 w48 w49 σ50 = some (.inl (rv, σf)) → AtW E (wC E σ50 ++ X) A s H locs → lv_has ls 7 [(0, .ref (eA E 0)), (1, .int w45), (2, .int w46), (3, .int w47), (4, .int w48)] → W p l e rm_X9_often s m a below meth c H locs 0 0 QQ (F0 m 17 ls [.int w49, .ref (eA E 0)]) := by
      intro w45 w46 w47 w48 w49 σ50 H locs ls h hV hl
      unfold x_X9_often_b17 at h
      refine bt_e h (fun σ51 hq h => ?_) (fun q hq h => ?_)
      rotate_left
      · exact (inrl' h).elim
      refine k_X9_need hq cx hV hF mk_3_178 ⟨Nat.le_of_ble_eq_true rfl, Nat.le_of_ble_eq_true rfl⟩ ⟨Nat.zero_le _, Nat.zero_le _⟩ hl.1 (Nat.le_of_ble_eq_true rfl) dX9_often_17 (fun H locs hV => ?_)
      refine lv_aload_n hx hb dX9_often_20 rfl (lv_at hl 0 rfl) ?_
      refine lv_iload_n hx hb dX9_often_21 rfl (lv_at hl 2 rfl) ?_
      refine lv_if_lt (tgt := 35) hx hb dX9_often_22 (by decide) (fun hc => ?_) (fun hc => ?_)
      · have h := ifp hc h
        exact hj35 w45 w46 w47 w48 σ51 _ _ _ h hV (lv_sub hl [0, 1, 2, 3, 4] rfl)
      · have h := ifn hc h
        refine lv_iload_n hx hb dX9_often_25 rfl (lv_at hl 2 rfl) ?_
        refine lv_bipush (v := 99) hx hb dX9_often_26 (by decide) ?_
        refine lv_icmp_gt (tgt := 35) hx hb dX9_often_28 (by decide) (fun hc => ?_) (fun hc => ?_)
        · have h := ifp hc h
          exact hj35 w45 w46 w47 w48 σ51 _ _ _ h hV (lv_sub hl [0, 1, 2, 3, 4] rfl)
        · have h := ifn hc h
          refine lv_iconst (v := 1) hx hb dX9_often_31 (by decide) ?_
          refine lv_goto (tgt := 36) hx hb dX9_often_32 (by decide) ?_
          exact hj36 w45 w46 w47 w48 1 σ51 _ _ _ h hV (lv_sub hl [0, 1, 2, 3, 4] rfl)
    have hj16 : ∀ (w52 : Int32) (w53 : Int32) (w54 : Int32) (w55 : Int32) (σ56 : St) (H : Heap) (locs : List Loc) (ls : Array Slot), x_X9_often_b16 w52 w53 w54 w55 σ56 = some (.inl (rv, σf)) → AtW E (wC E σ56 ++ X) A s H locs → lv_has ls 7 [(0, .ref (eA E 0)), (1, .int w52), (2, .int w53), (3, .int w54), (4, .int w55)] → W p l e rm_X9_often s m a below meth c H locs 0 0 QQ (F0 m 16 ls [.ref (eA E 0)]) := by
      intro w52 w53 w54 w55 σ56 H locs ls h hV hl
      unfold x_X9_often_b16 at h
      refine lv_iconst (v := 0) hx hb dX9_often_16 (by decide) ?_
      exact hj17 w52 w53 w54 w55 0 σ56 _ _ _ h hV (lv_sub hl [0, 1, 2, 3, 4] rfl)
    refine lv_aload_n hx hb dX9_often_0 rfl (lv_at hl 0 rfl) ?_
    refine lv_iload_n hx hb dX9_often_1 rfl (lv_at hl 1 rfl) ?_
    refine lv_if_lt (tgt := 16) hx hb dX9_often_2 (by decide) (fun hc => ?_) (fun hc => ?_)
    · have h := ifp hc h
      exact hj16 p1 p2 p3 p4 σ _ _ _ h hV (lv_sub hl [0, 1, 2, 3, 4] rfl)
    · have h := ifn hc h
      refine lv_iload_n hx hb dX9_often_5 rfl (lv_at hl 1 rfl) ?_
      refine lv_sipush (v := 9999) hx hb dX9_often_6 (by decide) ?_
      refine lv_icmp_gt (tgt := 16) hx hb dX9_often_9 (by decide) (fun hc => ?_) (fun hc => ?_)
      · have h := ifp hc h
        exact hj16 p1 p2 p3 p4 σ _ _ _ h hV (lv_sub hl [0, 1, 2, 3, 4] rfl)
      · have h := ifn hc h
        refine lv_iconst (v := 1) hx hb dX9_often_12 (by decide) ?_
        refine lv_goto (tgt := 17) hx hb dX9_often_13 (by decide) ?_
        exact hj17 p1 p2 p3 p4 1 σ _ _ _ h hV (lv_sub hl [0, 1, 2, 3, 4] rfl)
  rw [hH, hlocs] at goal
  exact goal
set_option maxHeartbeats 4000000 in
set_option maxRecDepth 100000 in
theorem t_X9_often {l : Launch} (hT : l.stackTraces = false) {E : EV} {X : va_W} {σ : St} {p1 : Int32} {p2 : Int32} {p3 : Int32} {p4 : Int32} {nx : Nat} {σf : St} (h : x_X9_often p1 p2 p3 p4 σ = some (.inr (nx, σf))) : CXF l yX9_often cX9_often 7 (some .int) rmx_X9_often [.ref (eA E 0), .int p1, .int p2, .int p3, .int p4] E (wC E σ ++ X) (wC E σf ++ X) (exN nx) := by
  refine CXF.start (by decide) (Nat.le_of_ble_eq_true rfl) (fun p e s m a below meth c A ls cx hx0 hlk hV hF hl => ?_)
  have cx : CallFix p m c cX9_often 7 s a TBL RX9 := cx
  have hx := cx.1
  have hb := cx.2.1
  have hl : lv_has ls 7 [(0, .ref (eA E 0)), (1, .int p1), (2, .int p2), (3, .int p3), (4, .int p4)] := hl
  generalize hQ : EX E (wC E σf ++ X) (exN nx) A s a below = QQ
  obtain ⟨H, hH⟩ : ∃ H, H = s.heap := ⟨_, rfl⟩
  obtain ⟨locs, hlocs⟩ : ∃ z, z = ([] : List Loc) := ⟨_, rfl⟩
  have hV : AtW E (wC E σ ++ X) A s H locs := by rw [hH, hlocs]; exact hV
  have goal : W p l e rmx_X9_often s m a below meth c H locs 0 0 QQ (F0 m 0 ls []) := by
    unfold x_X9_often at h
    have hj75 : ∀ (w1 : Int32) (w2 : Int32) (w3 : Int32) (w4 : Int32) (w5 : Int32) (σ6 : St) (H : Heap) (locs : List Loc) (ls : Array Slot), x_X9_often_b75 w1 w2 w3 w4 w5 σ6 = some (.inr (nx, σf)) → AtW E (wC E σ6 ++ X) A s H locs → lv_has ls 7 [(1, .int w1), (2, .int w2), (3, .int w3), (4, .int w4)] → W p l e rmx_X9_often s m a below meth c H locs 0 0 QQ (F0 m 75 ls [.int w5, .ref (eA E 0)]) := by
      intro w1 w2 w3 w4 w5 σ6 H locs ls h hV hl
      unfold x_X9_often_b75 at h
      refine bt_e h (fun σ7 hq h => ?_) (fun q hq h => ?_)
      rotate_left
      · have h := Sum.inr.inj h
        subst h
        subst hQ
        exact kx_X9_need hT hq cx hV hF hx0 hlk mk_3_178 ⟨Nat.le_of_ble_eq_true rfl, Nat.le_of_ble_eq_true rfl⟩ ⟨Nat.le_of_ble_eq_true rfl, Nat.le_of_ble_eq_true rfl⟩ hl.1 (Nat.le_of_ble_eq_true rfl) dX9_often_75
      refine k_X9_need hq cx hV hF mk_3_178 ⟨Nat.le_of_ble_eq_true rfl, Nat.le_of_ble_eq_true rfl⟩ ⟨Nat.zero_le _, Nat.zero_le _⟩ hl.1 (Nat.le_of_ble_eq_true rfl) dX9_often_75 (fun H locs hV => ?_)
      refine lv_iconst (v := 1) hx hb dX9_often_78 (by decide) ?_
      refine lv_istore (lv' := [(5, .int 1), (1, .int w1), (2, .int w2), (3, .int w3), (4, .int w4)]) hx hb dX9_often_79 hl (by decide) rfl (fun ls hl => ?_)
      refine lv_iconst (v := 2) hx hb dX9_often_81 (by decide) ?_
      refine lv_istore (lv' := [(6, .int 2), (5, .int 1), (1, .int w1), (2, .int w2), (3, .int w3), (4, .int w4)]) hx hb dX9_often_82 hl (by decide) rfl (fun ls hl => ?_)
      refine bd2_e h (fun z12 z13 ho h => ?_)
      refine (lp_rule (G := (fun v : (Int32 × Int32) => ∀ (H : Heap) (locs : List Loc) (ls : Array Slot), AtW E (wC E σ7 ++ X) A s H locs → lv_has ls 7 [(1, .int w1), (2, .int w2), (3, .int w3), (4, .int w4), (5, .int v.1), (6, .int v.2)] → W p l e rmx_X9_often s m a below meth c H locs 0 0 QQ (F0 m 84 ls []))) (K := (fun v : (Int32 × Int32) => ∀ (H : Heap) (locs : List Loc) (ls : Array Slot), AtW E (wC E σ7 ++ X) A s H locs → lv_has ls 7 [(1, .int w1), (2, .int w2), (3, .int w3), (4, .int w4), (5, .int v.1)] → W p l e rmx_X9_often s m a below meth c H locs 0 0 QQ (F0 m 129 ls []))) (fun v b1 y1 h hT1 hF1 => ?_) ho (fun H locs ls hV hl => ?_)) _ _ _ hV (lv_sub hl [2, 3, 4, 5, 1, 0] rfl)
      · obtain ⟨u8, u9⟩ := v
        have h : x_X9_often_L84 w1 w2 w3 w4 σ7 u8 u9 = some (b1, y1) := h
        intro H locs ls hV hl
        have hV : AtW E (wC E σ7 ++ X) A s H locs := hV
        have hl : lv_has ls 7 [(1, .int w1), (2, .int w2), (3, .int w3), (4, .int w4), (5, .int u8), (6, .int u9)] := hl
        unfold x_X9_often_L84 at h
        refine lv_iload hx hb dX9_often_84 (lv_at hl 5 rfl) ?_
        refine lv_bipush (v := 60) hx hb dX9_often_86 (by decide) ?_
        refine lv_icmp_gt (tgt := 129) hx hb dX9_often_88 (by decide) (fun hc => ?_) (fun hc => ?_)
        · have h := ifp hc h
          cases h
          exact hF1 rfl _ _ _ hV (lv_sub hl [0, 1, 2, 3, 4] rfl)
        · have h := ifn hc h
          refine lv_iload_n hx hb dX9_often_91 rfl (lv_at hl 0 rfl) ?_
          refine lv_iload_n hx hb dX9_often_92 rfl (lv_at hl 1 rfl) ?_
          refine lv_iload_n hx hb dX9_often_93 rfl (lv_at hl 2 rfl) ?_
          refine lv_iload hx hb dX9_often_94 (lv_at hl 5 rfl) ?_
          refine bd_e h (fun v10 hq h => ?_)
          refine k_X9_sortingCost hq cx hV mk_6_16 ⟨Nat.le_of_ble_eq_true rfl, Nat.le_of_ble_eq_true rfl⟩ ⟨Nat.zero_le _, Nat.zero_le _⟩ hl.1 (Nat.le_of_ble_eq_true rfl) dX9_often_96 (fun H locs hV => ?_)
          refine lv_iload hx hb dX9_often_99 (lv_at hl 4 rfl) ?_
          refine lv_i2l (v := (Int32.toInt64 u8)) hx hb dX9_often_101 rfl ?_
          refine lv_lmul hx hb dX9_often_102 ?_
          refine lv_iload_n hx hb dX9_often_103 rfl (lv_at hl 0 rfl) ?_
          refine lv_iload_n hx hb dX9_often_104 rfl (lv_at hl 1 rfl) ?_
          refine lv_iload_n hx hb dX9_often_105 rfl (lv_at hl 2 rfl) ?_
          refine lv_iload hx hb dX9_often_106 (lv_at hl 4 rfl) ?_
          refine bd_e h (fun v11 hq h => ?_)
          refine k_X9_sortingCost hq cx hV mk_6_16 ⟨Nat.le_of_ble_eq_true rfl, Nat.le_of_ble_eq_true rfl⟩ ⟨Nat.zero_le _, Nat.zero_le _⟩ hl.1 (Nat.le_of_ble_eq_true rfl) dX9_often_108 (fun H locs hV => ?_)
          refine lv_iload hx hb dX9_often_111 (lv_at hl 5 rfl) ?_
          refine lv_i2l (v := (Int32.toInt64 u9)) hx hb dX9_often_113 rfl ?_
          refine lv_lmul hx hb dX9_often_114 ?_
          refine W.lcmp hx hb dX9_often_115 ?_
          refine lv_if_ge (tgt := 123) hx hb dX9_often_116 (by decide) (fun hc => ?_) (fun hc => ?_)
          · have h := ifp hc h
            refine lv_iinc (v := (u9 + 1)) (lv' := [(6, .int (u9 + 1)), (1, .int w1), (2, .int w2), (3, .int w3), (4, .int w4), (5, .int u8)]) hx hb dX9_often_123 hl (k := 5) rfl rfl (by decide) rfl (fun ls hl => ?_)
            refine lv_goto (tgt := 84) hx hb dX9_often_126 (by decide) ?_
            cases h
            exact hT1 rfl _ _ _ hV (lv_sub hl [1, 2, 3, 4, 5, 0] rfl)
          · have h := ifn hc h
            refine lv_iload hx hb dX9_often_119 (lv_at hl 5 rfl) ?_
            refine lv_istore (lv' := [(5, .int u9), (1, .int w1), (2, .int w2), (3, .int w3), (4, .int w4), (6, .int u9)]) hx hb dX9_often_121 hl (by decide) rfl (fun ls hl => ?_)
            refine lv_iinc (v := (u9 + 1)) (lv' := [(6, .int (u9 + 1)), (5, .int u9), (1, .int w1), (2, .int w2), (3, .int w3), (4, .int w4)]) hx hb dX9_often_123 hl (k := 5) rfl rfl (by decide) rfl (fun ls hl => ?_)
            refine lv_goto (tgt := 84) hx hb dX9_often_126 (by decide) ?_
            cases h
            exact hT1 rfl _ _ _ hV (lv_sub hl [2, 3, 4, 5, 1, 0] rfl)
      · have hV : AtW E (wC E σ7 ++ X) A s H locs := hV
        have hl : lv_has ls 7 [(1, .int w1), (2, .int w2), (3, .int w3), (4, .int w4), (5, .int z12)] := hl
        refine lv_iload hx hb dX9_often_129 (lv_at hl 3 rfl) ?_
        refine lv_if_ne (tgt := 139) hx hb dX9_often_131 (by decide) (fun hc => ?_) (fun hc => ?_)
        · have h := ifn hc h
          refine lv_iload_n hx hb dX9_often_139 rfl (lv_at hl 0 rfl) ?_
          refine lv_iload_n hx hb dX9_often_140 rfl (lv_at hl 1 rfl) ?_
          refine lv_iload_n hx hb dX9_often_141 rfl (lv_at hl 2 rfl) ?_
          refine lv_iload hx hb dX9_often_142 (lv_at hl 4 rfl) ?_
          refine bd_e h (fun v14 hq h => ?_)
          refine k_X9_sortingCost hq cx hV mk_6_16 ⟨Nat.le_of_ble_eq_true rfl, Nat.le_of_ble_eq_true rfl⟩ ⟨Nat.zero_le _, Nat.zero_le _⟩ hl.1 (Nat.le_of_ble_eq_true rfl) dX9_often_144 (fun H locs hV => ?_)
          refine lv_iload hx hb dX9_often_147 (lv_at hl 4 rfl) ?_
          refine lv_i2l (v := (Int32.toInt64 z12)) hx hb dX9_often_149 rfl ?_
          refine lv_iload hx hb dX9_often_150 (lv_at hl 3 rfl) ?_
          refine lv_iconst (v := 1) hx hb dX9_often_152 (by decide) ?_
          refine lv_isub hx hb dX9_often_153 ?_
          refine bd_e h (fun v15 hq h => ?_)
          refine k_X9_leastTerms hq cx hV mk_5_157 ⟨Nat.le_of_ble_eq_true rfl, Nat.le_of_ble_eq_true rfl⟩ ⟨Nat.zero_le _, Nat.zero_le _⟩ hl.1 (Nat.le_of_ble_eq_true rfl) dX9_often_154 (fun H locs hV => ?_)
          refine lv_l2i (v := (Int64.toInt32 v15)) hx hb dX9_often_157 rfl ?_
          exact (inlr h).elim
        · have h := ifp hc h
          refine lv_iload hx hb dX9_often_134 (lv_at hl 4 rfl) ?_
          refine lv_goto (tgt := 158) hx hb dX9_often_136 (by decide) ?_
          exact (inlr h).elim
    have hj74 : ∀ (w16 : Int32) (w17 : Int32) (w18 : Int32) (w19 : Int32) (σ20 : St) (H : Heap) (locs : List Loc) (ls : Array Slot), x_X9_often_b74 w16 w17 w18 w19 σ20 = some (.inr (nx, σf)) → AtW E (wC E σ20 ++ X) A s H locs → lv_has ls 7 [(1, .int w16), (2, .int w17), (3, .int w18), (4, .int w19)] → W p l e rmx_X9_often s m a below meth c H locs 0 0 QQ (F0 m 74 ls [.ref (eA E 0)]) := by
      intro w16 w17 w18 w19 σ20 H locs ls h hV hl
      unfold x_X9_often_b74 at h
      refine lv_iconst (v := 0) hx hb dX9_often_74 (by decide) ?_
      exact hj75 w16 w17 w18 w19 0 σ20 _ _ _ h hV (lv_sub hl [0, 1, 2, 3] rfl)
    have hj55 : ∀ (w21 : Int32) (w22 : Int32) (w23 : Int32) (w24 : Int32) (w25 : Int32) (σ26 : St) (H : Heap) (locs : List Loc) (ls : Array Slot), x_X9_often_b55 w21 w22 w23 w24 w25 σ26 = some (.inr (nx, σf)) → AtW E (wC E σ26 ++ X) A s H locs → lv_has ls 7 [(0, .ref (eA E 0)), (1, .int w21), (2, .int w22), (3, .int w23), (4, .int w24)] → W p l e rmx_X9_often s m a below meth c H locs 0 0 QQ (F0 m 55 ls [.int w25, .ref (eA E 0)]) := by
      intro w21 w22 w23 w24 w25 σ26 H locs ls h hV hl
      unfold x_X9_often_b55 at h
      refine bt_e h (fun σ27 hq h => ?_) (fun q hq h => ?_)
      rotate_left
      · have h := Sum.inr.inj h
        subst h
        subst hQ
        exact kx_X9_need hT hq cx hV hF hx0 hlk mk_3_178 ⟨Nat.le_of_ble_eq_true rfl, Nat.le_of_ble_eq_true rfl⟩ ⟨Nat.le_of_ble_eq_true rfl, Nat.le_of_ble_eq_true rfl⟩ hl.1 (Nat.le_of_ble_eq_true rfl) dX9_often_55
      refine k_X9_need hq cx hV hF mk_3_178 ⟨Nat.le_of_ble_eq_true rfl, Nat.le_of_ble_eq_true rfl⟩ ⟨Nat.zero_le _, Nat.zero_le _⟩ hl.1 (Nat.le_of_ble_eq_true rfl) dX9_often_55 (fun H locs hV => ?_)
      refine lv_aload_n hx hb dX9_often_58 rfl (lv_at hl 0 rfl) ?_
      refine lv_iload hx hb dX9_often_59 (lv_at hl 4 rfl) ?_
      refine lv_if_lt (tgt := 74) hx hb dX9_often_61 (by decide) (fun hc => ?_) (fun hc => ?_)
      · have h := ifp hc h
        exact hj74 w21 w22 w23 w24 σ27 _ _ _ h hV (lv_sub hl [1, 2, 3, 4] rfl)
      · have h := ifn hc h
        refine lv_iload hx hb dX9_often_64 (lv_at hl 4 rfl) ?_
        refine lv_iconst (v := 2) hx hb dX9_often_66 (by decide) ?_
        refine lv_icmp_gt (tgt := 74) hx hb dX9_often_67 (by decide) (fun hc => ?_) (fun hc => ?_)
        · have h := ifp hc h
          exact hj74 w21 w22 w23 w24 σ27 _ _ _ h hV (lv_sub hl [1, 2, 3, 4] rfl)
        · have h := ifn hc h
          refine lv_iconst (v := 1) hx hb dX9_often_70 (by decide) ?_
          refine lv_goto (tgt := 75) hx hb dX9_often_71 (by decide) ?_
          exact hj75 w21 w22 w23 w24 1 σ27 _ _ _ h hV (lv_sub hl [1, 2, 3, 4] rfl)
    have hj54 : ∀ (w28 : Int32) (w29 : Int32) (w30 : Int32) (w31 : Int32) (σ32 : St) (H : Heap) (locs : List Loc) (ls : Array Slot), x_X9_often_b54 w28 w29 w30 w31 σ32 = some (.inr (nx, σf)) → AtW E (wC E σ32 ++ X) A s H locs → lv_has ls 7 [(0, .ref (eA E 0)), (1, .int w28), (2, .int w29), (3, .int w30), (4, .int w31)] → W p l e rmx_X9_often s m a below meth c H locs 0 0 QQ (F0 m 54 ls [.ref (eA E 0)]) := by
      intro w28 w29 w30 w31 σ32 H locs ls h hV hl
      unfold x_X9_often_b54 at h
      refine lv_iconst (v := 0) hx hb dX9_often_54 (by decide) ?_
      exact hj55 w28 w29 w30 w31 0 σ32 _ _ _ h hV (lv_sub hl [0, 1, 2, 3, 4] rfl)
    have hj36 : ∀ (w33 : Int32) (w34 : Int32) (w35 : Int32) (w36 : Int32) (w37 : Int32) (σ38 : St) (H : Heap) (locs : List Loc) (ls : Array Slot), x_X9_often_b36 w33 w34 w35 w36 w37 σ38 = some (.inr (nx, σf)) → AtW E (wC E σ38 ++ X) A s H locs → lv_has ls 7 [(0, .ref (eA E 0)), (1, .int w33), (2, .int w34), (3, .int w35), (4, .int w36)] → W p l e rmx_X9_often s m a below meth c H locs 0 0 QQ (F0 m 36 ls [.int w37, .ref (eA E 0)]) := by
      intro w33 w34 w35 w36 w37 σ38 H locs ls h hV hl
      unfold x_X9_often_b36 at h
      refine bt_e h (fun σ39 hq h => ?_) (fun q hq h => ?_)
      rotate_left
      · have h := Sum.inr.inj h
        subst h
        subst hQ
        exact kx_X9_need hT hq cx hV hF hx0 hlk mk_3_178 ⟨Nat.le_of_ble_eq_true rfl, Nat.le_of_ble_eq_true rfl⟩ ⟨Nat.le_of_ble_eq_true rfl, Nat.le_of_ble_eq_true rfl⟩ hl.1 (Nat.le_of_ble_eq_true rfl) dX9_often_36
      refine k_X9_need hq cx hV hF mk_3_178 ⟨Nat.le_of_ble_eq_true rfl, Nat.le_of_ble_eq_true rfl⟩ ⟨Nat.zero_le _, Nat.zero_le _⟩ hl.1 (Nat.le_of_ble_eq_true rfl) dX9_often_36 (fun H locs hV => ?_)
      refine lv_aload_n hx hb dX9_often_39 rfl (lv_at hl 0 rfl) ?_
      refine lv_iload_n hx hb dX9_often_40 rfl (lv_at hl 3 rfl) ?_
      refine lv_if_lt (tgt := 54) hx hb dX9_often_41 (by decide) (fun hc => ?_) (fun hc => ?_)
      · have h := ifp hc h
        exact hj54 w33 w34 w35 w36 σ39 _ _ _ h hV (lv_sub hl [0, 1, 2, 3, 4] rfl)
      · have h := ifn hc h
        refine lv_iload_n hx hb dX9_often_44 rfl (lv_at hl 3 rfl) ?_
        refine lv_bipush (v := 99) hx hb dX9_often_45 (by decide) ?_
        refine lv_icmp_gt (tgt := 54) hx hb dX9_often_47 (by decide) (fun hc => ?_) (fun hc => ?_)
        · have h := ifp hc h
          exact hj54 w33 w34 w35 w36 σ39 _ _ _ h hV (lv_sub hl [0, 1, 2, 3, 4] rfl)
        · have h := ifn hc h
          refine lv_iconst (v := 1) hx hb dX9_often_50 (by decide) ?_
          refine lv_goto (tgt := 55) hx hb dX9_often_51 (by decide) ?_
          exact hj55 w33 w34 w35 w36 1 σ39 _ _ _ h hV (lv_sub hl [0, 1, 2, 3, 4] rfl)
    have hj35 : ∀ (w40 : Int32) (w41 : Int32) (w42 : Int32) (w43 : Int32) (σ44 : St) (H : Heap) (locs : List Loc) (ls : Array Slot), x_X9_often_b35 w40 w41 w42 w43 σ44 = some (.inr (nx, σf)) → AtW E (wC E σ44 ++ X) A s H locs → lv_has ls 7 [(0, .ref (eA E 0)), (1, .int w40), (2, .int w41), (3, .int w42), (4, .int w43)] → W p l e rmx_X9_often s m a below meth c H locs 0 0 QQ (F0 m 35 ls [.ref (eA E 0)]) := by
      intro w40 w41 w42 w43 σ44 H locs ls h hV hl
      unfold x_X9_often_b35 at h
      refine lv_iconst (v := 0) hx hb dX9_often_35 (by decide) ?_
      exact hj36 w40 w41 w42 w43 0 σ44 _ _ _ h hV (lv_sub hl [0, 1, 2, 3, 4] rfl)
    have hj17 : ∀ (w45 : Int32) (w46 : Int32) (w47 : Int32) (w48 : Int32) (w49 : Int32) (σ50 : St) (H : Heap) (locs : List Loc) (ls : Array Slot), x_X9_often_b17 w45 w46 w47 w48 w49 σ50 = some (.inr (nx, σf)) → AtW E (wC E σ50 ++ X) A s H locs → lv_has ls 7 [(0, .ref (eA E 0)), (1, .int w45), (2, .int w46), (3, .int w47), (4, .int w48)] → W p l e rmx_X9_often s m a below meth c H locs 0 0 QQ (F0 m 17 ls [.int w49, .ref (eA E 0)]) := by
      intro w45 w46 w47 w48 w49 σ50 H locs ls h hV hl
      unfold x_X9_often_b17 at h
      refine bt_e h (fun σ51 hq h => ?_) (fun q hq h => ?_)
      rotate_left
      · have h := Sum.inr.inj h
        subst h
        subst hQ
        exact kx_X9_need hT hq cx hV hF hx0 hlk mk_3_178 ⟨Nat.le_of_ble_eq_true rfl, Nat.le_of_ble_eq_true rfl⟩ ⟨Nat.le_of_ble_eq_true rfl, Nat.le_of_ble_eq_true rfl⟩ hl.1 (Nat.le_of_ble_eq_true rfl) dX9_often_17
      refine k_X9_need hq cx hV hF mk_3_178 ⟨Nat.le_of_ble_eq_true rfl, Nat.le_of_ble_eq_true rfl⟩ ⟨Nat.zero_le _, Nat.zero_le _⟩ hl.1 (Nat.le_of_ble_eq_true rfl) dX9_often_17 (fun H locs hV => ?_)
      refine lv_aload_n hx hb dX9_often_20 rfl (lv_at hl 0 rfl) ?_
      refine lv_iload_n hx hb dX9_often_21 rfl (lv_at hl 2 rfl) ?_
      refine lv_if_lt (tgt := 35) hx hb dX9_often_22 (by decide) (fun hc => ?_) (fun hc => ?_)
      · have h := ifp hc h
        exact hj35 w45 w46 w47 w48 σ51 _ _ _ h hV (lv_sub hl [0, 1, 2, 3, 4] rfl)
      · have h := ifn hc h
        refine lv_iload_n hx hb dX9_often_25 rfl (lv_at hl 2 rfl) ?_
        refine lv_bipush (v := 99) hx hb dX9_often_26 (by decide) ?_
        refine lv_icmp_gt (tgt := 35) hx hb dX9_often_28 (by decide) (fun hc => ?_) (fun hc => ?_)
        · have h := ifp hc h
          exact hj35 w45 w46 w47 w48 σ51 _ _ _ h hV (lv_sub hl [0, 1, 2, 3, 4] rfl)
        · have h := ifn hc h
          refine lv_iconst (v := 1) hx hb dX9_often_31 (by decide) ?_
          refine lv_goto (tgt := 36) hx hb dX9_often_32 (by decide) ?_
          exact hj36 w45 w46 w47 w48 1 σ51 _ _ _ h hV (lv_sub hl [0, 1, 2, 3, 4] rfl)
    have hj16 : ∀ (w52 : Int32) (w53 : Int32) (w54 : Int32) (w55 : Int32) (σ56 : St) (H : Heap) (locs : List Loc) (ls : Array Slot), x_X9_often_b16 w52 w53 w54 w55 σ56 = some (.inr (nx, σf)) → AtW E (wC E σ56 ++ X) A s H locs → lv_has ls 7 [(0, .ref (eA E 0)), (1, .int w52), (2, .int w53), (3, .int w54), (4, .int w55)] → W p l e rmx_X9_often s m a below meth c H locs 0 0 QQ (F0 m 16 ls [.ref (eA E 0)]) := by
      intro w52 w53 w54 w55 σ56 H locs ls h hV hl
      unfold x_X9_often_b16 at h
      refine lv_iconst (v := 0) hx hb dX9_often_16 (by decide) ?_
      exact hj17 w52 w53 w54 w55 0 σ56 _ _ _ h hV (lv_sub hl [0, 1, 2, 3, 4] rfl)
    refine lv_aload_n hx hb dX9_often_0 rfl (lv_at hl 0 rfl) ?_
    refine lv_iload_n hx hb dX9_often_1 rfl (lv_at hl 1 rfl) ?_
    refine lv_if_lt (tgt := 16) hx hb dX9_often_2 (by decide) (fun hc => ?_) (fun hc => ?_)
    · have h := ifp hc h
      exact hj16 p1 p2 p3 p4 σ _ _ _ h hV (lv_sub hl [0, 1, 2, 3, 4] rfl)
    · have h := ifn hc h
      refine lv_iload_n hx hb dX9_often_5 rfl (lv_at hl 1 rfl) ?_
      refine lv_sipush (v := 9999) hx hb dX9_often_6 (by decide) ?_
      refine lv_icmp_gt (tgt := 16) hx hb dX9_often_9 (by decide) (fun hc => ?_) (fun hc => ?_)
      · have h := ifp hc h
        exact hj16 p1 p2 p3 p4 σ _ _ _ h hV (lv_sub hl [0, 1, 2, 3, 4] rfl)
      · have h := ifn hc h
        refine lv_iconst (v := 1) hx hb dX9_often_12 (by decide) ?_
        refine lv_goto (tgt := 17) hx hb dX9_often_13 (by decide) ?_
        exact hj17 p1 p2 p3 p4 1 σ _ _ _ h hV (lv_sub hl [0, 1, 2, 3, 4] rfl)
  rw [hH, hlocs] at goal
  exact goal
theorem k_X9_often {p : Program} {l : Launch} {e : Env} {R : Room} {s : State} {m : MethodId} {a : Array Value} {below : List Frame} {meth : Method} {c : Code} {H : Heap} {locs : List Loc} {cells slots : Nat} {Q : State → Prop} {cc : ByteArray} {own : String} {nL pc : Nat} {ls : Array Slot} {rest : List Value} {A : Nat → Prop} {E : EV} {X : va_W} {σ : St} {p1 : Int32} {p2 : Int32} {p3 : Int32} {p4 : Int32} {rv : Int32} {σf : St} (h : x_X9_often p1 p2 p3 p4 σ = some (.inl (rv, σf))) (cx : CallFix p m c cc nL s a TBL own) (hV : AtW E (wC E σ ++ X) A s H locs) (hF : FZ E A s s.heap) {idx : Nat} (w1 : Cond.methodLink own idx yX9_often ∈ TBL) (hR : (rm_X9_often).frames + 1 ≤ R.frames ∧ 8 + (7 + 11) + (rm_X9_often).locals ≤ R.locals) (hcs : cells ≤ R.cells ∧ slots ≤ R.slots) (hls : ls.size = nL) (hcat : (rest.map fun v => v.category).sum ≤ 8) (d : decode cc pc = .ok (.invokevirtual idx, 3)) (kk : ∀ (H1 : Heap) (locs1 : List Loc), AtW E (wC E σf ++ X) A s H1 locs1 → W p l e R s m a below meth c H1 locs1 cells slots Q (F0 m (pc + 3) ls (.int rv :: rest))) : W p l e R s m a below meth c H locs cells slots Q (F0 m pc ls (.int p4 :: .int p3 :: .int p2 :: .int p1 :: .ref (eA E 0) :: rest)) :=
  r_callFi (n := 4) (As := [.int p1, .int p2, .int p3, .int p4]) (q0 := 0) (ci := 9) (qq := (RX9, TX9, 14)) (c_X9_often h) wC_fst rfl rfl mk_6_13 mk_6_14 mk_1_1 mk_6_15 (by decide +kernel) rfl ⟨rfl, rfl⟩ cx hV hF w1 hR hcs hls rfl hcat d kk
theorem kx_X9_often {p : Program} {l : Launch} {e : Env} {R : Room} {s : State} {m : MethodId} {a : Array Value} {below : List Frame} {meth : Method} {c : Code} {H : Heap} {locs : List Loc} {cc : ByteArray} {own : String} {nL pc : Nat} {ls : Array Slot} {rest : List Value} {A : Nat → Prop} {E : EV} {X : va_W} {σ : St} {p1 : Int32} {p2 : Int32} {p3 : Int32} {p4 : Int32} (hT : l.stackTraces = false) {nx : Nat} {σf : St} (h : x_X9_often p1 p2 p3 p4 σ = some (.inr (nx, σf))) (cx : CallFix p m c cc nL s a TBL own) (hV : AtW E (wC E σ ++ X) A s H locs) (hF : FZ E A s s.heap) (hx0 : ∀ x ∈ c.exceptionTable.toList, False) (hlk : meth.locks = false) {idx : Nat} (w1 : Cond.methodLink own idx yX9_often ∈ TBL) (hR : (rmx_X9_often).frames + 1 ≤ R.frames ∧ 8 + (7 + 11) + (rmx_X9_often).locals ≤ R.locals) (hcs : 1 ≤ R.cells ∧ 6 ≤ R.slots) (hls : ls.size = nL) (hcat : (rest.map fun v => v.category).sum ≤ 8) (d : decode cc pc = .ok (.invokevirtual idx, 3)) : W p l e R s m a below meth c H locs 0 0 (EX E (wC E σf ++ X) (exN nx) A s a below) (F0 m pc ls (.int p4 :: .int p3 :: .int p2 :: .int p1 :: .ref (eA E 0) :: rest)) :=
  r_callx (n := 4) (As := [.int p1, .int p2, .int p3, .int p4]) (q0 := 0) (ci := 9) (qq := (RX9, TX9, 14)) (t_X9_often hT h) rfl rfl mk_6_13 mk_6_14 mk_1_1 mk_6_15 (by decide +kernel) rfl ⟨rfl, rfl⟩ cx hV hF hx0 hlk w1 hR hcs hls rfl hcat d
def x_X9_changes (σ : St) : Option (Int32 × St) :=
  bd2 (x_X6_list σ) fun v1 σ2 =>
  some (v1, σ2)
abbrev rm_X9_changes : Room := { frames := 3, cells := 0, slots := 0, locals := 68 }
set_option maxHeartbeats 4000000 in
set_option maxRecDepth 100000 in
theorem c_X9_changes {l : Launch} {E : EV} {X : va_W} {σ : St} {rv : Int32} {σf : St} (h : x_X9_changes σ = some (rv, σf)) : CM l yX9_changes cX9_changes 1 (some .int) rm_X9_changes [.ref (eA E 0)] E (wC E σ ++ X) (wC E σf ++ X) (qI rv) := by
  refine CM.start (by decide) (Nat.le_of_ble_eq_true rfl) (fun p e s m a below meth c A ls cx hr hlk hV hl => ?_)
  have cx : CallFix p m c cX9_changes 1 s a TBL RX9 := cx
  have hx := cx.1
  have hb := cx.2.1
  have hl : lv_has ls 1 [(0, .ref (eA E 0))] := hl
  generalize hQ : EQ E (wC E σf ++ X) (qI rv) A s a below = QQ
  obtain ⟨H, hH⟩ : ∃ H, H = s.heap := ⟨_, rfl⟩
  obtain ⟨locs, hlocs⟩ : ∃ z, z = ([] : List Loc) := ⟨_, rfl⟩
  have hV : AtW E (wC E σ ++ X) A s H locs := by rw [hH, hlocs]; exact hV
  have goal : W p l e rm_X9_changes s m a below meth c H locs 0 0 QQ (F0 m 0 ls []) := by
    unfold x_X9_changes at h
    refine lv_aload_n hx hb dX9_changes_0 rfl (lv_at hl 0 rfl) ?_
    refine G_X9_swaps cx hV mk_2_150 dX9_changes_1 ?_
    refine bd2_e h (fun v1 σ2 hq h => ?_)
    refine k_X6_list hq cx hV mk_3_125 ⟨Nat.le_of_ble_eq_true rfl, Nat.le_of_ble_eq_true rfl⟩ ⟨Nat.zero_le _, Nat.zero_le _⟩ hl.1 (Nat.le_of_ble_eq_true rfl) dX9_changes_4 (fun H locs hV => ?_)
    obtain ⟨h1, h2⟩ := Prod.mk.inj (Option.some.inj h)
    subst h1
    subst h2
    subst hQ
    exact r_ireti cx hr hlk hV dX9_changes_7
  rw [hH, hlocs] at goal
  exact goal
theorem k_X9_changes {p : Program} {l : Launch} {e : Env} {R : Room} {s : State} {m : MethodId} {a : Array Value} {below : List Frame} {meth : Method} {c : Code} {H : Heap} {locs : List Loc} {cells slots : Nat} {Q : State → Prop} {cc : ByteArray} {own : String} {nL pc : Nat} {ls : Array Slot} {rest : List Value} {A : Nat → Prop} {E : EV} {X : va_W} {σ : St} {rv : Int32} {σf : St} (h : x_X9_changes σ = some (rv, σf)) (cx : CallFix p m c cc nL s a TBL own) (hV : AtW E (wC E σ ++ X) A s H locs) {idx : Nat} (w1 : Cond.methodLink own idx yX9_changes ∈ TBL) (hR : (rm_X9_changes).frames + 1 ≤ R.frames ∧ 8 + (1 + 11) + (rm_X9_changes).locals ≤ R.locals) (hcs : cells ≤ R.cells ∧ slots ≤ R.slots) (hls : ls.size = nL) (hcat : (rest.map fun v => v.category).sum ≤ 8) (d : decode cc pc = .ok (.invokevirtual idx, 3)) (kk : ∀ (H1 : Heap) (locs1 : List Loc), AtW E (wC E σf ++ X) A s H1 locs1 → W p l e R s m a below meth c H1 locs1 cells slots Q (F0 m (pc + 3) ls (.int rv :: rest))) : W p l e R s m a below meth c H locs cells slots Q (F0 m pc ls (.ref (eA E 0) :: rest)) :=
  r_calli (n := 0) (As := []) (q0 := 0) (ci := 9) (qq := (RX9, TX9, 14)) (c_X9_changes h) wC_fst rfl rfl mk_3_122 mk_3_123 mk_1_1 mk_3_124 (by decide +kernel) rfl ⟨rfl, rfl⟩ cx hV w1 hR hcs hls rfl hcat d kk
def x_X9_changed (p1 : Int32) (σ : St) : Option (Int32 × St) :=
  bd2 (x_X6_list σ) fun v1 σ2 =>
  (if p1 < 0 then
  some ((-1), σ2)
  else
  (if v1 ≤ p1 then
  some ((-1), σ2)
  else
  bd (x_X2_at 46 p1 σ2) fun v3 =>
  some (v3, σ2)))
abbrev rm_X9_changed : Room := { frames := 3, cells := 0, slots := 0, locals := 68 }
set_option maxHeartbeats 4000000 in
set_option maxRecDepth 100000 in
theorem c_X9_changed {l : Launch} {E : EV} {X : va_W} {σ : St} {p1 : Int32} {rv : Int32} {σf : St} (h : x_X9_changed p1 σ = some (rv, σf)) : CM l yX9_changed cX9_changed 3 (some .int) rm_X9_changed [.ref (eA E 0), .int p1] E (wC E σ ++ X) (wC E σf ++ X) (qI rv) := by
  refine CM.start (by decide) (Nat.le_of_ble_eq_true rfl) (fun p e s m a below meth c A ls cx hr hlk hV hl => ?_)
  have cx : CallFix p m c cX9_changed 3 s a TBL RX9 := cx
  have hx := cx.1
  have hb := cx.2.1
  have hl : lv_has ls 3 [(0, .ref (eA E 0)), (1, .int p1)] := hl
  generalize hQ : EQ E (wC E σf ++ X) (qI rv) A s a below = QQ
  obtain ⟨H, hH⟩ : ∃ H, H = s.heap := ⟨_, rfl⟩
  obtain ⟨locs, hlocs⟩ : ∃ z, z = ([] : List Loc) := ⟨_, rfl⟩
  have hV : AtW E (wC E σ ++ X) A s H locs := by rw [hH, hlocs]; exact hV
  have goal : W p l e rm_X9_changed s m a below meth c H locs 0 0 QQ (F0 m 0 ls []) := by
    unfold x_X9_changed at h
    refine lv_aload_n hx hb dX9_changed_0 rfl (lv_at hl 0 rfl) ?_
    refine G_X9_swaps cx hV mk_2_150 dX9_changed_1 ?_
    refine bd2_e h (fun v1 σ2 hq h => ?_)
    refine k_X6_list hq cx hV mk_3_125 ⟨Nat.le_of_ble_eq_true rfl, Nat.le_of_ble_eq_true rfl⟩ ⟨Nat.zero_le _, Nat.zero_le _⟩ hl.1 (Nat.le_of_ble_eq_true rfl) dX9_changed_4 (fun H locs hV => ?_)
    refine lv_istore_n (lv' := [(2, .int v1), (0, .ref (eA E 0)), (1, .int p1)]) hx hb dX9_changed_7 rfl hl (by decide) rfl (fun ls hl => ?_)
    refine lv_iload_n hx hb dX9_changed_8 rfl (lv_at hl 2 rfl) ?_
    refine lv_if_lt (tgt := 31) hx hb dX9_changed_9 (by decide) (fun hc => ?_) (fun hc => ?_)
    · have h := ifp hc h
      refine lv_iconst (v := (-1)) hx hb dX9_changed_31 (by decide) ?_
      obtain ⟨h1, h2⟩ := Prod.mk.inj (Option.some.inj h)
      subst h1
      subst h2
      subst hQ
      exact r_ireti cx hr hlk hV dX9_changed_32
    · have h := ifn hc h
      refine lv_iload_n hx hb dX9_changed_12 rfl (lv_at hl 2 rfl) ?_
      refine lv_iload_n hx hb dX9_changed_13 rfl (lv_at hl 0 rfl) ?_
      refine lv_icmp_ge (tgt := 31) hx hb dX9_changed_14 (by decide) (fun hc => ?_) (fun hc => ?_)
      · have h := ifp hc h
        refine lv_iconst (v := (-1)) hx hb dX9_changed_31 (by decide) ?_
        obtain ⟨h1, h2⟩ := Prod.mk.inj (Option.some.inj h)
        subst h1
        subst h2
        subst hQ
        exact r_ireti cx hr hlk hV dX9_changed_32
      · have h := ifn hc h
        refine lv_aload_n hx hb dX9_changed_17 rfl (lv_at hl 1 rfl) ?_
        refine G_X9_swaps cx hV mk_2_150 dX9_changed_18 ?_
        refine G_X6_listed cx hV mk_2_67 dX9_changed_21 ?_
        refine lv_iload_n hx hb dX9_changed_24 rfl (lv_at hl 2 rfl) ?_
        refine bd_e h (fun v3 hq h => ?_)
        refine k_X2_at (by decide) hq cx hV mk_3_93 ⟨Nat.le_of_ble_eq_true rfl, Nat.le_of_ble_eq_true rfl⟩ ⟨Nat.zero_le _, Nat.zero_le _⟩ hl.1 (Nat.le_of_ble_eq_true rfl) dX9_changed_25 (fun H locs hV => ?_)
        refine lv_goto (tgt := 32) hx hb dX9_changed_28 (by decide) ?_
        obtain ⟨h1, h2⟩ := Prod.mk.inj (Option.some.inj h)
        subst h1
        subst h2
        subst hQ
        exact r_ireti cx hr hlk hV dX9_changed_32
  rw [hH, hlocs] at goal
  exact goal
theorem k_X9_changed {p : Program} {l : Launch} {e : Env} {R : Room} {s : State} {m : MethodId} {a : Array Value} {below : List Frame} {meth : Method} {c : Code} {H : Heap} {locs : List Loc} {cells slots : Nat} {Q : State → Prop} {cc : ByteArray} {own : String} {nL pc : Nat} {ls : Array Slot} {rest : List Value} {A : Nat → Prop} {E : EV} {X : va_W} {σ : St} {p1 : Int32} {rv : Int32} {σf : St} (h : x_X9_changed p1 σ = some (rv, σf)) (cx : CallFix p m c cc nL s a TBL own) (hV : AtW E (wC E σ ++ X) A s H locs) {idx : Nat} (w1 : Cond.methodLink own idx yX9_changed ∈ TBL) (hR : (rm_X9_changed).frames + 1 ≤ R.frames ∧ 8 + (3 + 11) + (rm_X9_changed).locals ≤ R.locals) (hcs : cells ≤ R.cells ∧ slots ≤ R.slots) (hls : ls.size = nL) (hcat : (rest.map fun v => v.category).sum ≤ 8) (d : decode cc pc = .ok (.invokevirtual idx, 3)) (kk : ∀ (H1 : Heap) (locs1 : List Loc), AtW E (wC E σf ++ X) A s H1 locs1 → W p l e R s m a below meth c H1 locs1 cells slots Q (F0 m (pc + 3) ls (.int rv :: rest))) : W p l e R s m a below meth c H locs cells slots Q (F0 m pc ls (.int p1 :: .ref (eA E 0) :: rest)) :=
  r_calli (n := 1) (As := [.int p1]) (q0 := 0) (ci := 9) (qq := (RX9, TX9, 14)) (c_X9_changed h) wC_fst rfl rfl mk_3_138 mk_3_139 mk_1_1 mk_3_140 (by decide +kernel) rfl ⟨rfl, rfl⟩ cx hV w1 hR hcs hls rfl hcat d kk
def x_X9_divider (p1 : Int32) (σ : St) : Option Int32 :=
  bd (x_X7_hasCrate 0 p1 σ) fun v1 =>
  (if v1 = 0 then
  some (-1)
  else
  bd (x_X2_at 18 p1 σ) fun v2 =>
  some v2)
abbrev rm_X9_divider : Room := { frames := 1, cells := 0, slots := 0, locals := 21 }
set_option maxHeartbeats 4000000 in
set_option maxRecDepth 100000 in
theorem c_X9_divider {l : Launch} {E : EV} {X : va_W} {σ : St} {p1 : Int32} {rv : Int32} (h : x_X9_divider p1 σ = some rv) : CM l yX9_divider cX9_divider 2 (some .int) rm_X9_divider [.ref (eA E 0), .int p1] E (wC E σ ++ X) (wC E σ ++ X) (qI rv) := by
  refine CM.start (by decide) (Nat.le_of_ble_eq_true rfl) (fun p e s m a below meth c A ls cx hr hlk hV hl => ?_)
  have cx : CallFix p m c cX9_divider 2 s a TBL RX9 := cx
  have hx := cx.1
  have hb := cx.2.1
  have hl : lv_has ls 2 [(0, .ref (eA E 0)), (1, .int p1)] := hl
  generalize hQ : EQ E (wC E σ ++ X) (qI rv) A s a below = QQ
  obtain ⟨H, hH⟩ : ∃ H, H = s.heap := ⟨_, rfl⟩
  obtain ⟨locs, hlocs⟩ : ∃ z, z = ([] : List Loc) := ⟨_, rfl⟩
  have hV : AtW E (wC E σ ++ X) A s H locs := by rw [hH, hlocs]; exact hV
  have goal : W p l e rm_X9_divider s m a below meth c H locs 0 0 QQ (F0 m 0 ls []) := by
    unfold x_X9_divider at h
    refine lv_aload_n hx hb dX9_divider_0 rfl (lv_at hl 0 rfl) ?_
    refine G_X9_told cx hV mk_2_141 dX9_divider_1 ?_
    refine lv_iload_n hx hb dX9_divider_4 rfl (lv_at hl 1 rfl) ?_
    refine bd_e h (fun v1 hq h => ?_)
    refine k_X7_hasCrate (by decide) hq cx hV mk_3_145 ⟨Nat.le_of_ble_eq_true rfl, Nat.le_of_ble_eq_true rfl⟩ ⟨Nat.zero_le _, Nat.zero_le _⟩ hl.1 (Nat.le_of_ble_eq_true rfl) dX9_divider_5 (fun H locs hV => ?_)
    refine lv_if_eq (tgt := 25) hx hb dX9_divider_8 (by decide) (fun hc => ?_) (fun hc => ?_)
    · have h := ifp hc h
      refine lv_iconst (v := (-1)) hx hb dX9_divider_25 (by decide) ?_
      have h1 := Option.some.inj h
      subst h1
      subst hQ
      exact r_ireti cx hr hlk hV dX9_divider_26
    · have h := ifn hc h
      refine lv_aload_n hx hb dX9_divider_11 rfl (lv_at hl 0 rfl) ?_
      refine G_X9_stock cx hV mk_2_142 dX9_divider_12 ?_
      refine G_X5_dividers cx hV (by decide) mk_1_131 dX9_divider_15 ?_
      refine lv_iload_n hx hb dX9_divider_18 rfl (lv_at hl 1 rfl) ?_
      refine bd_e h (fun v2 hq h => ?_)
      refine k_X2_at (by decide) hq cx hV mk_3_93 ⟨Nat.le_of_ble_eq_true rfl, Nat.le_of_ble_eq_true rfl⟩ ⟨Nat.zero_le _, Nat.zero_le _⟩ hl.1 (Nat.le_of_ble_eq_true rfl) dX9_divider_19 (fun H locs hV => ?_)
      refine lv_goto (tgt := 26) hx hb dX9_divider_22 (by decide) ?_
      have h1 := Option.some.inj h
      subst h1
      subst hQ
      exact r_ireti cx hr hlk hV dX9_divider_26
  rw [hH, hlocs] at goal
  exact goal
theorem k_X9_divider {p : Program} {l : Launch} {e : Env} {R : Room} {s : State} {m : MethodId} {a : Array Value} {below : List Frame} {meth : Method} {c : Code} {H : Heap} {locs : List Loc} {cells slots : Nat} {Q : State → Prop} {cc : ByteArray} {own : String} {nL pc : Nat} {ls : Array Slot} {rest : List Value} {A : Nat → Prop} {E : EV} {X : va_W} {σ : St} {p1 : Int32} {rv : Int32} (h : x_X9_divider p1 σ = some rv) (cx : CallFix p m c cc nL s a TBL own) (hV : AtW E (wC E σ ++ X) A s H locs) {idx : Nat} (w1 : Cond.methodLink own idx yX9_divider ∈ TBL) (hR : (rm_X9_divider).frames + 1 ≤ R.frames ∧ 8 + (2 + 11) + (rm_X9_divider).locals ≤ R.locals) (hcs : cells ≤ R.cells ∧ slots ≤ R.slots) (hls : ls.size = nL) (hcat : (rest.map fun v => v.category).sum ≤ 8) (d : decode cc pc = .ok (.invokevirtual idx, 3)) (kk : ∀ (H1 : Heap) (locs1 : List Loc), AtW E (wC E σ ++ X) A s H1 locs1 → W p l e R s m a below meth c H1 locs1 cells slots Q (F0 m (pc + 3) ls (.int rv :: rest))) : W p l e R s m a below meth c H locs cells slots Q (F0 m pc ls (.int p1 :: .ref (eA E 0) :: rest)) :=
  r_calli (n := 1) (As := [.int p1]) (q0 := 0) (ci := 9) (qq := (RX9, TX9, 14)) (c_X9_divider h) rfl rfl rfl mk_3_142 mk_3_143 mk_1_1 mk_3_144 (by decide +kernel) rfl ⟨rfl, rfl⟩ cx hV w1 hR hcs hls rfl hcat d kk
def x_X9_standByNumber_L4 (p1 : Int32) (σ : St) (u1 : Int32) (u2 : Int32) : Option ((Bool × (Int32 × Int32)) ⊕ Int32) :=
  (if (gI σ 0) ≤ u2 then
  some (.inl (false, (u1, u2)))
  else
  bd (x_X2_at 18 u2 σ) fun v3 =>
  bd (x_X9_hasBit p1 v3) fun v4 =>
  (if v4 = 0 then
  some (.inl (true, (u1, (u2 + 1))))
  else
  (if u1 ≤ v3 then
  some (.inl (true, (v3, (u2 + 1))))
  else
  some (.inr 0))))
def x_X9_standByNumber (p1 : Int32) (σ : St) : Option Int32 :=
  bs2 (lpr (fun v : (Int32 × Int32) => x_X9_standByNumber_L4 p1 σ v.1 v.2) FU ((-1), 0)) (fun z5 z6 =>
  some 1) some
abbrev rm_X9_standByNumber : Room := { frames := 1, cells := 0, slots := 0, locals := 21 }
set_option maxHeartbeats 4000000 in
set_option maxRecDepth 100000 in
theorem c_X9_standByNumber {l : Launch} {E : EV} {X : va_W} {σ : St} {p1 : Int32} {rv : Int32} (h : x_X9_standByNumber p1 σ = some rv) : CM l yX9_standByNumber cX9_standByNumber 5 (some .boolean) rm_X9_standByNumber [.ref (eA E 0), .int p1] E (wC E σ ++ X) (wC E σ ++ X) (qI rv) := by
  refine CM.start (by decide) (Nat.le_of_ble_eq_true rfl) (fun p e s m a below meth c A ls cx hr hlk hV hl => ?_)
  have cx : CallFix p m c cX9_standByNumber 5 s a TBL RX9 := cx
  have hx := cx.1
  have hb := cx.2.1
  have hl : lv_has ls 5 [(0, .ref (eA E 0)), (1, .int p1)] := hl
  generalize hQ : EQ E (wC E σ ++ X) (qI rv) A s a below = QQ
  obtain ⟨H, hH⟩ : ∃ H, H = s.heap := ⟨_, rfl⟩
  obtain ⟨locs, hlocs⟩ : ∃ z, z = ([] : List Loc) := ⟨_, rfl⟩
  have hV : AtW E (wC E σ ++ X) A s H locs := by rw [hH, hlocs]; exact hV
  have goal : W p l e rm_X9_standByNumber s m a below meth c H locs 0 0 QQ (F0 m 0 ls []) := by
    unfold x_X9_standByNumber at h
    refine lv_iconst (v := (-1)) hx hb dX9_standByNumber_0 (by decide) ?_
    refine lv_istore_n (lv' := [(2, .int (-1)), (0, .ref (eA E 0)), (1, .int p1)]) hx hb dX9_standByNumber_1 rfl hl (by decide) rfl (fun ls hl => ?_)
    refine lv_iconst (v := 0) hx hb dX9_standByNumber_2 (by decide) ?_
    refine lv_istore_n (lv' := [(3, .int 0), (2, .int (-1)), (0, .ref (eA E 0)), (1, .int p1)]) hx hb dX9_standByNumber_3 rfl hl (by decide) rfl (fun ls hl => ?_)
    obtain ⟨o1, ho⟩ := bs2_get h
    rw [ho] at h
    refine (lpr_rule (G := (fun v : (Int32 × Int32) => ∀ (H : Heap) (locs : List Loc) (ls : Array Slot), AtW E (wC E σ ++ X) A s H locs → lv_has ls 5 [(0, .ref (eA E 0)), (1, .int p1), (2, .int v.1), (3, .int v.2)] → W p l e rm_X9_standByNumber s m a below meth c H locs 0 0 QQ (F0 m 4 ls []))) (K := (fun v : (Int32 × Int32) => ∀ (H : Heap) (locs : List Loc) (ls : Array Slot), AtW E (wC E σ ++ X) A s H locs → lv_has ls 5 [] → W p l e rm_X9_standByNumber s m a below meth c H locs 0 0 QQ (F0 m 54 ls []))) (KR := (fun r => some r = some rv)) (fun v e1 h hT1 hF1 hR1 => ?_) ho (fun v hv => ?_) (fun r hv => ?_)) _ _ _ hV (lv_sub hl [2, 3, 1, 0] rfl)
    · obtain ⟨u1, u2⟩ := v
      have h : x_X9_standByNumber_L4 p1 σ u1 u2 = some e1 := h
      intro H locs ls hV hl
      have hV : AtW E (wC E σ ++ X) A s H locs := hV
      have hl : lv_has ls 5 [(0, .ref (eA E 0)), (1, .int p1), (2, .int u1), (3, .int u2)] := hl
      unfold x_X9_standByNumber_L4 at h
      refine lv_iload_n hx hb dX9_standByNumber_4 rfl (lv_at hl 3 rfl) ?_
      refine lv_aload_n hx hb dX9_standByNumber_5 rfl (lv_at hl 0 rfl) ?_
      refine G_X9_told cx hV mk_2_141 dX9_standByNumber_6 ?_
      refine G_X7_crates cx hV (by decide) mk_1_54 dX9_standByNumber_9 ?_
      refine lv_icmp_ge (tgt := 54) hx hb dX9_standByNumber_12 (by decide) (fun hc => ?_) (fun hc => ?_)
      · have h := ifp hc h
        cases h
        exact hF1 _ rfl _ _ _ hV (lv_sub hl [] rfl)
      · have h := ifn hc h
        refine lv_aload_n hx hb dX9_standByNumber_15 rfl (lv_at hl 0 rfl) ?_
        refine G_X9_stock cx hV mk_2_142 dX9_standByNumber_16 ?_
        refine G_X5_dividers cx hV (by decide) mk_1_131 dX9_standByNumber_19 ?_
        refine lv_iload_n hx hb dX9_standByNumber_22 rfl (lv_at hl 3 rfl) ?_
        refine bd_e h (fun v3 hq h => ?_)
        refine k_X2_at (by decide) hq cx hV mk_3_93 ⟨Nat.le_of_ble_eq_true rfl, Nat.le_of_ble_eq_true rfl⟩ ⟨Nat.zero_le _, Nat.zero_le _⟩ hl.1 (Nat.le_of_ble_eq_true rfl) dX9_standByNumber_23 (fun H locs hV => ?_)
        refine lv_istore (lv' := [(4, .int v3), (0, .ref (eA E 0)), (1, .int p1), (2, .int u1), (3, .int u2)]) hx hb dX9_standByNumber_26 hl (by decide) rfl (fun ls hl => ?_)
        refine lv_iload_n hx hb dX9_standByNumber_28 rfl (lv_at hl 2 rfl) ?_
        refine lv_iload hx hb dX9_standByNumber_29 (lv_at hl 0 rfl) ?_
        refine bd_e h (fun v4 hq h => ?_)
        refine k_X9_hasBit hq cx hV mk_6_37 ⟨Nat.le_of_ble_eq_true rfl, Nat.le_of_ble_eq_true rfl⟩ ⟨Nat.zero_le _, Nat.zero_le _⟩ hl.1 (Nat.le_of_ble_eq_true rfl) dX9_standByNumber_31 (fun H locs hV => ?_)
        refine lv_if_eq (tgt := 48) hx hb dX9_standByNumber_34 (by decide) (fun hc => ?_) (fun hc => ?_)
        · have h := ifp hc h
          refine lv_iinc (v := (u2 + 1)) (lv' := [(3, .int (u2 + 1)), (4, .int v3), (0, .ref (eA E 0)), (1, .int p1), (2, .int u1)]) hx hb dX9_standByNumber_48 hl (k := 4) rfl rfl (by decide) rfl (fun ls hl => ?_)
          refine lv_goto (tgt := 4) hx hb dX9_standByNumber_51 (by decide) ?_
          cases h
          exact hT1 _ rfl _ _ _ hV (lv_sub hl [2, 3, 4, 0] rfl)
        · have h := ifn hc h
          refine lv_iload hx hb dX9_standByNumber_37 (lv_at hl 0 rfl) ?_
          refine lv_iload_n hx hb dX9_standByNumber_39 rfl (lv_at hl 3 rfl) ?_
          refine lv_icmp_ge (tgt := 45) hx hb dX9_standByNumber_40 (by decide) (fun hc => ?_) (fun hc => ?_)
          · have h := ifp hc h
            refine lv_iload hx hb dX9_standByNumber_45 (lv_at hl 0 rfl) ?_
            refine lv_istore_n (lv' := [(2, .int v3), (4, .int v3), (0, .ref (eA E 0)), (1, .int p1), (3, .int u2)]) hx hb dX9_standByNumber_47 rfl hl (by decide) rfl (fun ls hl => ?_)
            refine lv_iinc (v := (u2 + 1)) (lv' := [(3, .int (u2 + 1)), (2, .int v3), (4, .int v3), (0, .ref (eA E 0)), (1, .int p1)]) hx hb dX9_standByNumber_48 hl (k := 4) rfl rfl (by decide) rfl (fun ls hl => ?_)
            refine lv_goto (tgt := 4) hx hb dX9_standByNumber_51 (by decide) ?_
            cases h
            exact hT1 _ rfl _ _ _ hV (lv_sub hl [3, 4, 1, 0] rfl)
          · have h := ifn hc h
            refine lv_iconst (v := 0) hx hb dX9_standByNumber_43 (by decide) ?_
            cases h
            have h := hR1 _ rfl
            cases h
            subst hQ
            exact r_zreti cx hr hlk hV (Or.inl rfl) dX9_standByNumber_44
    · subst hv
      obtain ⟨z5, z6⟩ := v
      intro H locs ls hV hl
      have hV : AtW E (wC E σ ++ X) A s H locs := hV
      have hl : lv_has ls 5 [] := hl
      have h := bs2_inl h
      refine lv_iconst (v := 1) hx hb dX9_standByNumber_54 (by decide) ?_
      have h1 := Option.some.inj h
      subst h1
      subst hQ
      exact r_zreti cx hr hlk hV (Or.inr rfl) dX9_standByNumber_55
    · subst hv
      exact bs2_inr h
  rw [hH, hlocs] at goal
  exact goal
theorem k_X9_standByNumber {p : Program} {l : Launch} {e : Env} {R : Room} {s : State} {m : MethodId} {a : Array Value} {below : List Frame} {meth : Method} {c : Code} {H : Heap} {locs : List Loc} {cells slots : Nat} {Q : State → Prop} {cc : ByteArray} {own : String} {nL pc : Nat} {ls : Array Slot} {rest : List Value} {A : Nat → Prop} {E : EV} {X : va_W} {σ : St} {p1 : Int32} {rv : Int32} (h : x_X9_standByNumber p1 σ = some rv) (cx : CallFix p m c cc nL s a TBL own) (hV : AtW E (wC E σ ++ X) A s H locs) {idx : Nat} (w1 : Cond.methodLink own idx yX9_standByNumber ∈ TBL) (hR : (rm_X9_standByNumber).frames + 1 ≤ R.frames ∧ 8 + (5 + 11) + (rm_X9_standByNumber).locals ≤ R.locals) (hcs : cells ≤ R.cells ∧ slots ≤ R.slots) (hls : ls.size = nL) (hcat : (rest.map fun v => v.category).sum ≤ 8) (d : decode cc pc = .ok (.invokevirtual idx, 3)) (kk : ∀ (H1 : Heap) (locs1 : List Loc), AtW E (wC E σ ++ X) A s H1 locs1 → W p l e R s m a below meth c H1 locs1 cells slots Q (F0 m (pc + 3) ls (.int rv :: rest))) : W p l e R s m a below meth c H locs cells slots Q (F0 m pc ls (.int p1 :: .ref (eA E 0) :: rest)) :=
  r_calli (n := 1) (As := [.int p1]) (q0 := 0) (ci := 9) (qq := (RX9, TX9, 14)) (c_X9_standByNumber h) rfl rfl rfl mk_6_35 mk_P_53 mk_1_1 mk_6_36 (by decide +kernel) rfl ⟨rfl, rfl⟩ cx hV w1 hR hcs hls rfl hcat d kk
def x_X9_moves_L22 (w1 : Int32) (σ4 : St) (u5 : Int32) (u6 : Int32) : Option (Bool × (Int32 × Int32)) :=
  (if (1 <<< ((gI σ4 0) &&& 31)) ≤ u6 then
  some (false, (u5, u6))
  else
  bd (x_J6_bitCount_0f7a4 u6) fun v7 =>
  bd (x_J6_bitCount_0f7a4 u5) fun v8 =>
  (if v7 ≤ v8 then
  some (true, (u5, (u6 + 1)))
  else
  bd (x_X9_standByNumber u6 σ4) fun v9 =>
  (if v9 = 0 then
  some (true, (u5, (u6 + 1)))
  else
  some (true, (u6, (u6 + 1))))))
def x_X9_moves_b15 (w1 : Int32) (w2 : Int32) (σ3 : St) : Option ((Int32 × St) ⊕ (Nat × St)) :=
  bt (x_X9_need w2 σ3) fun σ4 =>
  bd2 (lp (fun v : (Int32 × Int32) => x_X9_moves_L22 w1 σ4 v.1 v.2) FU (0, 1)) fun z10 z11 =>
  (if w1 = 0 then
  bd (x_J6_bitCount_0f7a4 z10) fun v12 =>
  some (.inl (((gI σ4 0) - v12), σ4))
  else
  some (.inl (z10, σ4)))
def x_X9_moves_b10 (w13 : Int32) (σ14 : St) : Option ((Int32 × St) ⊕ (Nat × St)) :=
  x_X9_moves_b15 w13 1 σ14
def x_X9_moves (p1 : Int32) (σ : St) : Option ((Int32 × St) ⊕ (Nat × St)) :=
  (if p1 = 0 then
  x_X9_moves_b10 p1 σ
  else
  (if p1 = 1 then
  x_X9_moves_b10 p1 σ
  else
  x_X9_moves_b15 p1 0 σ))
abbrev rm_X9_moves : Room := { frames := 3, cells := 0, slots := 0, locals := 65 }
abbrev rmx_X9_moves : Room := { frames := 7, cells := 1, slots := 6, locals := 103 }
set_option maxHeartbeats 4000000 in
set_option maxRecDepth 100000 in
theorem c_X9_moves {l : Launch} {E : EV} {X : va_W} {σ : St} {p1 : Int32} {rv : Int32} {σf : St} (h : x_X9_moves p1 σ = some (.inl (rv, σf))) : CMF l yX9_moves cX9_moves 4 (some .int) rm_X9_moves [.ref (eA E 0), .int p1] E (wC E σ ++ X) (wC E σf ++ X) (qI rv) := by
  refine CMF.start (by decide) (Nat.le_of_ble_eq_true rfl) (fun p e s m a below meth c A ls cx hr hlk hV hF hl => ?_)
  have cx : CallFix p m c cX9_moves 4 s a TBL RX9 := cx
  have hx := cx.1
  have hb := cx.2.1
  have hl : lv_has ls 4 [(0, .ref (eA E 0)), (1, .int p1)] := hl
  generalize hQ : EQ E (wC E σf ++ X) (qI rv) A s a below = QQ
  obtain ⟨H, hH⟩ : ∃ H, H = s.heap := ⟨_, rfl⟩
  obtain ⟨locs, hlocs⟩ : ∃ z, z = ([] : List Loc) := ⟨_, rfl⟩
  have hV : AtW E (wC E σ ++ X) A s H locs := by rw [hH, hlocs]; exact hV
  have goal : W p l e rm_X9_moves s m a below meth c H locs 0 0 QQ (F0 m 0 ls []) := by
    unfold x_X9_moves at h
    have hj15 : ∀ (w1 : Int32) (w2 : Int32) (σ3 : St) (H : Heap) (locs : List Loc) (ls : Array Slot), x_X9_moves_b15 w1 w2 σ3 = some (.inl (rv, σf)) → AtW E (wC E σ3 ++ X) A s H locs → lv_has ls 4 [(0, .ref (eA E 0)), (1, .int w1)] → W p l e rm_X9_moves s m a below meth c H locs 0 0 QQ (F0 m 15 ls [.int w2, .ref (eA E 0)]) := by
      intro w1 w2 σ3 H locs ls h hV hl
      unfold x_X9_moves_b15 at h
      refine bt_e h (fun σ4 hq h => ?_) (fun q hq h => ?_)
      rotate_left
      · exact (inrl' h).elim
      refine k_X9_need hq cx hV hF mk_3_178 ⟨Nat.le_of_ble_eq_true rfl, Nat.le_of_ble_eq_true rfl⟩ ⟨Nat.zero_le _, Nat.zero_le _⟩ hl.1 (Nat.le_of_ble_eq_true rfl) dX9_moves_15 (fun H locs hV => ?_)
      refine lv_iconst (v := 0) hx hb dX9_moves_18 (by decide) ?_
      refine lv_istore_n (lv' := [(2, .int 0), (0, .ref (eA E 0)), (1, .int w1)]) hx hb dX9_moves_19 rfl hl (by decide) rfl (fun ls hl => ?_)
      refine lv_iconst (v := 1) hx hb dX9_moves_20 (by decide) ?_
      refine lv_istore_n (lv' := [(3, .int 1), (2, .int 0), (0, .ref (eA E 0)), (1, .int w1)]) hx hb dX9_moves_21 rfl hl (by decide) rfl (fun ls hl => ?_)
      refine bd2_e h (fun z10 z11 ho h => ?_)
      refine (lp_rule (G := (fun v : (Int32 × Int32) => ∀ (H : Heap) (locs : List Loc) (ls : Array Slot), AtW E (wC E σ4 ++ X) A s H locs → lv_has ls 4 [(0, .ref (eA E 0)), (1, .int w1), (2, .int v.1), (3, .int v.2)] → W p l e rm_X9_moves s m a below meth c H locs 0 0 QQ (F0 m 22 ls []))) (K := (fun v : (Int32 × Int32) => ∀ (H : Heap) (locs : List Loc) (ls : Array Slot), AtW E (wC E σ4 ++ X) A s H locs → lv_has ls 4 [(0, .ref (eA E 0)), (1, .int w1), (2, .int v.1)] → W p l e rm_X9_moves s m a below meth c H locs 0 0 QQ (F0 m 62 ls []))) (fun v b1 y1 h hT1 hF1 => ?_) ho (fun H locs ls hV hl => ?_)) _ _ _ hV (lv_sub hl [2, 3, 1, 0] rfl)
      · obtain ⟨u5, u6⟩ := v
        have h : x_X9_moves_L22 w1 σ4 u5 u6 = some (b1, y1) := h
        intro H locs ls hV hl
        have hV : AtW E (wC E σ4 ++ X) A s H locs := hV
        have hl : lv_has ls 4 [(0, .ref (eA E 0)), (1, .int w1), (2, .int u5), (3, .int u6)] := hl
        unfold x_X9_moves_L22 at h
        refine lv_iload_n hx hb dX9_moves_22 rfl (lv_at hl 3 rfl) ?_
        refine lv_iconst (v := 1) hx hb dX9_moves_23 (by decide) ?_
        refine lv_aload_n hx hb dX9_moves_24 rfl (lv_at hl 0 rfl) ?_
        refine G_X9_told cx hV mk_2_141 dX9_moves_25 ?_
        refine G_X7_crates cx hV (by decide) mk_1_54 dX9_moves_28 ?_
        refine lv_ishl hx hb dX9_moves_31 ?_
        refine lv_icmp_ge (tgt := 62) hx hb dX9_moves_32 (by decide) (fun hc => ?_) (fun hc => ?_)
        · have h := ifp hc h
          cases h
          exact hF1 rfl _ _ _ hV (lv_sub hl [0, 1, 2] rfl)
        · have h := ifn hc h
          refine lv_iload_n hx hb dX9_moves_35 rfl (lv_at hl 3 rfl) ?_
          refine bd_e h (fun v7 hq h => ?_)
          refine k_J6_bitCount_0f7a4 hq cx hV mk_6_27 ⟨Nat.le_of_ble_eq_true rfl, Nat.le_of_ble_eq_true rfl⟩ ⟨Nat.zero_le _, Nat.zero_le _⟩ hl.1 (Nat.le_of_ble_eq_true rfl) dX9_moves_36 (fun H locs hV => ?_)
          refine lv_iload_n hx hb dX9_moves_39 rfl (lv_at hl 2 rfl) ?_
          refine bd_e h (fun v8 hq h => ?_)
          refine k_J6_bitCount_0f7a4 hq cx hV mk_6_27 ⟨Nat.le_of_ble_eq_true rfl, Nat.le_of_ble_eq_true rfl⟩ ⟨Nat.zero_le _, Nat.zero_le _⟩ hl.1 (Nat.le_of_ble_eq_true rfl) dX9_moves_40 (fun H locs hV => ?_)
          refine lv_icmp_le (tgt := 56) hx hb dX9_moves_43 (by decide) (fun hc => ?_) (fun hc => ?_)
          · have h := ifp hc h
            refine lv_iinc (v := (u6 + 1)) (lv' := [(3, .int (u6 + 1)), (0, .ref (eA E 0)), (1, .int w1), (2, .int u5)]) hx hb dX9_moves_56 hl (k := 3) rfl rfl (by decide) rfl (fun ls hl => ?_)
            refine lv_goto (tgt := 22) hx hb dX9_moves_59 (by decide) ?_
            cases h
            exact hT1 rfl _ _ _ hV (lv_sub hl [1, 2, 3, 0] rfl)
          · have h := ifn hc h
            refine lv_aload_n hx hb dX9_moves_46 rfl (lv_at hl 0 rfl) ?_
            refine lv_iload_n hx hb dX9_moves_47 rfl (lv_at hl 3 rfl) ?_
            refine bd_e h (fun v9 hq h => ?_)
            refine k_X9_standByNumber hq cx hV mk_6_33 ⟨Nat.le_of_ble_eq_true rfl, Nat.le_of_ble_eq_true rfl⟩ ⟨Nat.zero_le _, Nat.zero_le _⟩ hl.1 (Nat.le_of_ble_eq_true rfl) dX9_moves_48 (fun H locs hV => ?_)
            refine lv_if_eq (tgt := 56) hx hb dX9_moves_51 (by decide) (fun hc => ?_) (fun hc => ?_)
            · have h := ifp hc h
              refine lv_iinc (v := (u6 + 1)) (lv' := [(3, .int (u6 + 1)), (0, .ref (eA E 0)), (1, .int w1), (2, .int u5)]) hx hb dX9_moves_56 hl (k := 3) rfl rfl (by decide) rfl (fun ls hl => ?_)
              refine lv_goto (tgt := 22) hx hb dX9_moves_59 (by decide) ?_
              cases h
              exact hT1 rfl _ _ _ hV (lv_sub hl [1, 2, 3, 0] rfl)
            · have h := ifn hc h
              refine lv_iload_n hx hb dX9_moves_54 rfl (lv_at hl 3 rfl) ?_
              refine lv_istore_n (lv' := [(2, .int u6), (0, .ref (eA E 0)), (1, .int w1), (3, .int u6)]) hx hb dX9_moves_55 rfl hl (by decide) rfl (fun ls hl => ?_)
              refine lv_iinc (v := (u6 + 1)) (lv' := [(3, .int (u6 + 1)), (2, .int u6), (0, .ref (eA E 0)), (1, .int w1)]) hx hb dX9_moves_56 hl (k := 3) rfl rfl (by decide) rfl (fun ls hl => ?_)
              refine lv_goto (tgt := 22) hx hb dX9_moves_59 (by decide) ?_
              cases h
              exact hT1 rfl _ _ _ hV (lv_sub hl [2, 3, 1, 0] rfl)
      · have hV : AtW E (wC E σ4 ++ X) A s H locs := hV
        have hl : lv_has ls 4 [(0, .ref (eA E 0)), (1, .int w1), (2, .int z10)] := hl
        refine lv_iload_n hx hb dX9_moves_62 rfl (lv_at hl 1 rfl) ?_
        refine lv_if_ne (tgt := 81) hx hb dX9_moves_63 (by decide) (fun hc => ?_) (fun hc => ?_)
        · have h := ifn hc h
          refine lv_iload_n hx hb dX9_moves_81 rfl (lv_at hl 2 rfl) ?_
          have h := congrArg some (Sum.inl.inj (Option.some.inj h))
          obtain ⟨h1, h2⟩ := Prod.mk.inj (Option.some.inj h)
          subst h1
          subst h2
          subst hQ
          exact r_ireti cx hr hlk hV dX9_moves_82
        · have h := ifp hc h
          refine lv_aload_n hx hb dX9_moves_66 rfl (lv_at hl 0 rfl) ?_
          refine G_X9_told cx hV mk_2_141 dX9_moves_67 ?_
          refine G_X7_crates cx hV (by decide) mk_1_54 dX9_moves_70 ?_
          refine lv_iload_n hx hb dX9_moves_73 rfl (lv_at hl 2 rfl) ?_
          refine bd_e h (fun v12 hq h => ?_)
          refine k_J6_bitCount_0f7a4 hq cx hV mk_6_27 ⟨Nat.le_of_ble_eq_true rfl, Nat.le_of_ble_eq_true rfl⟩ ⟨Nat.zero_le _, Nat.zero_le _⟩ hl.1 (Nat.le_of_ble_eq_true rfl) dX9_moves_74 (fun H locs hV => ?_)
          refine lv_isub hx hb dX9_moves_77 ?_
          refine lv_goto (tgt := 82) hx hb dX9_moves_78 (by decide) ?_
          have h := congrArg some (Sum.inl.inj (Option.some.inj h))
          obtain ⟨h1, h2⟩ := Prod.mk.inj (Option.some.inj h)
          subst h1
          subst h2
          subst hQ
          exact r_ireti cx hr hlk hV dX9_moves_82
    have hj10 : ∀ (w13 : Int32) (σ14 : St) (H : Heap) (locs : List Loc) (ls : Array Slot), x_X9_moves_b10 w13 σ14 = some (.inl (rv, σf)) → AtW E (wC E σ14 ++ X) A s H locs → lv_has ls 4 [(0, .ref (eA E 0)), (1, .int w13)] → W p l e rm_X9_moves s m a below meth c H locs 0 0 QQ (F0 m 10 ls [.ref (eA E 0)]) := by
      intro w13 σ14 H locs ls h hV hl
      unfold x_X9_moves_b10 at h
      refine lv_iconst (v := 1) hx hb dX9_moves_10 (by decide) ?_
      refine lv_goto (tgt := 15) hx hb dX9_moves_11 (by decide) ?_
      exact hj15 w13 1 σ14 _ _ _ h hV (lv_sub hl [0, 1] rfl)
    refine lv_aload_n hx hb dX9_moves_0 rfl (lv_at hl 0 rfl) ?_
    refine lv_iload_n hx hb dX9_moves_1 rfl (lv_at hl 1 rfl) ?_
    refine lv_if_eq (tgt := 10) hx hb dX9_moves_2 (by decide) (fun hc => ?_) (fun hc => ?_)
    · have h := ifp hc h
      exact hj10 p1 σ _ _ _ h hV (lv_sub hl [0, 1] rfl)
    · have h := ifn hc h
      refine lv_iload_n hx hb dX9_moves_5 rfl (lv_at hl 1 rfl) ?_
      refine lv_iconst (v := 1) hx hb dX9_moves_6 (by decide) ?_
      refine lv_icmp_ne (tgt := 14) hx hb dX9_moves_7 (by decide) (fun hc => ?_) (fun hc => ?_)
      · have h := ifn hc h
        refine lv_iconst (v := 0) hx hb dX9_moves_14 (by decide) ?_
        exact hj15 p1 0 σ _ _ _ h hV (lv_sub hl [0, 1] rfl)
      · have h := ifp hc h
        exact hj10 p1 σ _ _ _ h hV (lv_sub hl [0, 1] rfl)
  rw [hH, hlocs] at goal
  exact goal
set_option maxHeartbeats 4000000 in
set_option maxRecDepth 100000 in
theorem t_X9_moves {l : Launch} (hT : l.stackTraces = false) {E : EV} {X : va_W} {σ : St} {p1 : Int32} {nx : Nat} {σf : St} (h : x_X9_moves p1 σ = some (.inr (nx, σf))) : CXF l yX9_moves cX9_moves 4 (some .int) rmx_X9_moves [.ref (eA E 0), .int p1] E (wC E σ ++ X) (wC E σf ++ X) (exN nx) := by
  refine CXF.start (by decide) (Nat.le_of_ble_eq_true rfl) (fun p e s m a below meth c A ls cx hx0 hlk hV hF hl => ?_)
  have cx : CallFix p m c cX9_moves 4 s a TBL RX9 := cx
  have hx := cx.1
  have hb := cx.2.1
  have hl : lv_has ls 4 [(0, .ref (eA E 0)), (1, .int p1)] := hl
  generalize hQ : EX E (wC E σf ++ X) (exN nx) A s a below = QQ
  obtain ⟨H, hH⟩ : ∃ H, H = s.heap := ⟨_, rfl⟩
  obtain ⟨locs, hlocs⟩ : ∃ z, z = ([] : List Loc) := ⟨_, rfl⟩
  have hV : AtW E (wC E σ ++ X) A s H locs := by rw [hH, hlocs]; exact hV
  have goal : W p l e rmx_X9_moves s m a below meth c H locs 0 0 QQ (F0 m 0 ls []) := by
    unfold x_X9_moves at h
    have hj15 : ∀ (w1 : Int32) (w2 : Int32) (σ3 : St) (H : Heap) (locs : List Loc) (ls : Array Slot), x_X9_moves_b15 w1 w2 σ3 = some (.inr (nx, σf)) → AtW E (wC E σ3 ++ X) A s H locs → lv_has ls 4 [(0, .ref (eA E 0)), (1, .int w1)] → W p l e rmx_X9_moves s m a below meth c H locs 0 0 QQ (F0 m 15 ls [.int w2, .ref (eA E 0)]) := by
      intro w1 w2 σ3 H locs ls h hV hl
      unfold x_X9_moves_b15 at h
      refine bt_e h (fun σ4 hq h => ?_) (fun q hq h => ?_)
      rotate_left
      · have h := Sum.inr.inj h
        subst h
        subst hQ
        exact kx_X9_need hT hq cx hV hF hx0 hlk mk_3_178 ⟨Nat.le_of_ble_eq_true rfl, Nat.le_of_ble_eq_true rfl⟩ ⟨Nat.le_of_ble_eq_true rfl, Nat.le_of_ble_eq_true rfl⟩ hl.1 (Nat.le_of_ble_eq_true rfl) dX9_moves_15
      refine k_X9_need hq cx hV hF mk_3_178 ⟨Nat.le_of_ble_eq_true rfl, Nat.le_of_ble_eq_true rfl⟩ ⟨Nat.zero_le _, Nat.zero_le _⟩ hl.1 (Nat.le_of_ble_eq_true rfl) dX9_moves_15 (fun H locs hV => ?_)
      refine lv_iconst (v := 0) hx hb dX9_moves_18 (by decide) ?_
      refine lv_istore_n (lv' := [(2, .int 0), (0, .ref (eA E 0)), (1, .int w1)]) hx hb dX9_moves_19 rfl hl (by decide) rfl (fun ls hl => ?_)
      refine lv_iconst (v := 1) hx hb dX9_moves_20 (by decide) ?_
      refine lv_istore_n (lv' := [(3, .int 1), (2, .int 0), (0, .ref (eA E 0)), (1, .int w1)]) hx hb dX9_moves_21 rfl hl (by decide) rfl (fun ls hl => ?_)
      refine bd2_e h (fun z10 z11 ho h => ?_)
      refine (lp_rule (G := (fun v : (Int32 × Int32) => ∀ (H : Heap) (locs : List Loc) (ls : Array Slot), AtW E (wC E σ4 ++ X) A s H locs → lv_has ls 4 [(0, .ref (eA E 0)), (1, .int w1), (2, .int v.1), (3, .int v.2)] → W p l e rmx_X9_moves s m a below meth c H locs 0 0 QQ (F0 m 22 ls []))) (K := (fun v : (Int32 × Int32) => ∀ (H : Heap) (locs : List Loc) (ls : Array Slot), AtW E (wC E σ4 ++ X) A s H locs → lv_has ls 4 [(0, .ref (eA E 0)), (1, .int w1), (2, .int v.1)] → W p l e rmx_X9_moves s m a below meth c H locs 0 0 QQ (F0 m 62 ls []))) (fun v b1 y1 h hT1 hF1 => ?_) ho (fun H locs ls hV hl => ?_)) _ _ _ hV (lv_sub hl [2, 3, 1, 0] rfl)
      · obtain ⟨u5, u6⟩ := v
        have h : x_X9_moves_L22 w1 σ4 u5 u6 = some (b1, y1) := h
        intro H locs ls hV hl
        have hV : AtW E (wC E σ4 ++ X) A s H locs := hV
        have hl : lv_has ls 4 [(0, .ref (eA E 0)), (1, .int w1), (2, .int u5), (3, .int u6)] := hl
        unfold x_X9_moves_L22 at h
        refine lv_iload_n hx hb dX9_moves_22 rfl (lv_at hl 3 rfl) ?_
        refine lv_iconst (v := 1) hx hb dX9_moves_23 (by decide) ?_
        refine lv_aload_n hx hb dX9_moves_24 rfl (lv_at hl 0 rfl) ?_
        refine G_X9_told cx hV mk_2_141 dX9_moves_25 ?_
        refine G_X7_crates cx hV (by decide) mk_1_54 dX9_moves_28 ?_
        refine lv_ishl hx hb dX9_moves_31 ?_
        refine lv_icmp_ge (tgt := 62) hx hb dX9_moves_32 (by decide) (fun hc => ?_) (fun hc => ?_)
        · have h := ifp hc h
          cases h
          exact hF1 rfl _ _ _ hV (lv_sub hl [0, 1, 2] rfl)
        · have h := ifn hc h
          refine lv_iload_n hx hb dX9_moves_35 rfl (lv_at hl 3 rfl) ?_
          refine bd_e h (fun v7 hq h => ?_)
          refine k_J6_bitCount_0f7a4 hq cx hV mk_6_27 ⟨Nat.le_of_ble_eq_true rfl, Nat.le_of_ble_eq_true rfl⟩ ⟨Nat.zero_le _, Nat.zero_le _⟩ hl.1 (Nat.le_of_ble_eq_true rfl) dX9_moves_36 (fun H locs hV => ?_)
          refine lv_iload_n hx hb dX9_moves_39 rfl (lv_at hl 2 rfl) ?_
          refine bd_e h (fun v8 hq h => ?_)
          refine k_J6_bitCount_0f7a4 hq cx hV mk_6_27 ⟨Nat.le_of_ble_eq_true rfl, Nat.le_of_ble_eq_true rfl⟩ ⟨Nat.zero_le _, Nat.zero_le _⟩ hl.1 (Nat.le_of_ble_eq_true rfl) dX9_moves_40 (fun H locs hV => ?_)
          refine lv_icmp_le (tgt := 56) hx hb dX9_moves_43 (by decide) (fun hc => ?_) (fun hc => ?_)
          · have h := ifp hc h
            refine lv_iinc (v := (u6 + 1)) (lv' := [(3, .int (u6 + 1)), (0, .ref (eA E 0)), (1, .int w1), (2, .int u5)]) hx hb dX9_moves_56 hl (k := 3) rfl rfl (by decide) rfl (fun ls hl => ?_)
            refine lv_goto (tgt := 22) hx hb dX9_moves_59 (by decide) ?_
            cases h
            exact hT1 rfl _ _ _ hV (lv_sub hl [1, 2, 3, 0] rfl)
          · have h := ifn hc h
            refine lv_aload_n hx hb dX9_moves_46 rfl (lv_at hl 0 rfl) ?_
            refine lv_iload_n hx hb dX9_moves_47 rfl (lv_at hl 3 rfl) ?_
            refine bd_e h (fun v9 hq h => ?_)
            refine k_X9_standByNumber hq cx hV mk_6_33 ⟨Nat.le_of_ble_eq_true rfl, Nat.le_of_ble_eq_true rfl⟩ ⟨Nat.zero_le _, Nat.zero_le _⟩ hl.1 (Nat.le_of_ble_eq_true rfl) dX9_moves_48 (fun H locs hV => ?_)
            refine lv_if_eq (tgt := 56) hx hb dX9_moves_51 (by decide) (fun hc => ?_) (fun hc => ?_)
            · have h := ifp hc h
              refine lv_iinc (v := (u6 + 1)) (lv' := [(3, .int (u6 + 1)), (0, .ref (eA E 0)), (1, .int w1), (2, .int u5)]) hx hb dX9_moves_56 hl (k := 3) rfl rfl (by decide) rfl (fun ls hl => ?_)
              refine lv_goto (tgt := 22) hx hb dX9_moves_59 (by decide) ?_
              cases h
              exact hT1 rfl _ _ _ hV (lv_sub hl [1, 2, 3, 0] rfl)
            · have h := ifn hc h
              refine lv_iload_n hx hb dX9_moves_54 rfl (lv_at hl 3 rfl) ?_
              refine lv_istore_n (lv' := [(2, .int u6), (0, .ref (eA E 0)), (1, .int w1), (3, .int u6)]) hx hb dX9_moves_55 rfl hl (by decide) rfl (fun ls hl => ?_)
              refine lv_iinc (v := (u6 + 1)) (lv' := [(3, .int (u6 + 1)), (2, .int u6), (0, .ref (eA E 0)), (1, .int w1)]) hx hb dX9_moves_56 hl (k := 3) rfl rfl (by decide) rfl (fun ls hl => ?_)
              refine lv_goto (tgt := 22) hx hb dX9_moves_59 (by decide) ?_
              cases h
              exact hT1 rfl _ _ _ hV (lv_sub hl [2, 3, 1, 0] rfl)
      · have hV : AtW E (wC E σ4 ++ X) A s H locs := hV
        have hl : lv_has ls 4 [(0, .ref (eA E 0)), (1, .int w1), (2, .int z10)] := hl
        refine lv_iload_n hx hb dX9_moves_62 rfl (lv_at hl 1 rfl) ?_
        refine lv_if_ne (tgt := 81) hx hb dX9_moves_63 (by decide) (fun hc => ?_) (fun hc => ?_)
        · have h := ifn hc h
          refine lv_iload_n hx hb dX9_moves_81 rfl (lv_at hl 2 rfl) ?_
          exact (inlr h).elim
        · have h := ifp hc h
          refine lv_aload_n hx hb dX9_moves_66 rfl (lv_at hl 0 rfl) ?_
          refine G_X9_told cx hV mk_2_141 dX9_moves_67 ?_
          refine G_X7_crates cx hV (by decide) mk_1_54 dX9_moves_70 ?_
          refine lv_iload_n hx hb dX9_moves_73 rfl (lv_at hl 2 rfl) ?_
          refine bd_e h (fun v12 hq h => ?_)
          refine k_J6_bitCount_0f7a4 hq cx hV mk_6_27 ⟨Nat.le_of_ble_eq_true rfl, Nat.le_of_ble_eq_true rfl⟩ ⟨Nat.zero_le _, Nat.zero_le _⟩ hl.1 (Nat.le_of_ble_eq_true rfl) dX9_moves_74 (fun H locs hV => ?_)
          refine lv_isub hx hb dX9_moves_77 ?_
          refine lv_goto (tgt := 82) hx hb dX9_moves_78 (by decide) ?_
          exact (inlr h).elim
    have hj10 : ∀ (w13 : Int32) (σ14 : St) (H : Heap) (locs : List Loc) (ls : Array Slot), x_X9_moves_b10 w13 σ14 = some (.inr (nx, σf)) → AtW E (wC E σ14 ++ X) A s H locs → lv_has ls 4 [(0, .ref (eA E 0)), (1, .int w13)] → W p l e rmx_X9_moves s m a below meth c H locs 0 0 QQ (F0 m 10 ls [.ref (eA E 0)]) := by
      intro w13 σ14 H locs ls h hV hl
      unfold x_X9_moves_b10 at h
      refine lv_iconst (v := 1) hx hb dX9_moves_10 (by decide) ?_
      refine lv_goto (tgt := 15) hx hb dX9_moves_11 (by decide) ?_
      exact hj15 w13 1 σ14 _ _ _ h hV (lv_sub hl [0, 1] rfl)
    refine lv_aload_n hx hb dX9_moves_0 rfl (lv_at hl 0 rfl) ?_
    refine lv_iload_n hx hb dX9_moves_1 rfl (lv_at hl 1 rfl) ?_
    refine lv_if_eq (tgt := 10) hx hb dX9_moves_2 (by decide) (fun hc => ?_) (fun hc => ?_)
    · have h := ifp hc h
      exact hj10 p1 σ _ _ _ h hV (lv_sub hl [0, 1] rfl)
    · have h := ifn hc h
      refine lv_iload_n hx hb dX9_moves_5 rfl (lv_at hl 1 rfl) ?_
      refine lv_iconst (v := 1) hx hb dX9_moves_6 (by decide) ?_
      refine lv_icmp_ne (tgt := 14) hx hb dX9_moves_7 (by decide) (fun hc => ?_) (fun hc => ?_)
      · have h := ifn hc h
        refine lv_iconst (v := 0) hx hb dX9_moves_14 (by decide) ?_
        exact hj15 p1 0 σ _ _ _ h hV (lv_sub hl [0, 1] rfl)
      · have h := ifp hc h
        exact hj10 p1 σ _ _ _ h hV (lv_sub hl [0, 1] rfl)
  rw [hH, hlocs] at goal
  exact goal
theorem k_X9_moves {p : Program} {l : Launch} {e : Env} {R : Room} {s : State} {m : MethodId} {a : Array Value} {below : List Frame} {meth : Method} {c : Code} {H : Heap} {locs : List Loc} {cells slots : Nat} {Q : State → Prop} {cc : ByteArray} {own : String} {nL pc : Nat} {ls : Array Slot} {rest : List Value} {A : Nat → Prop} {E : EV} {X : va_W} {σ : St} {p1 : Int32} {rv : Int32} {σf : St} (h : x_X9_moves p1 σ = some (.inl (rv, σf))) (cx : CallFix p m c cc nL s a TBL own) (hV : AtW E (wC E σ ++ X) A s H locs) (hF : FZ E A s s.heap) {idx : Nat} (w1 : Cond.methodLink own idx yX9_moves ∈ TBL) (hR : (rm_X9_moves).frames + 1 ≤ R.frames ∧ 8 + (4 + 11) + (rm_X9_moves).locals ≤ R.locals) (hcs : cells ≤ R.cells ∧ slots ≤ R.slots) (hls : ls.size = nL) (hcat : (rest.map fun v => v.category).sum ≤ 8) (d : decode cc pc = .ok (.invokevirtual idx, 3)) (kk : ∀ (H1 : Heap) (locs1 : List Loc), AtW E (wC E σf ++ X) A s H1 locs1 → W p l e R s m a below meth c H1 locs1 cells slots Q (F0 m (pc + 3) ls (.int rv :: rest))) : W p l e R s m a below meth c H locs cells slots Q (F0 m pc ls (.int p1 :: .ref (eA E 0) :: rest)) :=
  r_callFi (n := 1) (As := [.int p1]) (q0 := 0) (ci := 9) (qq := (RX9, TX9, 14)) (c_X9_moves h) wC_fst rfl rfl mk_6_24 mk_6_25 mk_1_1 mk_6_26 (by decide +kernel) rfl ⟨rfl, rfl⟩ cx hV hF w1 hR hcs hls rfl hcat d kk
theorem kx_X9_moves {p : Program} {l : Launch} {e : Env} {R : Room} {s : State} {m : MethodId} {a : Array Value} {below : List Frame} {meth : Method} {c : Code} {H : Heap} {locs : List Loc} {cc : ByteArray} {own : String} {nL pc : Nat} {ls : Array Slot} {rest : List Value} {A : Nat → Prop} {E : EV} {X : va_W} {σ : St} {p1 : Int32} (hT : l.stackTraces = false) {nx : Nat} {σf : St} (h : x_X9_moves p1 σ = some (.inr (nx, σf))) (cx : CallFix p m c cc nL s a TBL own) (hV : AtW E (wC E σ ++ X) A s H locs) (hF : FZ E A s s.heap) (hx0 : ∀ x ∈ c.exceptionTable.toList, False) (hlk : meth.locks = false) {idx : Nat} (w1 : Cond.methodLink own idx yX9_moves ∈ TBL) (hR : (rmx_X9_moves).frames + 1 ≤ R.frames ∧ 8 + (4 + 11) + (rmx_X9_moves).locals ≤ R.locals) (hcs : 1 ≤ R.cells ∧ 6 ≤ R.slots) (hls : ls.size = nL) (hcat : (rest.map fun v => v.category).sum ≤ 8) (d : decode cc pc = .ok (.invokevirtual idx, 3)) : W p l e R s m a below meth c H locs 0 0 (EX E (wC E σf ++ X) (exN nx) A s a below) (F0 m pc ls (.int p1 :: .ref (eA E 0) :: rest)) :=
  r_callx (n := 1) (As := [.int p1]) (q0 := 0) (ci := 9) (qq := (RX9, TX9, 14)) (t_X9_moves hT h) rfl rfl mk_6_24 mk_6_25 mk_1_1 mk_6_26 (by decide +kernel) rfl ⟨rfl, rfl⟩ cx hV hF hx0 hlk w1 hR hcs hls rfl hcat d
def x_X9_rests_b97 (w1 : Int32) (w2 : Int32) (w3 : Int32) (w4 : Int32) (w5 : Int32) (w6 : Int32) (σ7 : St) : Option ((Int32 × St) ⊕ (Nat × St)) :=
  bt (x_X9_need w6 σ7) fun σ8 =>
  bd (x_X4_begin w1 w2 w3 w4 σ8) fun σ9 =>
  bd (x_X4_findRests σ9) fun σ10 =>
  (if w5 = 0 then
  some (.inl ((gI σ10 24), σ10))
  else
  some (.inl ((gI σ10 25), σ10)))
def x_X9_rests_b92 (w11 : Int32) (w12 : Int32) (w13 : Int32) (w14 : Int32) (w15 : Int32) (σ16 : St) : Option ((Int32 × St) ⊕ (Nat × St)) :=
  x_X9_rests_b97 w11 w12 w13 w14 w15 1 σ16
def x_X9_rests_b77 (w17 : Int32) (w18 : Int32) (w19 : Int32) (w20 : Int32) (w21 : Int32) (w22 : Int32) (σ23 : St) : Option ((Int32 × St) ⊕ (Nat × St)) :=
  bt (x_X9_need w22 σ23) fun σ24 =>
  (if w21 = 0 then
  x_X9_rests_b92 w17 w18 w19 w20 w21 σ24
  else
  (if w21 = 1 then
  x_X9_rests_b92 w17 w18 w19 w20 w21 σ24
  else
  x_X9_rests_b97 w17 w18 w19 w20 w21 0 σ24))
def x_X9_rests_b76 (w25 : Int32) (w26 : Int32) (w27 : Int32) (w28 : Int32) (w29 : Int32) (σ30 : St) : Option ((Int32 × St) ⊕ (Nat × St)) :=
  x_X9_rests_b77 w25 w26 w27 w28 w29 0 σ30
def x_X9_rests_b54 (w31 : Int32) (w32 : Int32) (w33 : Int32) (w34 : Int32) (w35 : Int32) (w36 : Int32) (σ37 : St) : Option ((Int32 × St) ⊕ (Nat × St)) :=
  bt (x_X9_need w36 σ37) fun σ38 =>
  (if w34 < 1 then
  x_X9_rests_b76 w31 w32 w33 w34 w35 σ38
  else
  (if 999 < w34 then
  x_X9_rests_b76 w31 w32 w33 w34 w35 σ38
  else
  x_X9_rests_b77 w31 w32 w33 w34 w35 1 σ38))
def x_X9_rests_b53 (w39 : Int32) (w40 : Int32) (w41 : Int32) (w42 : Int32) (w43 : Int32) (σ44 : St) : Option ((Int32 × St) ⊕ (Nat × St)) :=
  x_X9_rests_b54 w39 w40 w41 w42 w43 0 σ44
def x_X9_rests_b35 (w45 : Int32) (w46 : Int32) (w47 : Int32) (w48 : Int32) (w49 : Int32) (w50 : Int32) (σ51 : St) : Option ((Int32 × St) ⊕ (Nat × St)) :=
  bt (x_X9_need w50 σ51) fun σ52 =>
  (if w47 < 0 then
  x_X9_rests_b53 w45 w46 w47 w48 w49 σ52
  else
  (if 99 < w47 then
  x_X9_rests_b53 w45 w46 w47 w48 w49 σ52
  else
  x_X9_rests_b54 w45 w46 w47 w48 w49 1 σ52))
def x_X9_rests_b34 (w53 : Int32) (w54 : Int32) (w55 : Int32) (w56 : Int32) (w57 : Int32) (σ58 : St) : Option ((Int32 × St) ⊕ (Nat × St)) :=
  x_X9_rests_b35 w53 w54 w55 w56 w57 0 σ58
def x_X9_rests_b16 (w59 : Int32) (w60 : Int32) (w61 : Int32) (w62 : Int32) (w63 : Int32) (w64 : Int32) (σ65 : St) : Option ((Int32 × St) ⊕ (Nat × St)) :=
  bt (x_X9_need w64 σ65) fun σ66 =>
  (if w60 < 2 then
  x_X9_rests_b34 w59 w60 w61 w62 w63 σ66
  else
  (if 4 < w60 then
  x_X9_rests_b34 w59 w60 w61 w62 w63 σ66
  else
  x_X9_rests_b35 w59 w60 w61 w62 w63 1 σ66))
def x_X9_rests_b15 (w67 : Int32) (w68 : Int32) (w69 : Int32) (w70 : Int32) (w71 : Int32) (σ72 : St) : Option ((Int32 × St) ⊕ (Nat × St)) :=
  x_X9_rests_b16 w67 w68 w69 w70 w71 0 σ72
def x_X9_rests (p1 : Int32) (p2 : Int32) (p3 : Int32) (p4 : Int32) (p5 : Int32) (σ : St) : Option ((Int32 × St) ⊕ (Nat × St)) :=
  (if p1 < 2 then
  x_X9_rests_b15 p1 p2 p3 p4 p5 σ
  else
  (if 4 < p1 then
  x_X9_rests_b15 p1 p2 p3 p4 p5 σ
  else
  x_X9_rests_b16 p1 p2 p3 p4 p5 1 σ))
abbrev rm_X9_rests : Room := { frames := 5, cells := 0, slots := 0, locals := 113 }
abbrev rmx_X9_rests : Room := { frames := 7, cells := 1, slots := 6, locals := 113 }
set_option maxHeartbeats 4000000 in
set_option maxRecDepth 100000 in
theorem c_X9_rests {l : Launch} {E : EV} {X : va_W} {σ : St} {p1 : Int32} {p2 : Int32} {p3 : Int32} {p4 : Int32} {p5 : Int32} {rv : Int32} {σf : St} (h : x_X9_rests p1 p2 p3 p4 p5 σ = some (.inl (rv, σf))) : CMF l yX9_rests cX9_rests 6 (some .int) rm_X9_rests [.ref (eA E 0), .int p1, .int p2, .int p3, .int p4, .int p5] E (wC E σ ++ X) (wC E σf ++ X) (qI rv) := by
  refine CMF.start (by decide) (Nat.le_of_ble_eq_true rfl) (fun p e s m a below meth c A ls cx hr hlk hV hF hl => ?_)
  have cx : CallFix p m c cX9_rests 6 s a TBL RX9 := cx
  have hx := cx.1
  have hb := cx.2.1
  have hl : lv_has ls 6 [(0, .ref (eA E 0)), (1, .int p1), (2, .int p2), (3, .int p3), (4, .int p4), (5, .int p5)] := hl
  generalize hQ : EQ E (wC E σf ++ X) (qI rv) A s a below = QQ
  obtain ⟨H, hH⟩ : ∃ H, H = s.heap := ⟨_, rfl⟩
  obtain ⟨locs, hlocs⟩ : ∃ z, z = ([] : List Loc) := ⟨_, rfl⟩
  have hV : AtW E (wC E σ ++ X) A s H locs := by rw [hH, hlocs]; exact hV
  have goal : W p l e rm_X9_rests s m a below meth c H locs 0 0 QQ (F0 m 0 ls []) := by
    unfold x_X9_rests at h
    have hj97 : ∀ (w1 : Int32) (w2 : Int32) (w3 : Int32) (w4 : Int32) (w5 : Int32) (w6 : Int32) (σ7 : St) (H : Heap) (locs : List Loc) (ls : Array Slot), x_X9_rests_b97 w1 w2 w3 w4 w5 w6 σ7 = some (.inl (rv, σf)) → AtW E (wC E σ7 ++ X) A s H locs → lv_has ls 6 [(0, .ref (eA E 0)), (1, .int w1), (2, .int w2), (3, .int w3), (4, .int w4), (5, .int w5)] → W p l e rm_X9_rests s m a below meth c H locs 0 0 QQ (F0 m 97 ls [.int w6, .ref (eA E 0)]) := by
      intro w1 w2 w3 w4 w5 w6 σ7 H locs ls h hV hl
      unfold x_X9_rests_b97 at h
      refine bt_e h (fun σ8 hq h => ?_) (fun q hq h => ?_)
      rotate_left
      · exact (inrl' h).elim
      refine k_X9_need hq cx hV hF mk_3_178 ⟨Nat.le_of_ble_eq_true rfl, Nat.le_of_ble_eq_true rfl⟩ ⟨Nat.zero_le _, Nat.zero_le _⟩ hl.1 (Nat.le_of_ble_eq_true rfl) dX9_rests_97 (fun H locs hV => ?_)
      refine lv_aload_n hx hb dX9_rests_100 rfl (lv_at hl 0 rfl) ?_
      refine G_X9_rising cx hV mk_2_151 dX9_rests_101 ?_
      refine lv_iload_n hx hb dX9_rests_104 rfl (lv_at hl 1 rfl) ?_
      refine lv_iload_n hx hb dX9_rests_105 rfl (lv_at hl 2 rfl) ?_
      refine lv_iload_n hx hb dX9_rests_106 rfl (lv_at hl 3 rfl) ?_
      refine lv_iload hx hb dX9_rests_107 (lv_at hl 4 rfl) ?_
      refine bd_e h (fun σ9 hq h => ?_)
      refine k_X4_begin hq cx hV mk_6_45 ⟨Nat.le_of_ble_eq_true rfl, Nat.le_of_ble_eq_true rfl⟩ ⟨Nat.zero_le _, Nat.zero_le _⟩ hl.1 (Nat.le_of_ble_eq_true rfl) dX9_rests_109 (fun H locs hV => ?_)
      refine lv_aload_n hx hb dX9_rests_112 rfl (lv_at hl 0 rfl) ?_
      refine G_X9_rising cx hV mk_2_151 dX9_rests_113 ?_
      refine bd_e h (fun σ10 hq h => ?_)
      refine k_X4_findRests hq cx hV mk_6_49 ⟨Nat.le_of_ble_eq_true rfl, Nat.le_of_ble_eq_true rfl⟩ ⟨Nat.zero_le _, Nat.zero_le _⟩ hl.1 (Nat.le_of_ble_eq_true rfl) dX9_rests_116 (fun H locs hV => ?_)
      refine lv_iload hx hb dX9_rests_119 (lv_at hl 5 rfl) ?_
      refine lv_if_ne (tgt := 134) hx hb dX9_rests_121 (by decide) (fun hc => ?_) (fun hc => ?_)
      · have h := ifn hc h
        refine lv_aload_n hx hb dX9_rests_134 rfl (lv_at hl 0 rfl) ?_
        refine G_X9_rising cx hV mk_2_151 dX9_rests_135 ?_
        refine G_X4_first cx hV mk_2_88 dX9_rests_138 ?_
        have h := congrArg some (Sum.inl.inj (Option.some.inj h))
        obtain ⟨h1, h2⟩ := Prod.mk.inj (Option.some.inj h)
        subst h1
        subst h2
        subst hQ
        exact r_ireti cx hr hlk hV dX9_rests_141
      · have h := ifp hc h
        refine lv_aload_n hx hb dX9_rests_124 rfl (lv_at hl 0 rfl) ?_
        refine G_X9_rising cx hV mk_2_151 dX9_rests_125 ?_
        refine G_X4_rests cx hV mk_2_86 dX9_rests_128 ?_
        refine lv_goto (tgt := 141) hx hb dX9_rests_131 (by decide) ?_
        have h := congrArg some (Sum.inl.inj (Option.some.inj h))
        obtain ⟨h1, h2⟩ := Prod.mk.inj (Option.some.inj h)
        subst h1
        subst h2
        subst hQ
        exact r_ireti cx hr hlk hV dX9_rests_141
    have hj92 : ∀ (w11 : Int32) (w12 : Int32) (w13 : Int32) (w14 : Int32) (w15 : Int32) (σ16 : St) (H : Heap) (locs : List Loc) (ls : Array Slot), x_X9_rests_b92 w11 w12 w13 w14 w15 σ16 = some (.inl (rv, σf)) → AtW E (wC E σ16 ++ X) A s H locs → lv_has ls 6 [(0, .ref (eA E 0)), (1, .int w11), (2, .int w12), (3, .int w13), (4, .int w14), (5, .int w15)] → W p l e rm_X9_rests s m a below meth c H locs 0 0 QQ (F0 m 92 ls [.ref (eA E 0)]) := by
      intro w11 w12 w13 w14 w15 σ16 H locs ls h hV hl
      unfold x_X9_rests_b92 at h
      refine lv_iconst (v := 1) hx hb dX9_rests_92 (by decide) ?_
      refine lv_goto (tgt := 97) hx hb dX9_rests_93 (by decide) ?_
      exact hj97 w11 w12 w13 w14 w15 1 σ16 _ _ _ h hV (lv_sub hl [0, 1, 2, 3, 4, 5] rfl)
    have hj77 : ∀ (w17 : Int32) (w18 : Int32) (w19 : Int32) (w20 : Int32) (w21 : Int32) (w22 : Int32) (σ23 : St) (H : Heap) (locs : List Loc) (ls : Array Slot), x_X9_rests_b77 w17 w18 w19 w20 w21 w22 σ23 = some (.inl (rv, σf)) → AtW E (wC E σ23 ++ X) A s H locs → lv_has ls 6 [(0, .ref (eA E 0)), (1, .int w17), (2, .int w18), (3, .int w19), (4, .int w20), (5, .int w21)] → W p l e rm_X9_rests s m a below meth c H locs 0 0 QQ (F0 m 77 ls [.int w22, .ref (eA E 0)]) := by
      intro w17 w18 w19 w20 w21 w22 σ23 H locs ls h hV hl
      unfold x_X9_rests_b77 at h
      refine bt_e h (fun σ24 hq h => ?_) (fun q hq h => ?_)
      rotate_left
      · exact (inrl' h).elim
      refine k_X9_need hq cx hV hF mk_3_178 ⟨Nat.le_of_ble_eq_true rfl, Nat.le_of_ble_eq_true rfl⟩ ⟨Nat.zero_le _, Nat.zero_le _⟩ hl.1 (Nat.le_of_ble_eq_true rfl) dX9_rests_77 (fun H locs hV => ?_)
      refine lv_aload_n hx hb dX9_rests_80 rfl (lv_at hl 0 rfl) ?_
      refine lv_iload hx hb dX9_rests_81 (lv_at hl 5 rfl) ?_
      refine lv_if_eq (tgt := 92) hx hb dX9_rests_83 (by decide) (fun hc => ?_) (fun hc => ?_)
      · have h := ifp hc h
        exact hj92 w17 w18 w19 w20 w21 σ24 _ _ _ h hV (lv_sub hl [0, 1, 2, 3, 4, 5] rfl)
      · have h := ifn hc h
        refine lv_iload hx hb dX9_rests_86 (lv_at hl 5 rfl) ?_
        refine lv_iconst (v := 1) hx hb dX9_rests_88 (by decide) ?_
        refine lv_icmp_ne (tgt := 96) hx hb dX9_rests_89 (by decide) (fun hc => ?_) (fun hc => ?_)
        · have h := ifn hc h
          refine lv_iconst (v := 0) hx hb dX9_rests_96 (by decide) ?_
          exact hj97 w17 w18 w19 w20 w21 0 σ24 _ _ _ h hV (lv_sub hl [0, 1, 2, 3, 4, 5] rfl)
        · have h := ifp hc h
          exact hj92 w17 w18 w19 w20 w21 σ24 _ _ _ h hV (lv_sub hl [0, 1, 2, 3, 4, 5] rfl)
    have hj76 : ∀ (w25 : Int32) (w26 : Int32) (w27 : Int32) (w28 : Int32) (w29 : Int32) (σ30 : St) (H : Heap) (locs : List Loc) (ls : Array Slot), x_X9_rests_b76 w25 w26 w27 w28 w29 σ30 = some (.inl (rv, σf)) → AtW E (wC E σ30 ++ X) A s H locs → lv_has ls 6 [(0, .ref (eA E 0)), (1, .int w25), (2, .int w26), (3, .int w27), (4, .int w28), (5, .int w29)] → W p l e rm_X9_rests s m a below meth c H locs 0 0 QQ (F0 m 76 ls [.ref (eA E 0)]) := by
      intro w25 w26 w27 w28 w29 σ30 H locs ls h hV hl
      unfold x_X9_rests_b76 at h
      refine lv_iconst (v := 0) hx hb dX9_rests_76 (by decide) ?_
      exact hj77 w25 w26 w27 w28 w29 0 σ30 _ _ _ h hV (lv_sub hl [0, 1, 2, 3, 4, 5] rfl)
    have hj54 : ∀ (w31 : Int32) (w32 : Int32) (w33 : Int32) (w34 : Int32) (w35 : Int32) (w36 : Int32) (σ37 : St) (H : Heap) (locs : List Loc) (ls : Array Slot), x_X9_rests_b54 w31 w32 w33 w34 w35 w36 σ37 = some (.inl (rv, σf)) → AtW E (wC E σ37 ++ X) A s H locs → lv_has ls 6 [(0, .ref (eA E 0)), (1, .int w31), (2, .int w32), (3, .int w33), (4, .int w34), (5, .int w35)] → W p l e rm_X9_rests s m a below meth c H locs 0 0 QQ (F0 m 54 ls [.int w36, .ref (eA E 0)]) := by
      intro w31 w32 w33 w34 w35 w36 σ37 H locs ls h hV hl
      unfold x_X9_rests_b54 at h
      refine bt_e h (fun σ38 hq h => ?_) (fun q hq h => ?_)
      rotate_left
      · exact (inrl' h).elim
      refine k_X9_need hq cx hV hF mk_3_178 ⟨Nat.le_of_ble_eq_true rfl, Nat.le_of_ble_eq_true rfl⟩ ⟨Nat.zero_le _, Nat.zero_le _⟩ hl.1 (Nat.le_of_ble_eq_true rfl) dX9_rests_54 (fun H locs hV => ?_)
      refine lv_aload_n hx hb dX9_rests_57 rfl (lv_at hl 0 rfl) ?_
      refine lv_iload hx hb dX9_rests_58 (lv_at hl 4 rfl) ?_
      refine lv_iconst (v := 1) hx hb dX9_rests_60 (by decide) ?_
      refine lv_icmp_lt (tgt := 76) hx hb dX9_rests_61 (by decide) (fun hc => ?_) (fun hc => ?_)
      · have h := ifp hc h
        exact hj76 w31 w32 w33 w34 w35 σ38 _ _ _ h hV (lv_sub hl [0, 1, 2, 3, 4, 5] rfl)
      · have h := ifn hc h
        refine lv_iload hx hb dX9_rests_64 (lv_at hl 4 rfl) ?_
        refine lv_sipush (v := 999) hx hb dX9_rests_66 (by decide) ?_
        refine lv_icmp_gt (tgt := 76) hx hb dX9_rests_69 (by decide) (fun hc => ?_) (fun hc => ?_)
        · have h := ifp hc h
          exact hj76 w31 w32 w33 w34 w35 σ38 _ _ _ h hV (lv_sub hl [0, 1, 2, 3, 4, 5] rfl)
        · have h := ifn hc h
          refine lv_iconst (v := 1) hx hb dX9_rests_72 (by decide) ?_
          refine lv_goto (tgt := 77) hx hb dX9_rests_73 (by decide) ?_
          exact hj77 w31 w32 w33 w34 w35 1 σ38 _ _ _ h hV (lv_sub hl [0, 1, 2, 3, 4, 5] rfl)
    have hj53 : ∀ (w39 : Int32) (w40 : Int32) (w41 : Int32) (w42 : Int32) (w43 : Int32) (σ44 : St) (H : Heap) (locs : List Loc) (ls : Array Slot), x_X9_rests_b53 w39 w40 w41 w42 w43 σ44 = some (.inl (rv, σf)) → AtW E (wC E σ44 ++ X) A s H locs → lv_has ls 6 [(0, .ref (eA E 0)), (1, .int w39), (2, .int w40), (3, .int w41), (4, .int w42), (5, .int w43)] → W p l e rm_X9_rests s m a below meth c H locs 0 0 QQ (F0 m 53 ls [.ref (eA E 0)]) := by
      intro w39 w40 w41 w42 w43 σ44 H locs ls h hV hl
      unfold x_X9_rests_b53 at h
      refine lv_iconst (v := 0) hx hb dX9_rests_53 (by decide) ?_
      exact hj54 w39 w40 w41 w42 w43 0 σ44 _ _ _ h hV (lv_sub hl [0, 1, 2, 3, 4, 5] rfl)
    have hj35 : ∀ (w45 : Int32) (w46 : Int32) (w47 : Int32) (w48 : Int32) (w49 : Int32) (w50 : Int32) (σ51 : St) (H : Heap) (locs : List Loc) (ls : Array Slot), x_X9_rests_b35 w45 w46 w47 w48 w49 w50 σ51 = some (.inl (rv, σf)) → AtW E (wC E σ51 ++ X) A s H locs → lv_has ls 6 [(0, .ref (eA E 0)), (1, .int w45), (2, .int w46), (3, .int w47), (4, .int w48), (5, .int w49)] → W p l e rm_X9_rests s m a below meth c H locs 0 0 QQ (F0 m 35 ls [.int w50, .ref (eA E 0)]) := by
      intro w45 w46 w47 w48 w49 w50 σ51 H locs ls h hV hl
      unfold x_X9_rests_b35 at h
      refine bt_e h (fun σ52 hq h => ?_) (fun q hq h => ?_)
      rotate_left
      · exact (inrl' h).elim
      refine k_X9_need hq cx hV hF mk_3_178 ⟨Nat.le_of_ble_eq_true rfl, Nat.le_of_ble_eq_true rfl⟩ ⟨Nat.zero_le _, Nat.zero_le _⟩ hl.1 (Nat.le_of_ble_eq_true rfl) dX9_rests_35 (fun H locs hV => ?_)
      refine lv_aload_n hx hb dX9_rests_38 rfl (lv_at hl 0 rfl) ?_
      refine lv_iload_n hx hb dX9_rests_39 rfl (lv_at hl 3 rfl) ?_
      refine lv_if_lt (tgt := 53) hx hb dX9_rests_40 (by decide) (fun hc => ?_) (fun hc => ?_)
      · have h := ifp hc h
        exact hj53 w45 w46 w47 w48 w49 σ52 _ _ _ h hV (lv_sub hl [0, 1, 2, 3, 4, 5] rfl)
      · have h := ifn hc h
        refine lv_iload_n hx hb dX9_rests_43 rfl (lv_at hl 3 rfl) ?_
        refine lv_bipush (v := 99) hx hb dX9_rests_44 (by decide) ?_
        refine lv_icmp_gt (tgt := 53) hx hb dX9_rests_46 (by decide) (fun hc => ?_) (fun hc => ?_)
        · have h := ifp hc h
          exact hj53 w45 w46 w47 w48 w49 σ52 _ _ _ h hV (lv_sub hl [0, 1, 2, 3, 4, 5] rfl)
        · have h := ifn hc h
          refine lv_iconst (v := 1) hx hb dX9_rests_49 (by decide) ?_
          refine lv_goto (tgt := 54) hx hb dX9_rests_50 (by decide) ?_
          exact hj54 w45 w46 w47 w48 w49 1 σ52 _ _ _ h hV (lv_sub hl [0, 1, 2, 3, 4, 5] rfl)
    have hj34 : ∀ (w53 : Int32) (w54 : Int32) (w55 : Int32) (w56 : Int32) (w57 : Int32) (σ58 : St) (H : Heap) (locs : List Loc) (ls : Array Slot), x_X9_rests_b34 w53 w54 w55 w56 w57 σ58 = some (.inl (rv, σf)) → AtW E (wC E σ58 ++ X) A s H locs → lv_has ls 6 [(0, .ref (eA E 0)), (1, .int w53), (2, .int w54), (3, .int w55), (4, .int w56), (5, .int w57)] → W p l e rm_X9_rests s m a below meth c H locs 0 0 QQ (F0 m 34 ls [.ref (eA E 0)]) := by
      intro w53 w54 w55 w56 w57 σ58 H locs ls h hV hl
      unfold x_X9_rests_b34 at h
      refine lv_iconst (v := 0) hx hb dX9_rests_34 (by decide) ?_
      exact hj35 w53 w54 w55 w56 w57 0 σ58 _ _ _ h hV (lv_sub hl [0, 1, 2, 3, 4, 5] rfl)
    have hj16 : ∀ (w59 : Int32) (w60 : Int32) (w61 : Int32) (w62 : Int32) (w63 : Int32) (w64 : Int32) (σ65 : St) (H : Heap) (locs : List Loc) (ls : Array Slot), x_X9_rests_b16 w59 w60 w61 w62 w63 w64 σ65 = some (.inl (rv, σf)) → AtW E (wC E σ65 ++ X) A s H locs → lv_has ls 6 [(0, .ref (eA E 0)), (1, .int w59), (2, .int w60), (3, .int w61), (4, .int w62), (5, .int w63)] → W p l e rm_X9_rests s m a below meth c H locs 0 0 QQ (F0 m 16 ls [.int w64, .ref (eA E 0)]) := by
      intro w59 w60 w61 w62 w63 w64 σ65 H locs ls h hV hl
      unfold x_X9_rests_b16 at h
      refine bt_e h (fun σ66 hq h => ?_) (fun q hq h => ?_)
      rotate_left
      · exact (inrl' h).elim
      refine k_X9_need hq cx hV hF mk_3_178 ⟨Nat.le_of_ble_eq_true rfl, Nat.le_of_ble_eq_true rfl⟩ ⟨Nat.zero_le _, Nat.zero_le _⟩ hl.1 (Nat.le_of_ble_eq_true rfl) dX9_rests_16 (fun H locs hV => ?_)
      refine lv_aload_n hx hb dX9_rests_19 rfl (lv_at hl 0 rfl) ?_
      refine lv_iload_n hx hb dX9_rests_20 rfl (lv_at hl 2 rfl) ?_
      refine lv_iconst (v := 2) hx hb dX9_rests_21 (by decide) ?_
      refine lv_icmp_lt (tgt := 34) hx hb dX9_rests_22 (by decide) (fun hc => ?_) (fun hc => ?_)
      · have h := ifp hc h
        exact hj34 w59 w60 w61 w62 w63 σ66 _ _ _ h hV (lv_sub hl [0, 1, 2, 3, 4, 5] rfl)
      · have h := ifn hc h
        refine lv_iload_n hx hb dX9_rests_25 rfl (lv_at hl 2 rfl) ?_
        refine lv_iconst (v := 4) hx hb dX9_rests_26 (by decide) ?_
        refine lv_icmp_gt (tgt := 34) hx hb dX9_rests_27 (by decide) (fun hc => ?_) (fun hc => ?_)
        · have h := ifp hc h
          exact hj34 w59 w60 w61 w62 w63 σ66 _ _ _ h hV (lv_sub hl [0, 1, 2, 3, 4, 5] rfl)
        · have h := ifn hc h
          refine lv_iconst (v := 1) hx hb dX9_rests_30 (by decide) ?_
          refine lv_goto (tgt := 35) hx hb dX9_rests_31 (by decide) ?_
          exact hj35 w59 w60 w61 w62 w63 1 σ66 _ _ _ h hV (lv_sub hl [0, 1, 2, 3, 4, 5] rfl)
    have hj15 : ∀ (w67 : Int32) (w68 : Int32) (w69 : Int32) (w70 : Int32) (w71 : Int32) (σ72 : St) (H : Heap) (locs : List Loc) (ls : Array Slot), x_X9_rests_b15 w67 w68 w69 w70 w71 σ72 = some (.inl (rv, σf)) → AtW E (wC E σ72 ++ X) A s H locs → lv_has ls 6 [(0, .ref (eA E 0)), (1, .int w67), (2, .int w68), (3, .int w69), (4, .int w70), (5, .int w71)] → W p l e rm_X9_rests s m a below meth c H locs 0 0 QQ (F0 m 15 ls [.ref (eA E 0)]) := by
      intro w67 w68 w69 w70 w71 σ72 H locs ls h hV hl
      unfold x_X9_rests_b15 at h
      refine lv_iconst (v := 0) hx hb dX9_rests_15 (by decide) ?_
      exact hj16 w67 w68 w69 w70 w71 0 σ72 _ _ _ h hV (lv_sub hl [0, 1, 2, 3, 4, 5] rfl)
    refine lv_aload_n hx hb dX9_rests_0 rfl (lv_at hl 0 rfl) ?_
    refine lv_iload_n hx hb dX9_rests_1 rfl (lv_at hl 1 rfl) ?_
    refine lv_iconst (v := 2) hx hb dX9_rests_2 (by decide) ?_
    refine lv_icmp_lt (tgt := 15) hx hb dX9_rests_3 (by decide) (fun hc => ?_) (fun hc => ?_)
    · have h := ifp hc h
      exact hj15 p1 p2 p3 p4 p5 σ _ _ _ h hV (lv_sub hl [0, 1, 2, 3, 4, 5] rfl)
    · have h := ifn hc h
      refine lv_iload_n hx hb dX9_rests_6 rfl (lv_at hl 1 rfl) ?_
      refine lv_iconst (v := 4) hx hb dX9_rests_7 (by decide) ?_
      refine lv_icmp_gt (tgt := 15) hx hb dX9_rests_8 (by decide) (fun hc => ?_) (fun hc => ?_)
      · have h := ifp hc h
        exact hj15 p1 p2 p3 p4 p5 σ _ _ _ h hV (lv_sub hl [0, 1, 2, 3, 4, 5] rfl)
      · have h := ifn hc h
        refine lv_iconst (v := 1) hx hb dX9_rests_11 (by decide) ?_
        refine lv_goto (tgt := 16) hx hb dX9_rests_12 (by decide) ?_
        exact hj16 p1 p2 p3 p4 p5 1 σ _ _ _ h hV (lv_sub hl [0, 1, 2, 3, 4, 5] rfl)
  rw [hH, hlocs] at goal
  exact goal
set_option maxHeartbeats 4000000 in
set_option maxRecDepth 100000 in
theorem t_X9_rests {l : Launch} (hT : l.stackTraces = false) {E : EV} {X : va_W} {σ : St} {p1 : Int32} {p2 : Int32} {p3 : Int32} {p4 : Int32} {p5 : Int32} {nx : Nat} {σf : St} (h : x_X9_rests p1 p2 p3 p4 p5 σ = some (.inr (nx, σf))) : CXF l yX9_rests cX9_rests 6 (some .int) rmx_X9_rests [.ref (eA E 0), .int p1, .int p2, .int p3, .int p4, .int p5] E (wC E σ ++ X) (wC E σf ++ X) (exN nx) := by
  refine CXF.start (by decide) (Nat.le_of_ble_eq_true rfl) (fun p e s m a below meth c A ls cx hx0 hlk hV hF hl => ?_)
  have cx : CallFix p m c cX9_rests 6 s a TBL RX9 := cx
  have hx := cx.1
  have hb := cx.2.1
  have hl : lv_has ls 6 [(0, .ref (eA E 0)), (1, .int p1), (2, .int p2), (3, .int p3), (4, .int p4), (5, .int p5)] := hl
  generalize hQ : EX E (wC E σf ++ X) (exN nx) A s a below = QQ
  obtain ⟨H, hH⟩ : ∃ H, H = s.heap := ⟨_, rfl⟩
  obtain ⟨locs, hlocs⟩ : ∃ z, z = ([] : List Loc) := ⟨_, rfl⟩
  have hV : AtW E (wC E σ ++ X) A s H locs := by rw [hH, hlocs]; exact hV
  have goal : W p l e rmx_X9_rests s m a below meth c H locs 0 0 QQ (F0 m 0 ls []) := by
    unfold x_X9_rests at h
    have hj97 : ∀ (w1 : Int32) (w2 : Int32) (w3 : Int32) (w4 : Int32) (w5 : Int32) (w6 : Int32) (σ7 : St) (H : Heap) (locs : List Loc) (ls : Array Slot), x_X9_rests_b97 w1 w2 w3 w4 w5 w6 σ7 = some (.inr (nx, σf)) → AtW E (wC E σ7 ++ X) A s H locs → lv_has ls 6 [(0, .ref (eA E 0)), (1, .int w1), (2, .int w2), (3, .int w3), (4, .int w4), (5, .int w5)] → W p l e rmx_X9_rests s m a below meth c H locs 0 0 QQ (F0 m 97 ls [.int w6, .ref (eA E 0)]) := by
      intro w1 w2 w3 w4 w5 w6 σ7 H locs ls h hV hl
      unfold x_X9_rests_b97 at h
      refine bt_e h (fun σ8 hq h => ?_) (fun q hq h => ?_)
      rotate_left
      · have h := Sum.inr.inj h
        subst h
        subst hQ
        exact kx_X9_need hT hq cx hV hF hx0 hlk mk_3_178 ⟨Nat.le_of_ble_eq_true rfl, Nat.le_of_ble_eq_true rfl⟩ ⟨Nat.le_of_ble_eq_true rfl, Nat.le_of_ble_eq_true rfl⟩ hl.1 (Nat.le_of_ble_eq_true rfl) dX9_rests_97
      refine k_X9_need hq cx hV hF mk_3_178 ⟨Nat.le_of_ble_eq_true rfl, Nat.le_of_ble_eq_true rfl⟩ ⟨Nat.zero_le _, Nat.zero_le _⟩ hl.1 (Nat.le_of_ble_eq_true rfl) dX9_rests_97 (fun H locs hV => ?_)
      refine lv_aload_n hx hb dX9_rests_100 rfl (lv_at hl 0 rfl) ?_
      refine G_X9_rising cx hV mk_2_151 dX9_rests_101 ?_
      refine lv_iload_n hx hb dX9_rests_104 rfl (lv_at hl 1 rfl) ?_
      refine lv_iload_n hx hb dX9_rests_105 rfl (lv_at hl 2 rfl) ?_
      refine lv_iload_n hx hb dX9_rests_106 rfl (lv_at hl 3 rfl) ?_
      refine lv_iload hx hb dX9_rests_107 (lv_at hl 4 rfl) ?_
      refine bd_e h (fun σ9 hq h => ?_)
      refine k_X4_begin hq cx hV mk_6_45 ⟨Nat.le_of_ble_eq_true rfl, Nat.le_of_ble_eq_true rfl⟩ ⟨Nat.zero_le _, Nat.zero_le _⟩ hl.1 (Nat.le_of_ble_eq_true rfl) dX9_rests_109 (fun H locs hV => ?_)
      refine lv_aload_n hx hb dX9_rests_112 rfl (lv_at hl 0 rfl) ?_
      refine G_X9_rising cx hV mk_2_151 dX9_rests_113 ?_
      refine bd_e h (fun σ10 hq h => ?_)
      refine k_X4_findRests hq cx hV mk_6_49 ⟨Nat.le_of_ble_eq_true rfl, Nat.le_of_ble_eq_true rfl⟩ ⟨Nat.zero_le _, Nat.zero_le _⟩ hl.1 (Nat.le_of_ble_eq_true rfl) dX9_rests_116 (fun H locs hV => ?_)
      refine lv_iload hx hb dX9_rests_119 (lv_at hl 5 rfl) ?_
      refine lv_if_ne (tgt := 134) hx hb dX9_rests_121 (by decide) (fun hc => ?_) (fun hc => ?_)
      · have h := ifn hc h
        refine lv_aload_n hx hb dX9_rests_134 rfl (lv_at hl 0 rfl) ?_
        refine G_X9_rising cx hV mk_2_151 dX9_rests_135 ?_
        refine G_X4_first cx hV mk_2_88 dX9_rests_138 ?_
        exact (inlr h).elim
      · have h := ifp hc h
        refine lv_aload_n hx hb dX9_rests_124 rfl (lv_at hl 0 rfl) ?_
        refine G_X9_rising cx hV mk_2_151 dX9_rests_125 ?_
        refine G_X4_rests cx hV mk_2_86 dX9_rests_128 ?_
        refine lv_goto (tgt := 141) hx hb dX9_rests_131 (by decide) ?_
        exact (inlr h).elim
    have hj92 : ∀ (w11 : Int32) (w12 : Int32) (w13 : Int32) (w14 : Int32) (w15 : Int32) (σ16 : St) (H : Heap) (locs : List Loc) (ls : Array Slot), x_X9_rests_b92 w11 w12 w13 w14 w15 σ16 = some (.inr (nx, σf)) → AtW E (wC E σ16 ++ X) A s H locs → lv_has ls 6 [(0, .ref (eA E 0)), (1, .int w11), (2, .int w12), (3, .int w13), (4, .int w14), (5, .int w15)] → W p l e rmx_X9_rests s m a below meth c H locs 0 0 QQ (F0 m 92 ls [.ref (eA E 0)]) := by
      intro w11 w12 w13 w14 w15 σ16 H locs ls h hV hl
      unfold x_X9_rests_b92 at h
      refine lv_iconst (v := 1) hx hb dX9_rests_92 (by decide) ?_
      refine lv_goto (tgt := 97) hx hb dX9_rests_93 (by decide) ?_
      exact hj97 w11 w12 w13 w14 w15 1 σ16 _ _ _ h hV (lv_sub hl [0, 1, 2, 3, 4, 5] rfl)
    have hj77 : ∀ (w17 : Int32) (w18 : Int32) (w19 : Int32) (w20 : Int32) (w21 : Int32) (w22 : Int32) (σ23 : St) (H : Heap) (locs : List Loc) (ls : Array Slot), x_X9_rests_b77 w17 w18 w19 w20 w21 w22 σ23 = some (.inr (nx, σf)) → AtW E (wC E σ23 ++ X) A s H locs → lv_has ls 6 [(0, .ref (eA E 0)), (1, .int w17), (2, .int w18), (3, .int w19), (4, .int w20), (5, .int w21)] → W p l e rmx_X9_rests s m a below meth c H locs 0 0 QQ (F0 m 77 ls [.int w22, .ref (eA E 0)]) := by
      intro w17 w18 w19 w20 w21 w22 σ23 H locs ls h hV hl
      unfold x_X9_rests_b77 at h
      refine bt_e h (fun σ24 hq h => ?_) (fun q hq h => ?_)
      rotate_left
      · have h := Sum.inr.inj h
        subst h
        subst hQ
        exact kx_X9_need hT hq cx hV hF hx0 hlk mk_3_178 ⟨Nat.le_of_ble_eq_true rfl, Nat.le_of_ble_eq_true rfl⟩ ⟨Nat.le_of_ble_eq_true rfl, Nat.le_of_ble_eq_true rfl⟩ hl.1 (Nat.le_of_ble_eq_true rfl) dX9_rests_77
      refine k_X9_need hq cx hV hF mk_3_178 ⟨Nat.le_of_ble_eq_true rfl, Nat.le_of_ble_eq_true rfl⟩ ⟨Nat.zero_le _, Nat.zero_le _⟩ hl.1 (Nat.le_of_ble_eq_true rfl) dX9_rests_77 (fun H locs hV => ?_)
      refine lv_aload_n hx hb dX9_rests_80 rfl (lv_at hl 0 rfl) ?_
      refine lv_iload hx hb dX9_rests_81 (lv_at hl 5 rfl) ?_
      refine lv_if_eq (tgt := 92) hx hb dX9_rests_83 (by decide) (fun hc => ?_) (fun hc => ?_)
      · have h := ifp hc h
        exact hj92 w17 w18 w19 w20 w21 σ24 _ _ _ h hV (lv_sub hl [0, 1, 2, 3, 4, 5] rfl)
      · have h := ifn hc h
        refine lv_iload hx hb dX9_rests_86 (lv_at hl 5 rfl) ?_
        refine lv_iconst (v := 1) hx hb dX9_rests_88 (by decide) ?_
        refine lv_icmp_ne (tgt := 96) hx hb dX9_rests_89 (by decide) (fun hc => ?_) (fun hc => ?_)
        · have h := ifn hc h
          refine lv_iconst (v := 0) hx hb dX9_rests_96 (by decide) ?_
          exact hj97 w17 w18 w19 w20 w21 0 σ24 _ _ _ h hV (lv_sub hl [0, 1, 2, 3, 4, 5] rfl)
        · have h := ifp hc h
          exact hj92 w17 w18 w19 w20 w21 σ24 _ _ _ h hV (lv_sub hl [0, 1, 2, 3, 4, 5] rfl)
    have hj76 : ∀ (w25 : Int32) (w26 : Int32) (w27 : Int32) (w28 : Int32) (w29 : Int32) (σ30 : St) (H : Heap) (locs : List Loc) (ls : Array Slot), x_X9_rests_b76 w25 w26 w27 w28 w29 σ30 = some (.inr (nx, σf)) → AtW E (wC E σ30 ++ X) A s H locs → lv_has ls 6 [(0, .ref (eA E 0)), (1, .int w25), (2, .int w26), (3, .int w27), (4, .int w28), (5, .int w29)] → W p l e rmx_X9_rests s m a below meth c H locs 0 0 QQ (F0 m 76 ls [.ref (eA E 0)]) := by
      intro w25 w26 w27 w28 w29 σ30 H locs ls h hV hl
      unfold x_X9_rests_b76 at h
      refine lv_iconst (v := 0) hx hb dX9_rests_76 (by decide) ?_
      exact hj77 w25 w26 w27 w28 w29 0 σ30 _ _ _ h hV (lv_sub hl [0, 1, 2, 3, 4, 5] rfl)
    have hj54 : ∀ (w31 : Int32) (w32 : Int32) (w33 : Int32) (w34 : Int32) (w35 : Int32) (w36 : Int32) (σ37 : St) (H : Heap) (locs : List Loc) (ls : Array Slot), x_X9_rests_b54 w31 w32 w33 w34 w35 w36 σ37 = some (.inr (nx, σf)) → AtW E (wC E σ37 ++ X) A s H locs → lv_has ls 6 [(0, .ref (eA E 0)), (1, .int w31), (2, .int w32), (3, .int w33), (4, .int w34), (5, .int w35)] → W p l e rmx_X9_rests s m a below meth c H locs 0 0 QQ (F0 m 54 ls [.int w36, .ref (eA E 0)]) := by
      intro w31 w32 w33 w34 w35 w36 σ37 H locs ls h hV hl
      unfold x_X9_rests_b54 at h
      refine bt_e h (fun σ38 hq h => ?_) (fun q hq h => ?_)
      rotate_left
      · have h := Sum.inr.inj h
        subst h
        subst hQ
        exact kx_X9_need hT hq cx hV hF hx0 hlk mk_3_178 ⟨Nat.le_of_ble_eq_true rfl, Nat.le_of_ble_eq_true rfl⟩ ⟨Nat.le_of_ble_eq_true rfl, Nat.le_of_ble_eq_true rfl⟩ hl.1 (Nat.le_of_ble_eq_true rfl) dX9_rests_54
      refine k_X9_need hq cx hV hF mk_3_178 ⟨Nat.le_of_ble_eq_true rfl, Nat.le_of_ble_eq_true rfl⟩ ⟨Nat.zero_le _, Nat.zero_le _⟩ hl.1 (Nat.le_of_ble_eq_true rfl) dX9_rests_54 (fun H locs hV => ?_)
      refine lv_aload_n hx hb dX9_rests_57 rfl (lv_at hl 0 rfl) ?_
      refine lv_iload hx hb dX9_rests_58 (lv_at hl 4 rfl) ?_
      refine lv_iconst (v := 1) hx hb dX9_rests_60 (by decide) ?_
      refine lv_icmp_lt (tgt := 76) hx hb dX9_rests_61 (by decide) (fun hc => ?_) (fun hc => ?_)
      · have h := ifp hc h
        exact hj76 w31 w32 w33 w34 w35 σ38 _ _ _ h hV (lv_sub hl [0, 1, 2, 3, 4, 5] rfl)
      · have h := ifn hc h
        refine lv_iload hx hb dX9_rests_64 (lv_at hl 4 rfl) ?_
        refine lv_sipush (v := 999) hx hb dX9_rests_66 (by decide) ?_
        refine lv_icmp_gt (tgt := 76) hx hb dX9_rests_69 (by decide) (fun hc => ?_) (fun hc => ?_)
        · have h := ifp hc h
          exact hj76 w31 w32 w33 w34 w35 σ38 _ _ _ h hV (lv_sub hl [0, 1, 2, 3, 4, 5] rfl)
        · have h := ifn hc h
          refine lv_iconst (v := 1) hx hb dX9_rests_72 (by decide) ?_
          refine lv_goto (tgt := 77) hx hb dX9_rests_73 (by decide) ?_
          exact hj77 w31 w32 w33 w34 w35 1 σ38 _ _ _ h hV (lv_sub hl [0, 1, 2, 3, 4, 5] rfl)
    have hj53 : ∀ (w39 : Int32) (w40 : Int32) (w41 : Int32) (w42 : Int32) (w43 : Int32) (σ44 : St) (H : Heap) (locs : List Loc) (ls : Array Slot), x_X9_rests_b53 w39 w40 w41 w42 w43 σ44 = some (.inr (nx, σf)) → AtW E (wC E σ44 ++ X) A s H locs → lv_has ls 6 [(0, .ref (eA E 0)), (1, .int w39), (2, .int w40), (3, .int w41), (4, .int w42), (5, .int w43)] → W p l e rmx_X9_rests s m a below meth c H locs 0 0 QQ (F0 m 53 ls [.ref (eA E 0)]) := by
      intro w39 w40 w41 w42 w43 σ44 H locs ls h hV hl
      unfold x_X9_rests_b53 at h
      refine lv_iconst (v := 0) hx hb dX9_rests_53 (by decide) ?_
      exact hj54 w39 w40 w41 w42 w43 0 σ44 _ _ _ h hV (lv_sub hl [0, 1, 2, 3, 4, 5] rfl)
    have hj35 : ∀ (w45 : Int32) (w46 : Int32) (w47 : Int32) (w48 : Int32) (w49 : Int32) (w50 : Int32) (σ51 : St) (H : Heap) (locs : List Loc) (ls : Array Slot), x_X9_rests_b35 w45 w46 w47 w48 w49 w50 σ51 = some (.inr (nx, σf)) → AtW E (wC E σ51 ++ X) A s H locs → lv_has ls 6 [(0, .ref (eA E 0)), (1, .int w45), (2, .int w46), (3, .int w47), (4, .int w48), (5, .int w49)] → W p l e rmx_X9_rests s m a below meth c H locs 0 0 QQ (F0 m 35 ls [.int w50, .ref (eA E 0)]) := by
      intro w45 w46 w47 w48 w49 w50 σ51 H locs ls h hV hl
      unfold x_X9_rests_b35 at h
      refine bt_e h (fun σ52 hq h => ?_) (fun q hq h => ?_)
      rotate_left
      · have h := Sum.inr.inj h
        subst h
        subst hQ
        exact kx_X9_need hT hq cx hV hF hx0 hlk mk_3_178 ⟨Nat.le_of_ble_eq_true rfl, Nat.le_of_ble_eq_true rfl⟩ ⟨Nat.le_of_ble_eq_true rfl, Nat.le_of_ble_eq_true rfl⟩ hl.1 (Nat.le_of_ble_eq_true rfl) dX9_rests_35
      refine k_X9_need hq cx hV hF mk_3_178 ⟨Nat.le_of_ble_eq_true rfl, Nat.le_of_ble_eq_true rfl⟩ ⟨Nat.zero_le _, Nat.zero_le _⟩ hl.1 (Nat.le_of_ble_eq_true rfl) dX9_rests_35 (fun H locs hV => ?_)
      refine lv_aload_n hx hb dX9_rests_38 rfl (lv_at hl 0 rfl) ?_
      refine lv_iload_n hx hb dX9_rests_39 rfl (lv_at hl 3 rfl) ?_
      refine lv_if_lt (tgt := 53) hx hb dX9_rests_40 (by decide) (fun hc => ?_) (fun hc => ?_)
      · have h := ifp hc h
        exact hj53 w45 w46 w47 w48 w49 σ52 _ _ _ h hV (lv_sub hl [0, 1, 2, 3, 4, 5] rfl)
      · have h := ifn hc h
        refine lv_iload_n hx hb dX9_rests_43 rfl (lv_at hl 3 rfl) ?_
        refine lv_bipush (v := 99) hx hb dX9_rests_44 (by decide) ?_
        refine lv_icmp_gt (tgt := 53) hx hb dX9_rests_46 (by decide) (fun hc => ?_) (fun hc => ?_)
        · have h := ifp hc h
          exact hj53 w45 w46 w47 w48 w49 σ52 _ _ _ h hV (lv_sub hl [0, 1, 2, 3, 4, 5] rfl)
        · have h := ifn hc h
          refine lv_iconst (v := 1) hx hb dX9_rests_49 (by decide) ?_
          refine lv_goto (tgt := 54) hx hb dX9_rests_50 (by decide) ?_
          exact hj54 w45 w46 w47 w48 w49 1 σ52 _ _ _ h hV (lv_sub hl [0, 1, 2, 3, 4, 5] rfl)
    have hj34 : ∀ (w53 : Int32) (w54 : Int32) (w55 : Int32) (w56 : Int32) (w57 : Int32) (σ58 : St) (H : Heap) (locs : List Loc) (ls : Array Slot), x_X9_rests_b34 w53 w54 w55 w56 w57 σ58 = some (.inr (nx, σf)) → AtW E (wC E σ58 ++ X) A s H locs → lv_has ls 6 [(0, .ref (eA E 0)), (1, .int w53), (2, .int w54), (3, .int w55), (4, .int w56), (5, .int w57)] → W p l e rmx_X9_rests s m a below meth c H locs 0 0 QQ (F0 m 34 ls [.ref (eA E 0)]) := by
      intro w53 w54 w55 w56 w57 σ58 H locs ls h hV hl
      unfold x_X9_rests_b34 at h
      refine lv_iconst (v := 0) hx hb dX9_rests_34 (by decide) ?_
      exact hj35 w53 w54 w55 w56 w57 0 σ58 _ _ _ h hV (lv_sub hl [0, 1, 2, 3, 4, 5] rfl)
    have hj16 : ∀ (w59 : Int32) (w60 : Int32) (w61 : Int32) (w62 : Int32) (w63 : Int32) (w64 : Int32) (σ65 : St) (H : Heap) (locs : List Loc) (ls : Array Slot), x_X9_rests_b16 w59 w60 w61 w62 w63 w64 σ65 = some (.inr (nx, σf)) → AtW E (wC E σ65 ++ X) A s H locs → lv_has ls 6 [(0, .ref (eA E 0)), (1, .int w59), (2, .int w60), (3, .int w61), (4, .int w62), (5, .int w63)] → W p l e rmx_X9_rests s m a below meth c H locs 0 0 QQ (F0 m 16 ls [.int w64, .ref (eA E 0)]) := by
      intro w59 w60 w61 w62 w63 w64 σ65 H locs ls h hV hl
      unfold x_X9_rests_b16 at h
      refine bt_e h (fun σ66 hq h => ?_) (fun q hq h => ?_)
      rotate_left
      · have h := Sum.inr.inj h
        subst h
        subst hQ
        exact kx_X9_need hT hq cx hV hF hx0 hlk mk_3_178 ⟨Nat.le_of_ble_eq_true rfl, Nat.le_of_ble_eq_true rfl⟩ ⟨Nat.le_of_ble_eq_true rfl, Nat.le_of_ble_eq_true rfl⟩ hl.1 (Nat.le_of_ble_eq_true rfl) dX9_rests_16
      refine k_X9_need hq cx hV hF mk_3_178 ⟨Nat.le_of_ble_eq_true rfl, Nat.le_of_ble_eq_true rfl⟩ ⟨Nat.zero_le _, Nat.zero_le _⟩ hl.1 (Nat.le_of_ble_eq_true rfl) dX9_rests_16 (fun H locs hV => ?_)
      refine lv_aload_n hx hb dX9_rests_19 rfl (lv_at hl 0 rfl) ?_
      refine lv_iload_n hx hb dX9_rests_20 rfl (lv_at hl 2 rfl) ?_
      refine lv_iconst (v := 2) hx hb dX9_rests_21 (by decide) ?_
      refine lv_icmp_lt (tgt := 34) hx hb dX9_rests_22 (by decide) (fun hc => ?_) (fun hc => ?_)
      · have h := ifp hc h
        exact hj34 w59 w60 w61 w62 w63 σ66 _ _ _ h hV (lv_sub hl [0, 1, 2, 3, 4, 5] rfl)
      · have h := ifn hc h
        refine lv_iload_n hx hb dX9_rests_25 rfl (lv_at hl 2 rfl) ?_
        refine lv_iconst (v := 4) hx hb dX9_rests_26 (by decide) ?_
        refine lv_icmp_gt (tgt := 34) hx hb dX9_rests_27 (by decide) (fun hc => ?_) (fun hc => ?_)
        · have h := ifp hc h
          exact hj34 w59 w60 w61 w62 w63 σ66 _ _ _ h hV (lv_sub hl [0, 1, 2, 3, 4, 5] rfl)
        · have h := ifn hc h
          refine lv_iconst (v := 1) hx hb dX9_rests_30 (by decide) ?_
          refine lv_goto (tgt := 35) hx hb dX9_rests_31 (by decide) ?_
          exact hj35 w59 w60 w61 w62 w63 1 σ66 _ _ _ h hV (lv_sub hl [0, 1, 2, 3, 4, 5] rfl)
    have hj15 : ∀ (w67 : Int32) (w68 : Int32) (w69 : Int32) (w70 : Int32) (w71 : Int32) (σ72 : St) (H : Heap) (locs : List Loc) (ls : Array Slot), x_X9_rests_b15 w67 w68 w69 w70 w71 σ72 = some (.inr (nx, σf)) → AtW E (wC E σ72 ++ X) A s H locs → lv_has ls 6 [(0, .ref (eA E 0)), (1, .int w67), (2, .int w68), (3, .int w69), (4, .int w70), (5, .int w71)] → W p l e rmx_X9_rests s m a below meth c H locs 0 0 QQ (F0 m 15 ls [.ref (eA E 0)]) := by
      intro w67 w68 w69 w70 w71 σ72 H locs ls h hV hl
      unfold x_X9_rests_b15 at h
      refine lv_iconst (v := 0) hx hb dX9_rests_15 (by decide) ?_
      exact hj16 w67 w68 w69 w70 w71 0 σ72 _ _ _ h hV (lv_sub hl [0, 1, 2, 3, 4, 5] rfl)
    refine lv_aload_n hx hb dX9_rests_0 rfl (lv_at hl 0 rfl) ?_
    refine lv_iload_n hx hb dX9_rests_1 rfl (lv_at hl 1 rfl) ?_
    refine lv_iconst (v := 2) hx hb dX9_rests_2 (by decide) ?_
    refine lv_icmp_lt (tgt := 15) hx hb dX9_rests_3 (by decide) (fun hc => ?_) (fun hc => ?_)
    · have h := ifp hc h
      exact hj15 p1 p2 p3 p4 p5 σ _ _ _ h hV (lv_sub hl [0, 1, 2, 3, 4, 5] rfl)
    · have h := ifn hc h
      refine lv_iload_n hx hb dX9_rests_6 rfl (lv_at hl 1 rfl) ?_
      refine lv_iconst (v := 4) hx hb dX9_rests_7 (by decide) ?_
      refine lv_icmp_gt (tgt := 15) hx hb dX9_rests_8 (by decide) (fun hc => ?_) (fun hc => ?_)
      · have h := ifp hc h
        exact hj15 p1 p2 p3 p4 p5 σ _ _ _ h hV (lv_sub hl [0, 1, 2, 3, 4, 5] rfl)
      · have h := ifn hc h
        refine lv_iconst (v := 1) hx hb dX9_rests_11 (by decide) ?_
        refine lv_goto (tgt := 16) hx hb dX9_rests_12 (by decide) ?_
        exact hj16 p1 p2 p3 p4 p5 1 σ _ _ _ h hV (lv_sub hl [0, 1, 2, 3, 4, 5] rfl)
  rw [hH, hlocs] at goal
  exact goal
theorem k_X9_rests {p : Program} {l : Launch} {e : Env} {R : Room} {s : State} {m : MethodId} {a : Array Value} {below : List Frame} {meth : Method} {c : Code} {H : Heap} {locs : List Loc} {cells slots : Nat} {Q : State → Prop} {cc : ByteArray} {own : String} {nL pc : Nat} {ls : Array Slot} {rest : List Value} {A : Nat → Prop} {E : EV} {X : va_W} {σ : St} {p1 : Int32} {p2 : Int32} {p3 : Int32} {p4 : Int32} {p5 : Int32} {rv : Int32} {σf : St} (h : x_X9_rests p1 p2 p3 p4 p5 σ = some (.inl (rv, σf))) (cx : CallFix p m c cc nL s a TBL own) (hV : AtW E (wC E σ ++ X) A s H locs) (hF : FZ E A s s.heap) {idx : Nat} (w1 : Cond.methodLink own idx yX9_rests ∈ TBL) (hR : (rm_X9_rests).frames + 1 ≤ R.frames ∧ 8 + (6 + 11) + (rm_X9_rests).locals ≤ R.locals) (hcs : cells ≤ R.cells ∧ slots ≤ R.slots) (hls : ls.size = nL) (hcat : (rest.map fun v => v.category).sum ≤ 8) (d : decode cc pc = .ok (.invokevirtual idx, 3)) (kk : ∀ (H1 : Heap) (locs1 : List Loc), AtW E (wC E σf ++ X) A s H1 locs1 → W p l e R s m a below meth c H1 locs1 cells slots Q (F0 m (pc + 3) ls (.int rv :: rest))) : W p l e R s m a below meth c H locs cells slots Q (F0 m pc ls (.int p5 :: .int p4 :: .int p3 :: .int p2 :: .int p1 :: .ref (eA E 0) :: rest)) :=
  r_callFi (n := 5) (As := [.int p1, .int p2, .int p3, .int p4, .int p5]) (q0 := 0) (ci := 9) (qq := (RX9, TX9, 14)) (c_X9_rests h) wC_fst rfl rfl mk_6_42 mk_6_43 mk_1_1 mk_6_44 (by decide +kernel) rfl ⟨rfl, rfl⟩ cx hV hF w1 hR hcs hls rfl hcat d kk
theorem kx_X9_rests {p : Program} {l : Launch} {e : Env} {R : Room} {s : State} {m : MethodId} {a : Array Value} {below : List Frame} {meth : Method} {c : Code} {H : Heap} {locs : List Loc} {cc : ByteArray} {own : String} {nL pc : Nat} {ls : Array Slot} {rest : List Value} {A : Nat → Prop} {E : EV} {X : va_W} {σ : St} {p1 : Int32} {p2 : Int32} {p3 : Int32} {p4 : Int32} {p5 : Int32} (hT : l.stackTraces = false) {nx : Nat} {σf : St} (h : x_X9_rests p1 p2 p3 p4 p5 σ = some (.inr (nx, σf))) (cx : CallFix p m c cc nL s a TBL own) (hV : AtW E (wC E σ ++ X) A s H locs) (hF : FZ E A s s.heap) (hx0 : ∀ x ∈ c.exceptionTable.toList, False) (hlk : meth.locks = false) {idx : Nat} (w1 : Cond.methodLink own idx yX9_rests ∈ TBL) (hR : (rmx_X9_rests).frames + 1 ≤ R.frames ∧ 8 + (6 + 11) + (rmx_X9_rests).locals ≤ R.locals) (hcs : 1 ≤ R.cells ∧ 6 ≤ R.slots) (hls : ls.size = nL) (hcat : (rest.map fun v => v.category).sum ≤ 8) (d : decode cc pc = .ok (.invokevirtual idx, 3)) : W p l e R s m a below meth c H locs 0 0 (EX E (wC E σf ++ X) (exN nx) A s a below) (F0 m pc ls (.int p5 :: .int p4 :: .int p3 :: .int p2 :: .int p1 :: .ref (eA E 0) :: rest)) :=
  r_callx (n := 5) (As := [.int p1, .int p2, .int p3, .int p4, .int p5]) (q0 := 0) (ci := 9) (qq := (RX9, TX9, 14)) (t_X9_rests hT h) rfl rfl mk_6_42 mk_6_43 mk_1_1 mk_6_44 (by decide +kernel) rfl ⟨rfl, rfl⟩ cx hV hF hx0 hlk w1 hR hcs hls rfl hcat d
def x_X9_image (σ : St) : Option (Int32 × St) :=
  bq (x_X9_imageAt (gI σ 10)) (some ((-1), σ)) (fun t1 =>
  bd (x_X5_copy t1 0 σ) fun σ2 =>
  bd (some (sI σ2 10 ((gI σ2 10) + 1))) fun σ3 =>
  some ((gI σ3 10), σ3))
abbrev rm_X9_image : Room := { frames := 3, cells := 0, slots := 0, locals := 64 }
set_option maxHeartbeats 4000000 in
set_option maxRecDepth 100000 in
theorem c_X9_image {l : Launch} {E : EV} {X : va_W} {σ : St} {rv : Int32} {σf : St} (h : x_X9_image σ = some (rv, σf)) : CM l yX9_image cX9_image 2 (some .int) rm_X9_image [.ref (eA E 0)] E (wC E σ ++ X) (wC E σf ++ X) (qI rv) := by
  refine CM.start (by decide) (Nat.le_of_ble_eq_true rfl) (fun p e s m a below meth c A ls cx hr hlk hV hl => ?_)
  have cx : CallFix p m c cX9_image 2 s a TBL RX9 := cx
  have hx := cx.1
  have hb := cx.2.1
  have hl : lv_has ls 2 [(0, .ref (eA E 0))] := hl
  generalize hQ : EQ E (wC E σf ++ X) (qI rv) A s a below = QQ
  obtain ⟨H, hH⟩ : ∃ H, H = s.heap := ⟨_, rfl⟩
  obtain ⟨locs, hlocs⟩ : ∃ z, z = ([] : List Loc) := ⟨_, rfl⟩
  have hV : AtW E (wC E σ ++ X) A s H locs := by rw [hH, hlocs]; exact hV
  have goal : W p l e rm_X9_image s m a below meth c H locs 0 0 QQ (F0 m 0 ls []) := by
    unfold x_X9_image at h
    refine lv_aload_n hx hb dX9_image_0 rfl (lv_at hl 0 rfl) ?_
    refine lv_aload_n hx hb dX9_image_1 rfl (lv_at hl 0 rfl) ?_
    refine G_X9_images cx hV mk_2_144 dX9_image_2 ?_
    refine bq_e h (fun hq h => ?_) (fun t1 hq h => ?_)
    · refine k_X9_imageAt0 hq cx hV mk_3_150 ⟨Nat.le_of_ble_eq_true rfl, Nat.le_of_ble_eq_true rfl⟩ ⟨Nat.zero_le _, Nat.zero_le _⟩ hl.1 (Nat.le_of_ble_eq_true rfl) dX9_image_5 (fun H locs hV => ?_)
      refine lv_astore_nN (lv' := [(1, .null), (0, .ref (eA E 0))]) hx hb dX9_image_8 rfl hl (by decide) rfl (fun ls hl => ?_)
      refine lv_aload_nN hx hb dX9_image_9 rfl (lv_at hl 0 rfl) ?_
      refine lv_ifnonnullN hx hb dX9_image_10 ?_
      refine lv_iconst (v := (-1)) hx hb dX9_image_13 (by decide) ?_
      obtain ⟨h1, h2⟩ := Prod.mk.inj (Option.some.inj h)
      subst h1
      subst h2
      subst hQ
      exact r_ireti cx hr hlk hV dX9_image_14
    · have ht1 := imageAt_lt hq
      refine k_X9_imageAt1 hq cx hV mk_3_150 ⟨Nat.le_of_ble_eq_true rfl, Nat.le_of_ble_eq_true rfl⟩ ⟨Nat.zero_le _, Nat.zero_le _⟩ hl.1 (Nat.le_of_ble_eq_true rfl) dX9_image_5 (fun H locs hV => ?_)
      refine lv_astore_n (lv' := [(1, .ref (eA E (pS t1))), (0, .ref (eA E 0))]) hx hb dX9_image_8 rfl hl (by decide) rfl (fun ls hl => ?_)
      refine lv_aload_n hx hb dX9_image_9 rfl (lv_at hl 0 rfl) ?_
      refine lv_ifnonnull (tgt := 15) hx hb dX9_image_10 (by decide) ?_
      refine lv_aload_n hx hb dX9_image_15 rfl (lv_at hl 0 rfl) ?_
      refine lv_aload_n hx hb dX9_image_16 rfl (lv_at hl 1 rfl) ?_
      refine G_X9_stock cx hV mk_2_142 dX9_image_17 ?_
      refine bd_e h (fun σ2 hq h => ?_)
      refine k_X5_copy ht1 (by decide) hq cx hV mk_3_87 ⟨Nat.le_of_ble_eq_true rfl, Nat.le_of_ble_eq_true rfl⟩ ⟨Nat.zero_le _, Nat.zero_le _⟩ hl.1 (Nat.le_of_ble_eq_true rfl) dX9_image_20 (fun H locs hV => ?_)
      refine lv_aload_n hx hb dX9_image_23 rfl (lv_at hl 1 rfl) ?_
      refine lv_dup hx hb dX9_image_24 rfl ?_
      refine G_X9_images cx hV mk_2_144 dX9_image_25 ?_
      refine lv_iconst (v := 1) hx hb dX9_image_28 (by decide) ?_
      refine lv_iadd hx hb dX9_image_29 ?_
      refine bd_e h (fun σ3 hq h => ?_)
      refine P_X9_images cx hV hq mk_2_144 dX9_image_30 (fun H locs hV => ?_)
      refine lv_aload_n hx hb dX9_image_33 rfl (lv_at hl 1 rfl) ?_
      refine G_X9_images cx hV mk_2_144 dX9_image_34 ?_
      obtain ⟨h1, h2⟩ := Prod.mk.inj (Option.some.inj h)
      subst h1
      subst h2
      subst hQ
      exact r_ireti cx hr hlk hV dX9_image_37
  rw [hH, hlocs] at goal
  exact goal
theorem k_X9_image {p : Program} {l : Launch} {e : Env} {R : Room} {s : State} {m : MethodId} {a : Array Value} {below : List Frame} {meth : Method} {c : Code} {H : Heap} {locs : List Loc} {cells slots : Nat} {Q : State → Prop} {cc : ByteArray} {own : String} {nL pc : Nat} {ls : Array Slot} {rest : List Value} {A : Nat → Prop} {E : EV} {X : va_W} {σ : St} {rv : Int32} {σf : St} (h : x_X9_image σ = some (rv, σf)) (cx : CallFix p m c cc nL s a TBL own) (hV : AtW E (wC E σ ++ X) A s H locs) {idx : Nat} (w1 : Cond.methodLink own idx yX9_image ∈ TBL) (hR : (rm_X9_image).frames + 1 ≤ R.frames ∧ 8 + (2 + 11) + (rm_X9_image).locals ≤ R.locals) (hcs : cells ≤ R.cells ∧ slots ≤ R.slots) (hls : ls.size = nL) (hcat : (rest.map fun v => v.category).sum ≤ 8) (d : decode cc pc = .ok (.invokevirtual idx, 3)) (kk : ∀ (H1 : Heap) (locs1 : List Loc), AtW E (wC E σf ++ X) A s H1 locs1 → W p l e R s m a below meth c H1 locs1 cells slots Q (F0 m (pc + 3) ls (.int rv :: rest))) : W p l e R s m a below meth c H locs cells slots Q (F0 m pc ls (.ref (eA E 0) :: rest)) :=
  r_calli (n := 0) (As := []) (q0 := 0) (ci := 9) (qq := (RX9, TX9, 14)) (c_X9_image h) wC_fst rfl rfl mk_3_147 mk_3_148 mk_1_1 mk_3_149 (by decide +kernel) rfl ⟨rfl, rfl⟩ cx hV w1 hR hcs hls rfl hcat d kk
def x_X9_restore (σ : St) : Option (Int32 × St) :=
  bq (x_X9_imageAt ((gI σ 10) - 1)) (some ((-1), σ)) (fun t1 =>
  bd (x_X5_copy 0 t1 σ) fun σ2 =>
  bd (some (sI σ2 10 ((gI σ2 10) - 1))) fun σ3 =>
  some ((gI σ3 10), σ3))
abbrev rm_X9_restore : Room := { frames := 3, cells := 0, slots := 0, locals := 64 }
set_option maxHeartbeats 4000000 in
set_option maxRecDepth 100000 in
theorem c_X9_restore {l : Launch} {E : EV} {X : va_W} {σ : St} {rv : Int32} {σf : St} (h : x_X9_restore σ = some (rv, σf)) : CM l yX9_restore cX9_restore 2 (some .int) rm_X9_restore [.ref (eA E 0)] E (wC E σ ++ X) (wC E σf ++ X) (qI rv) := by
  refine CM.start (by decide) (Nat.le_of_ble_eq_true rfl) (fun p e s m a below meth c A ls cx hr hlk hV hl => ?_)
  have cx : CallFix p m c cX9_restore 2 s a TBL RX9 := cx
  have hx := cx.1
  have hb := cx.2.1
  have hl : lv_has ls 2 [(0, .ref (eA E 0))] := hl
  generalize hQ : EQ E (wC E σf ++ X) (qI rv) A s a below = QQ
  obtain ⟨H, hH⟩ : ∃ H, H = s.heap := ⟨_, rfl⟩
  obtain ⟨locs, hlocs⟩ : ∃ z, z = ([] : List Loc) := ⟨_, rfl⟩
  have hV : AtW E (wC E σ ++ X) A s H locs := by rw [hH, hlocs]; exact hV
  have goal : W p l e rm_X9_restore s m a below meth c H locs 0 0 QQ (F0 m 0 ls []) := by
    unfold x_X9_restore at h
    refine lv_aload_n hx hb dX9_restore_0 rfl (lv_at hl 0 rfl) ?_
    refine lv_aload_n hx hb dX9_restore_1 rfl (lv_at hl 0 rfl) ?_
    refine G_X9_images cx hV mk_2_144 dX9_restore_2 ?_
    refine lv_iconst (v := 1) hx hb dX9_restore_5 (by decide) ?_
    refine lv_isub hx hb dX9_restore_6 ?_
    refine bq_e h (fun hq h => ?_) (fun t1 hq h => ?_)
    · refine k_X9_imageAt0 hq cx hV mk_3_150 ⟨Nat.le_of_ble_eq_true rfl, Nat.le_of_ble_eq_true rfl⟩ ⟨Nat.zero_le _, Nat.zero_le _⟩ hl.1 (Nat.le_of_ble_eq_true rfl) dX9_restore_7 (fun H locs hV => ?_)
      refine lv_astore_nN (lv' := [(1, .null), (0, .ref (eA E 0))]) hx hb dX9_restore_10 rfl hl (by decide) rfl (fun ls hl => ?_)
      refine lv_aload_nN hx hb dX9_restore_11 rfl (lv_at hl 0 rfl) ?_
      refine lv_ifnonnullN hx hb dX9_restore_12 ?_
      refine lv_iconst (v := (-1)) hx hb dX9_restore_15 (by decide) ?_
      obtain ⟨h1, h2⟩ := Prod.mk.inj (Option.some.inj h)
      subst h1
      subst h2
      subst hQ
      exact r_ireti cx hr hlk hV dX9_restore_16
    · have ht1 := imageAt_lt hq
      refine k_X9_imageAt1 hq cx hV mk_3_150 ⟨Nat.le_of_ble_eq_true rfl, Nat.le_of_ble_eq_true rfl⟩ ⟨Nat.zero_le _, Nat.zero_le _⟩ hl.1 (Nat.le_of_ble_eq_true rfl) dX9_restore_7 (fun H locs hV => ?_)
      refine lv_astore_n (lv' := [(1, .ref (eA E (pS t1))), (0, .ref (eA E 0))]) hx hb dX9_restore_10 rfl hl (by decide) rfl (fun ls hl => ?_)
      refine lv_aload_n hx hb dX9_restore_11 rfl (lv_at hl 0 rfl) ?_
      refine lv_ifnonnull (tgt := 17) hx hb dX9_restore_12 (by decide) ?_
      refine lv_aload_n hx hb dX9_restore_17 rfl (lv_at hl 1 rfl) ?_
      refine G_X9_stock cx hV mk_2_142 dX9_restore_18 ?_
      refine lv_aload_n hx hb dX9_restore_21 rfl (lv_at hl 0 rfl) ?_
      refine bd_e h (fun σ2 hq h => ?_)
      refine k_X5_copy (by decide) ht1 hq cx hV mk_3_87 ⟨Nat.le_of_ble_eq_true rfl, Nat.le_of_ble_eq_true rfl⟩ ⟨Nat.zero_le _, Nat.zero_le _⟩ hl.1 (Nat.le_of_ble_eq_true rfl) dX9_restore_22 (fun H locs hV => ?_)
      refine lv_aload_n hx hb dX9_restore_25 rfl (lv_at hl 1 rfl) ?_
      refine lv_dup hx hb dX9_restore_26 rfl ?_
      refine G_X9_images cx hV mk_2_144 dX9_restore_27 ?_
      refine lv_iconst (v := 1) hx hb dX9_restore_30 (by decide) ?_
      refine lv_isub hx hb dX9_restore_31 ?_
      refine bd_e h (fun σ3 hq h => ?_)
      refine P_X9_images cx hV hq mk_2_144 dX9_restore_32 (fun H locs hV => ?_)
      refine lv_aload_n hx hb dX9_restore_35 rfl (lv_at hl 1 rfl) ?_
      refine G_X9_images cx hV mk_2_144 dX9_restore_36 ?_
      obtain ⟨h1, h2⟩ := Prod.mk.inj (Option.some.inj h)
      subst h1
      subst h2
      subst hQ
      exact r_ireti cx hr hlk hV dX9_restore_39
  rw [hH, hlocs] at goal
  exact goal
theorem k_X9_restore {p : Program} {l : Launch} {e : Env} {R : Room} {s : State} {m : MethodId} {a : Array Value} {below : List Frame} {meth : Method} {c : Code} {H : Heap} {locs : List Loc} {cells slots : Nat} {Q : State → Prop} {cc : ByteArray} {own : String} {nL pc : Nat} {ls : Array Slot} {rest : List Value} {A : Nat → Prop} {E : EV} {X : va_W} {σ : St} {rv : Int32} {σf : St} (h : x_X9_restore σ = some (rv, σf)) (cx : CallFix p m c cc nL s a TBL own) (hV : AtW E (wC E σ ++ X) A s H locs) {idx : Nat} (w1 : Cond.methodLink own idx yX9_restore ∈ TBL) (hR : (rm_X9_restore).frames + 1 ≤ R.frames ∧ 8 + (2 + 11) + (rm_X9_restore).locals ≤ R.locals) (hcs : cells ≤ R.cells ∧ slots ≤ R.slots) (hls : ls.size = nL) (hcat : (rest.map fun v => v.category).sum ≤ 8) (d : decode cc pc = .ok (.invokevirtual idx, 3)) (kk : ∀ (H1 : Heap) (locs1 : List Loc), AtW E (wC E σf ++ X) A s H1 locs1 → W p l e R s m a below meth c H1 locs1 cells slots Q (F0 m (pc + 3) ls (.int rv :: rest))) : W p l e R s m a below meth c H locs cells slots Q (F0 m pc ls (.ref (eA E 0) :: rest)) :=
  r_calli (n := 0) (As := []) (q0 := 0) (ci := 9) (qq := (RX9, TX9, 14)) (c_X9_restore h) wC_fst rfl rfl mk_3_155 mk_3_156 mk_1_1 mk_3_157 (by decide +kernel) rfl ⟨rfl, rfl⟩ cx hV w1 hR hcs hls rfl hcat d kk
def x_X9_status (p1 : Int32) (σ : St) : Option Int32 :=
  (if p1 < 0 then
  some (-1)
  else
  (if 4 ≤ p1 then
  some (-1)
  else
  bd (x_X2_at 35 p1 σ) fun v1 =>
  some v1))
abbrev rm_X9_status : Room := { frames := 1, cells := 0, slots := 0, locals := 21 }
set_option maxHeartbeats 4000000 in
set_option maxRecDepth 100000 in
theorem c_X9_status {l : Launch} {E : EV} {X : va_W} {σ : St} {p1 : Int32} {rv : Int32} (h : x_X9_status p1 σ = some rv) : CM l yX9_status cX9_status 2 (some .int) rm_X9_status [.ref (eA E 0), .int p1] E (wC E σ ++ X) (wC E σ ++ X) (qI rv) := by
  refine CM.start (by decide) (Nat.le_of_ble_eq_true rfl) (fun p e s m a below meth c A ls cx hr hlk hV hl => ?_)
  have cx : CallFix p m c cX9_status 2 s a TBL RX9 := cx
  have hx := cx.1
  have hb := cx.2.1
  have hl : lv_has ls 2 [(0, .ref (eA E 0)), (1, .int p1)] := hl
  generalize hQ : EQ E (wC E σ ++ X) (qI rv) A s a below = QQ
  obtain ⟨H, hH⟩ : ∃ H, H = s.heap := ⟨_, rfl⟩
  obtain ⟨locs, hlocs⟩ : ∃ z, z = ([] : List Loc) := ⟨_, rfl⟩
  have hV : AtW E (wC E σ ++ X) A s H locs := by rw [hH, hlocs]; exact hV
  have goal : W p l e rm_X9_status s m a below meth c H locs 0 0 QQ (F0 m 0 ls []) := by
    unfold x_X9_status at h
    refine lv_iload_n hx hb dX9_status_0 rfl (lv_at hl 1 rfl) ?_
    refine lv_if_lt (tgt := 20) hx hb dX9_status_1 (by decide) (fun hc => ?_) (fun hc => ?_)
    · have h := ifp hc h
      refine lv_iconst (v := (-1)) hx hb dX9_status_20 (by decide) ?_
      have h1 := Option.some.inj h
      subst h1
      subst hQ
      exact r_ireti cx hr hlk hV dX9_status_21
    · have h := ifn hc h
      refine lv_iload_n hx hb dX9_status_4 rfl (lv_at hl 1 rfl) ?_
      refine lv_iconst (v := 4) hx hb dX9_status_5 (by decide) ?_
      refine lv_icmp_ge (tgt := 20) hx hb dX9_status_6 (by decide) (fun hc => ?_) (fun hc => ?_)
      · have h := ifp hc h
        refine lv_iconst (v := (-1)) hx hb dX9_status_20 (by decide) ?_
        have h1 := Option.some.inj h
        subst h1
        subst hQ
        exact r_ireti cx hr hlk hV dX9_status_21
      · have h := ifn hc h
        refine lv_aload_n hx hb dX9_status_9 rfl (lv_at hl 0 rfl) ?_
        refine G_X9_refused cx hV mk_2_145 dX9_status_10 ?_
        refine lv_iload_n hx hb dX9_status_13 rfl (lv_at hl 1 rfl) ?_
        refine bd_e h (fun v1 hq h => ?_)
        refine k_X2_at (by decide) hq cx hV mk_3_93 ⟨Nat.le_of_ble_eq_true rfl, Nat.le_of_ble_eq_true rfl⟩ ⟨Nat.zero_le _, Nat.zero_le _⟩ hl.1 (Nat.le_of_ble_eq_true rfl) dX9_status_14 (fun H locs hV => ?_)
        refine lv_goto (tgt := 21) hx hb dX9_status_17 (by decide) ?_
        have h1 := Option.some.inj h
        subst h1
        subst hQ
        exact r_ireti cx hr hlk hV dX9_status_21
  rw [hH, hlocs] at goal
  exact goal
theorem k_X9_status {p : Program} {l : Launch} {e : Env} {R : Room} {s : State} {m : MethodId} {a : Array Value} {below : List Frame} {meth : Method} {c : Code} {H : Heap} {locs : List Loc} {cells slots : Nat} {Q : State → Prop} {cc : ByteArray} {own : String} {nL pc : Nat} {ls : Array Slot} {rest : List Value} {A : Nat → Prop} {E : EV} {X : va_W} {σ : St} {p1 : Int32} {rv : Int32} (h : x_X9_status p1 σ = some rv) (cx : CallFix p m c cc nL s a TBL own) (hV : AtW E (wC E σ ++ X) A s H locs) {idx : Nat} (w1 : Cond.methodLink own idx yX9_status ∈ TBL) (hR : (rm_X9_status).frames + 1 ≤ R.frames ∧ 8 + (2 + 11) + (rm_X9_status).locals ≤ R.locals) (hcs : cells ≤ R.cells ∧ slots ≤ R.slots) (hls : ls.size = nL) (hcat : (rest.map fun v => v.category).sum ≤ 8) (d : decode cc pc = .ok (.invokevirtual idx, 3)) (kk : ∀ (H1 : Heap) (locs1 : List Loc), AtW E (wC E σ ++ X) A s H1 locs1 → W p l e R s m a below meth c H1 locs1 cells slots Q (F0 m (pc + 3) ls (.int rv :: rest))) : W p l e R s m a below meth c H locs cells slots Q (F0 m pc ls (.int p1 :: .ref (eA E 0) :: rest)) :=
  r_calli (n := 1) (As := [.int p1]) (q0 := 0) (ci := 9) (qq := (RX9, TX9, 14)) (c_X9_status h) rfl rfl rfl mk_3_159 mk_3_160 mk_1_1 mk_3_161 (by decide +kernel) rfl ⟨rfl, rfl⟩ cx hV w1 hR hcs hls rfl hcat d kk
def x_X9_count (p1 : Int32) (σ : St) : Option Int32 :=
  (if p1 = 0 then
  some (gI σ 10)
  else
  (if p1 = 1 then
  some (gI σ 8)
  else
  (if p1 = 2 then
  bd (x_X5_sold 0 (gI σ 1) σ) fun v1 =>
  some v1
  else
  some (-1))))
abbrev rm_X9_count : Room := { frames := 3, cells := 0, slots := 0, locals := 65 }
set_option maxHeartbeats 4000000 in
set_option maxRecDepth 100000 in
theorem c_X9_count {l : Launch} {E : EV} {X : va_W} {σ : St} {p1 : Int32} {rv : Int32} (h : x_X9_count p1 σ = some rv) : CM l yX9_count cX9_count 2 (some .int) rm_X9_count [.ref (eA E 0), .int p1] E (wC E σ ++ X) (wC E σ ++ X) (qI rv) := by
  refine CM.start (by decide) (Nat.le_of_ble_eq_true rfl) (fun p e s m a below meth c A ls cx hr hlk hV hl => ?_)
  have cx : CallFix p m c cX9_count 2 s a TBL RX9 := cx
  have hx := cx.1
  have hb := cx.2.1
  have hl : lv_has ls 2 [(0, .ref (eA E 0)), (1, .int p1)] := hl
  generalize hQ : EQ E (wC E σ ++ X) (qI rv) A s a below = QQ
  obtain ⟨H, hH⟩ : ∃ H, H = s.heap := ⟨_, rfl⟩
  obtain ⟨locs, hlocs⟩ : ∃ z, z = ([] : List Loc) := ⟨_, rfl⟩
  have hV : AtW E (wC E σ ++ X) A s H locs := by rw [hH, hlocs]; exact hV
  have goal : W p l e rm_X9_count s m a below meth c H locs 0 0 QQ (F0 m 0 ls []) := by
    unfold x_X9_count at h
    refine lv_iload_n hx hb dX9_count_0 rfl (lv_at hl 1 rfl) ?_
    by_cases hc0 : p1 = 0
    · have h := ifp hc0 h
      refine r_swIn (tgt := 28) cx hc0 dX9_count_1 (by decide) (by decide) rfl (by decide) ?_
      refine lv_aload_n hx hb dX9_count_28 rfl (lv_at hl 0 rfl) ?_
      refine G_X9_images cx hV mk_2_144 dX9_count_29 ?_
      have h1 := Option.some.inj h
      subst h1
      subst hQ
      exact r_ireti cx hr hlk hV dX9_count_32
    have h := ifn hc0 h
    by_cases hc1 : p1 = 1
    · have h := ifp hc1 h
      refine r_swIn (tgt := 33) cx hc1 dX9_count_1 (by decide) (by decide) rfl (by decide) ?_
      refine lv_aload_n hx hb dX9_count_33 rfl (lv_at hl 0 rfl) ?_
      refine G_X9_tapeBytes cx hV mk_2_139 dX9_count_34 ?_
      have h1 := Option.some.inj h
      subst h1
      subst hQ
      exact r_ireti cx hr hlk hV dX9_count_37
    have h := ifn hc1 h
    by_cases hc2 : p1 = 2
    · have h := ifp hc2 h
      refine r_swIn (tgt := 38) cx hc2 dX9_count_1 (by decide) (by decide) rfl (by decide) ?_
      refine lv_aload_n hx hb dX9_count_38 rfl (lv_at hl 0 rfl) ?_
      refine G_X9_stock cx hV mk_2_142 dX9_count_39 ?_
      refine lv_aload_n hx hb dX9_count_42 rfl (lv_at hl 0 rfl) ?_
      refine G_X9_told cx hV mk_2_141 dX9_count_43 ?_
      refine G_X7_sleeves cx hV (by decide) mk_1_60 dX9_count_46 ?_
      refine bd_e h (fun v1 hq h => ?_)
      refine k_X5_sold (by decide) hq cx hV mk_3_166 ⟨Nat.le_of_ble_eq_true rfl, Nat.le_of_ble_eq_true rfl⟩ ⟨Nat.zero_le _, Nat.zero_le _⟩ hl.1 (Nat.le_of_ble_eq_true rfl) dX9_count_49 (fun H locs hV => ?_)
      have h1 := Option.some.inj h
      subst h1
      subst hQ
      exact r_ireti cx hr hlk hV dX9_count_52
    have h := ifn hc2 h
    have hout : (p1).toInt < 0 ∨ 2 < (p1).toInt := by
      have g0 := lv_neT hc0 (a := 0) rfl
      have g1 := lv_neT hc1 (a := 1) rfl
      have g2 := lv_neT hc2 (a := 2) rfl
      omega
    refine lv_tableOut (tgt := 53) hx hb dX9_count_1 hout (by decide) ?_
    refine lv_iconst (v := (-1)) hx hb dX9_count_53 (by decide) ?_
    have h1 := Option.some.inj h
    subst h1
    subst hQ
    exact r_ireti cx hr hlk hV dX9_count_54
  rw [hH, hlocs] at goal
  exact goal
theorem k_X9_count {p : Program} {l : Launch} {e : Env} {R : Room} {s : State} {m : MethodId} {a : Array Value} {below : List Frame} {meth : Method} {c : Code} {H : Heap} {locs : List Loc} {cells slots : Nat} {Q : State → Prop} {cc : ByteArray} {own : String} {nL pc : Nat} {ls : Array Slot} {rest : List Value} {A : Nat → Prop} {E : EV} {X : va_W} {σ : St} {p1 : Int32} {rv : Int32} (h : x_X9_count p1 σ = some rv) (cx : CallFix p m c cc nL s a TBL own) (hV : AtW E (wC E σ ++ X) A s H locs) {idx : Nat} (w1 : Cond.methodLink own idx yX9_count ∈ TBL) (hR : (rm_X9_count).frames + 1 ≤ R.frames ∧ 8 + (2 + 11) + (rm_X9_count).locals ≤ R.locals) (hcs : cells ≤ R.cells ∧ slots ≤ R.slots) (hls : ls.size = nL) (hcat : (rest.map fun v => v.category).sum ≤ 8) (d : decode cc pc = .ok (.invokevirtual idx, 3)) (kk : ∀ (H1 : Heap) (locs1 : List Loc), AtW E (wC E σ ++ X) A s H1 locs1 → W p l e R s m a below meth c H1 locs1 cells slots Q (F0 m (pc + 3) ls (.int rv :: rest))) : W p l e R s m a below meth c H locs cells slots Q (F0 m pc ls (.int p1 :: .ref (eA E 0) :: rest)) :=
  r_calli (n := 1) (As := [.int p1]) (q0 := 0) (ci := 9) (qq := (RX9, TX9, 14)) (c_X9_count h) rfl rfl rfl mk_3_163 mk_3_164 mk_1_1 mk_3_165 (by decide +kernel) rfl ⟨rfl, rfl⟩ cx hV w1 hR hcs hls rfl hcat d kk
