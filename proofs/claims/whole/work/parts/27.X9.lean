def x_X9_putOnTape_L3 (p1 : Int32) (u1 : Int32) (σ2 : St) : Option (Bool × (Int32 × St)) :=
  (if u1 < 0 then
  some (false, (u1, σ2))
  else
  bd (x_X2_put 0 (gI σ2 8) ((usI p1 u1) &&& 255) σ2) fun σ3 =>
  bd (some (sI σ3 8 ((gI σ3 8) + 1))) fun σ4 =>
  some (true, ((u1 + (-8)), σ4)))
def x_X9_putOnTape (p1 : Int32) (σ : St) : Option St :=
  bd2 (lp (fun v : (Int32 × St) => x_X9_putOnTape_L3 p1 v.1 v.2) FU (24, σ)) fun z5 σ6 =>
  some σ6
abbrev rm_X9_putOnTape : Room := { frames := 1, cells := 0, slots := 0, locals := 22 }
set_option maxHeartbeats 4000000 in
set_option maxRecDepth 100000 in
theorem c_X9_putOnTape {l : Launch} {E : EV} {X : va_W} {σ : St} {p1 : Int32} {σf : St} (h : x_X9_putOnTape p1 σ = some σf) : CM l yX9_putOnTape cX9_putOnTape 3 none rm_X9_putOnTape [.ref (eA E 0), .int p1] E (wC E σ ++ X) (wC E σf ++ X) qV := by
  refine CM.start (by decide) (Nat.le_of_ble_eq_true rfl) (fun p e s m a below meth c A ls cx hr hlk hV hl => ?_)
  have cx : CallFix p m c cX9_putOnTape 3 s a TBL RX9 := cx
  have hx := cx.1
  have hb := cx.2.1
  have hl : lv_has ls 3 [(0, .ref (eA E 0)), (1, .int p1)] := hl
  generalize hQ : EQ E (wC E σf ++ X) qV A s a below = QQ
  obtain ⟨H, hH⟩ : ∃ H, H = s.heap := ⟨_, rfl⟩
  obtain ⟨locs, hlocs⟩ : ∃ z, z = ([] : List Loc) := ⟨_, rfl⟩
  have hV : AtW E (wC E σ ++ X) A s H locs := by rw [hH, hlocs]; exact hV
  have goal : W p l e rm_X9_putOnTape s m a below meth c H locs 0 0 QQ (F0 m 0 ls []) := by
    unfold x_X9_putOnTape at h
    refine lv_bipush (v := 24) hx hb dX9_putOnTape_0 (by decide) ?_
    refine lv_istore_n (lv' := [(2, .int 24), (0, .ref (eA E 0)), (1, .int p1)]) hx hb dX9_putOnTape_2 rfl hl (by decide) rfl (fun ls hl => ?_)
    refine bd2_e h (fun z5 σ6 ho h => ?_)
    refine (lp_rule (G := (fun v : (Int32 × St) => ∀ (H : Heap) (locs : List Loc) (ls : Array Slot), AtW E (wC E v.2 ++ X) A s H locs → lv_has ls 3 [(0, .ref (eA E 0)), (1, .int p1), (2, .int v.1)] → W p l e rm_X9_putOnTape s m a below meth c H locs 0 0 QQ (F0 m 3 ls []))) (K := (fun v : (Int32 × St) => ∀ (H : Heap) (locs : List Loc) (ls : Array Slot), AtW E (wC E v.2 ++ X) A s H locs → lv_has ls 3 [] → W p l e rm_X9_putOnTape s m a below meth c H locs 0 0 QQ (F0 m 41 ls []))) (fun v b1 y1 h hT1 hF1 => ?_) ho (fun H locs ls hV hl => ?_)) _ _ _ hV (lv_sub hl [1, 2, 0] rfl)
    · obtain ⟨u1, σ2⟩ := v
      have h : x_X9_putOnTape_L3 p1 u1 σ2 = some (b1, y1) := h
      intro H locs ls hV hl
      have hV : AtW E (wC E σ2 ++ X) A s H locs := hV
      have hl : lv_has ls 3 [(0, .ref (eA E 0)), (1, .int p1), (2, .int u1)] := hl
      unfold x_X9_putOnTape_L3 at h
      refine lv_iload_n hx hb dX9_putOnTape_3 rfl (lv_at hl 2 rfl) ?_
      refine lv_if_lt (tgt := 41) hx hb dX9_putOnTape_4 (by decide) (fun hc => ?_) (fun hc => ?_)
      · have h := ifp hc h
        cases h
        exact hF1 rfl _ _ _ hV (lv_sub hl [] rfl)
      · have h := ifn hc h
        refine lv_aload_n hx hb dX9_putOnTape_7 rfl (lv_at hl 0 rfl) ?_
        refine G_X9_tape cx hV mk_2_138 dX9_putOnTape_8 ?_
        refine lv_aload_n hx hb dX9_putOnTape_11 rfl (lv_at hl 0 rfl) ?_
        refine G_X9_tapeBytes cx hV mk_2_139 dX9_putOnTape_12 ?_
        refine lv_iload_n hx hb dX9_putOnTape_15 rfl (lv_at hl 1 rfl) ?_
        refine lv_iload_n hx hb dX9_putOnTape_16 rfl (lv_at hl 2 rfl) ?_
        refine lv_iushr (v := (usI p1 u1)) hx hb dX9_putOnTape_17 rfl ?_
        refine lv_sipush (v := 255) hx hb dX9_putOnTape_18 (by decide) ?_
        refine lv_iand hx hb dX9_putOnTape_21 ?_
        refine bd_e h (fun σ3 hq h => ?_)
        refine k_X2_put (by decide) hq cx hV mk_2_189 ⟨Nat.le_of_ble_eq_true rfl, Nat.le_of_ble_eq_true rfl⟩ ⟨Nat.zero_le _, Nat.zero_le _⟩ hl.1 (Nat.le_of_ble_eq_true rfl) dX9_putOnTape_22 (fun H locs hV => ?_)
        refine lv_aload_n hx hb dX9_putOnTape_25 rfl (lv_at hl 0 rfl) ?_
        refine lv_dup hx hb dX9_putOnTape_26 rfl ?_
        refine G_X9_tapeBytes cx hV mk_2_139 dX9_putOnTape_27 ?_
        refine lv_iconst (v := 1) hx hb dX9_putOnTape_30 (by decide) ?_
        refine lv_iadd hx hb dX9_putOnTape_31 ?_
        refine bd_e h (fun σ4 hq h => ?_)
        refine P_X9_tapeBytes cx hV hq mk_2_139 dX9_putOnTape_32 (fun H locs hV => ?_)
        refine lv_iinc (v := (u1 + (-8))) (lv' := [(2, .int (u1 + (-8))), (0, .ref (eA E 0)), (1, .int p1)]) hx hb dX9_putOnTape_35 hl (k := 2) rfl rfl (by decide) rfl (fun ls hl => ?_)
        refine lv_goto (tgt := 3) hx hb dX9_putOnTape_38 (by decide) ?_
        cases h
        exact hT1 rfl _ _ _ hV (lv_sub hl [1, 2, 0] rfl)
    · have hV : AtW E (wC E σ6 ++ X) A s H locs := hV
      have hl : lv_has ls 3 [] := hl
      have h1 := Option.some.inj h
      subst h1
      subst hQ
      exact r_vret cx hr hlk hV dX9_putOnTape_41
  rw [hH, hlocs] at goal
  exact goal
theorem k_X9_putOnTape {p : Program} {l : Launch} {e : Env} {R : Room} {s : State} {m : MethodId} {a : Array Value} {below : List Frame} {meth : Method} {c : Code} {H : Heap} {locs : List Loc} {cells slots : Nat} {Q : State → Prop} {cc : ByteArray} {own : String} {nL pc : Nat} {ls : Array Slot} {rest : List Value} {A : Nat → Prop} {E : EV} {X : va_W} {σ : St} {p1 : Int32} {σf : St} (h : x_X9_putOnTape p1 σ = some σf) (cx : CallFix p m c cc nL s a TBL own) (hV : AtW E (wC E σ ++ X) A s H locs) {idx : Nat} (w1 : Cond.methodLink own idx yX9_putOnTape ∈ TBL) (hR : (rm_X9_putOnTape).frames + 1 ≤ R.frames ∧ 8 + (3 + 11) + (rm_X9_putOnTape).locals ≤ R.locals) (hcs : cells ≤ R.cells ∧ slots ≤ R.slots) (hls : ls.size = nL) (hcat : (rest.map fun v => v.category).sum ≤ 8) (d : decode cc pc = .ok (.invokevirtual idx, 3)) (kk : ∀ (H1 : Heap) (locs1 : List Loc), AtW E (wC E σf ++ X) A s H1 locs1 → W p l e R s m a below meth c H1 locs1 cells slots Q (F0 m (pc + 3) ls (rest))) : W p l e R s m a below meth c H locs cells slots Q (F0 m pc ls (.int p1 :: .ref (eA E 0) :: rest)) :=
  r_callv (n := 1) (As := [.int p1]) (q0 := 0) (ci := 9) (qq := (RX9, TX9, 14)) (c_X9_putOnTape h) wC_fst rfl rfl mk_2_187 mk_P_0 mk_1_1 mk_2_188 (by decide +kernel) rfl ⟨rfl, rfl⟩ cx hV w1 hR hcs hls rfl hcat d kk
def x_X9_feed (p1 : Int32) (p2 : Int32) (p3 : Int32) (p4 : Int32) (p5 : Int32) (σ : St) : Option (Int32 × St) :=
  (if ((gI σ 8) + 20) ≤ 600 then
  bd (x_X9_putOnTape p1 σ) fun σ1 =>
  bd (x_X9_putOnTape p2 σ1) fun σ2 =>
  bd (x_X9_putOnTape p3 σ2) fun σ3 =>
  bd (x_X9_putOnTape p4 σ3) fun σ4 =>
  bd (x_X9_putOnTape p5 σ4) fun σ5 =>
  some ((gI σ5 8), σ5)
  else
  some ((-1), σ))
abbrev rm_X9_feed : Room := { frames := 2, cells := 0, slots := 0, locals := 44 }
set_option maxHeartbeats 4000000 in
set_option maxRecDepth 100000 in
theorem c_X9_feed {l : Launch} {E : EV} {X : va_W} {σ : St} {p1 : Int32} {p2 : Int32} {p3 : Int32} {p4 : Int32} {p5 : Int32} {rv : Int32} {σf : St} (h : x_X9_feed p1 p2 p3 p4 p5 σ = some (rv, σf)) : CM l yX9_feed cX9_feed 6 (some .int) rm_X9_feed [.ref (eA E 0), .int p1, .int p2, .int p3, .int p4, .int p5] E (wC E σ ++ X) (wC E σf ++ X) (qI rv) := by
  refine CM.start (by decide) (Nat.le_of_ble_eq_true rfl) (fun p e s m a below meth c A ls cx hr hlk hV hl => ?_)
  have cx : CallFix p m c cX9_feed 6 s a TBL RX9 := cx
  have hx := cx.1
  have hb := cx.2.1
  have hl : lv_has ls 6 [(0, .ref (eA E 0)), (1, .int p1), (2, .int p2), (3, .int p3), (4, .int p4), (5, .int p5)] := hl
  generalize hQ : EQ E (wC E σf ++ X) (qI rv) A s a below = QQ
  obtain ⟨H, hH⟩ : ∃ H, H = s.heap := ⟨_, rfl⟩
  obtain ⟨locs, hlocs⟩ : ∃ z, z = ([] : List Loc) := ⟨_, rfl⟩
  have hV : AtW E (wC E σ ++ X) A s H locs := by rw [hH, hlocs]; exact hV
  have goal : W p l e rm_X9_feed s m a below meth c H locs 0 0 QQ (F0 m 0 ls []) := by
    unfold x_X9_feed at h
    refine lv_aload_n hx hb dX9_feed_0 rfl (lv_at hl 0 rfl) ?_
    refine G_X9_tapeBytes cx hV mk_2_139 dX9_feed_1 ?_
    refine lv_bipush (v := 20) hx hb dX9_feed_4 (by decide) ?_
    refine lv_iadd hx hb dX9_feed_6 ?_
    refine lv_sipush (v := 600) hx hb dX9_feed_7 (by decide) ?_
    refine lv_icmp_le (tgt := 15) hx hb dX9_feed_10 (by decide) (fun hc => ?_) (fun hc => ?_)
    · have h := ifp hc h
      refine lv_aload_n hx hb dX9_feed_15 rfl (lv_at hl 0 rfl) ?_
      refine lv_iload_n hx hb dX9_feed_16 rfl (lv_at hl 1 rfl) ?_
      refine bd_e h (fun σ1 hq h => ?_)
      refine k_X9_putOnTape hq cx hV mk_2_185 ⟨Nat.le_of_ble_eq_true rfl, Nat.le_of_ble_eq_true rfl⟩ ⟨Nat.zero_le _, Nat.zero_le _⟩ hl.1 (Nat.le_of_ble_eq_true rfl) dX9_feed_17 (fun H locs hV => ?_)
      refine lv_aload_n hx hb dX9_feed_20 rfl (lv_at hl 0 rfl) ?_
      refine lv_iload_n hx hb dX9_feed_21 rfl (lv_at hl 2 rfl) ?_
      refine bd_e h (fun σ2 hq h => ?_)
      refine k_X9_putOnTape hq cx hV mk_2_185 ⟨Nat.le_of_ble_eq_true rfl, Nat.le_of_ble_eq_true rfl⟩ ⟨Nat.zero_le _, Nat.zero_le _⟩ hl.1 (Nat.le_of_ble_eq_true rfl) dX9_feed_22 (fun H locs hV => ?_)
      refine lv_aload_n hx hb dX9_feed_25 rfl (lv_at hl 0 rfl) ?_
      refine lv_iload_n hx hb dX9_feed_26 rfl (lv_at hl 3 rfl) ?_
      refine bd_e h (fun σ3 hq h => ?_)
      refine k_X9_putOnTape hq cx hV mk_2_185 ⟨Nat.le_of_ble_eq_true rfl, Nat.le_of_ble_eq_true rfl⟩ ⟨Nat.zero_le _, Nat.zero_le _⟩ hl.1 (Nat.le_of_ble_eq_true rfl) dX9_feed_27 (fun H locs hV => ?_)
      refine lv_aload_n hx hb dX9_feed_30 rfl (lv_at hl 0 rfl) ?_
      refine lv_iload hx hb dX9_feed_31 (lv_at hl 4 rfl) ?_
      refine bd_e h (fun σ4 hq h => ?_)
      refine k_X9_putOnTape hq cx hV mk_2_185 ⟨Nat.le_of_ble_eq_true rfl, Nat.le_of_ble_eq_true rfl⟩ ⟨Nat.zero_le _, Nat.zero_le _⟩ hl.1 (Nat.le_of_ble_eq_true rfl) dX9_feed_33 (fun H locs hV => ?_)
      refine lv_aload_n hx hb dX9_feed_36 rfl (lv_at hl 0 rfl) ?_
      refine lv_iload hx hb dX9_feed_37 (lv_at hl 5 rfl) ?_
      refine bd_e h (fun σ5 hq h => ?_)
      refine k_X9_putOnTape hq cx hV mk_2_185 ⟨Nat.le_of_ble_eq_true rfl, Nat.le_of_ble_eq_true rfl⟩ ⟨Nat.zero_le _, Nat.zero_le _⟩ hl.1 (Nat.le_of_ble_eq_true rfl) dX9_feed_39 (fun H locs hV => ?_)
      refine lv_aload_n hx hb dX9_feed_42 rfl (lv_at hl 0 rfl) ?_
      refine G_X9_tapeBytes cx hV mk_2_139 dX9_feed_43 ?_
      obtain ⟨h1, h2⟩ := Prod.mk.inj (Option.some.inj h)
      subst h1
      subst h2
      subst hQ
      exact r_ireti cx hr hlk hV dX9_feed_46
    · have h := ifn hc h
      refine lv_iconst (v := (-1)) hx hb dX9_feed_13 (by decide) ?_
      obtain ⟨h1, h2⟩ := Prod.mk.inj (Option.some.inj h)
      subst h1
      subst h2
      subst hQ
      exact r_ireti cx hr hlk hV dX9_feed_14
  rw [hH, hlocs] at goal
  exact goal
theorem k_X9_feed {p : Program} {l : Launch} {e : Env} {R : Room} {s : State} {m : MethodId} {a : Array Value} {below : List Frame} {meth : Method} {c : Code} {H : Heap} {locs : List Loc} {cells slots : Nat} {Q : State → Prop} {cc : ByteArray} {own : String} {nL pc : Nat} {ls : Array Slot} {rest : List Value} {A : Nat → Prop} {E : EV} {X : va_W} {σ : St} {p1 : Int32} {p2 : Int32} {p3 : Int32} {p4 : Int32} {p5 : Int32} {rv : Int32} {σf : St} (h : x_X9_feed p1 p2 p3 p4 p5 σ = some (rv, σf)) (cx : CallFix p m c cc nL s a TBL own) (hV : AtW E (wC E σ ++ X) A s H locs) {idx : Nat} (w1 : Cond.methodLink own idx yX9_feed ∈ TBL) (hR : (rm_X9_feed).frames + 1 ≤ R.frames ∧ 8 + (6 + 11) + (rm_X9_feed).locals ≤ R.locals) (hcs : cells ≤ R.cells ∧ slots ≤ R.slots) (hls : ls.size = nL) (hcat : (rest.map fun v => v.category).sum ≤ 8) (d : decode cc pc = .ok (.invokevirtual idx, 3)) (kk : ∀ (H1 : Heap) (locs1 : List Loc), AtW E (wC E σf ++ X) A s H1 locs1 → W p l e R s m a below meth c H1 locs1 cells slots Q (F0 m (pc + 3) ls (.int rv :: rest))) : W p l e R s m a below meth c H locs cells slots Q (F0 m pc ls (.int p5 :: .int p4 :: .int p3 :: .int p2 :: .int p1 :: .ref (eA E 0) :: rest)) :=
  r_calli (n := 5) (As := [.int p1, .int p2, .int p3, .int p4, .int p5]) (q0 := 0) (ci := 9) (qq := (RX9, TX9, 14)) (c_X9_feed h) wC_fst rfl rfl mk_2_182 mk_2_183 mk_1_1 mk_2_184 (by decide +kernel) rfl ⟨rfl, rfl⟩ cx hV w1 hR hcs hls rfl hcat d kk
def x_X9_fault (σ : St) : Option Int32 :=
  some (gI σ 9)
abbrev rm_X9_fault : Room := { frames := 0, cells := 0, slots := 0, locals := 0 }
set_option maxHeartbeats 4000000 in
set_option maxRecDepth 100000 in
theorem c_X9_fault {l : Launch} {E : EV} {X : va_W} {σ : St} {rv : Int32} (h : x_X9_fault σ = some rv) : CM l yX9_fault cX9_fault 1 (some .int) rm_X9_fault [.ref (eA E 0)] E (wC E σ ++ X) (wC E σ ++ X) (qI rv) := by
  refine CM.start (by decide) (Nat.le_of_ble_eq_true rfl) (fun p e s m a below meth c A ls cx hr hlk hV hl => ?_)
  have cx : CallFix p m c cX9_fault 1 s a TBL RX9 := cx
  have hx := cx.1
  have hb := cx.2.1
  have hl : lv_has ls 1 [(0, .ref (eA E 0))] := hl
  generalize hQ : EQ E (wC E σ ++ X) (qI rv) A s a below = QQ
  obtain ⟨H, hH⟩ : ∃ H, H = s.heap := ⟨_, rfl⟩
  obtain ⟨locs, hlocs⟩ : ∃ z, z = ([] : List Loc) := ⟨_, rfl⟩
  have hV : AtW E (wC E σ ++ X) A s H locs := by rw [hH, hlocs]; exact hV
  have goal : W p l e rm_X9_fault s m a below meth c H locs 0 0 QQ (F0 m 0 ls []) := by
    unfold x_X9_fault at h
    refine lv_aload_n hx hb dX9_fault_0 rfl (lv_at hl 0 rfl) ?_
    refine G_X9_faultPlace cx hV mk_2_140 dX9_fault_1 ?_
    have h1 := Option.some.inj h
    subst h1
    subst hQ
    exact r_ireti cx hr hlk hV dX9_fault_4
  rw [hH, hlocs] at goal
  exact goal
theorem k_X9_fault {p : Program} {l : Launch} {e : Env} {R : Room} {s : State} {m : MethodId} {a : Array Value} {below : List Frame} {meth : Method} {c : Code} {H : Heap} {locs : List Loc} {cells slots : Nat} {Q : State → Prop} {cc : ByteArray} {own : String} {nL pc : Nat} {ls : Array Slot} {rest : List Value} {A : Nat → Prop} {E : EV} {X : va_W} {σ : St} {rv : Int32} (h : x_X9_fault σ = some rv) (cx : CallFix p m c cc nL s a TBL own) (hV : AtW E (wC E σ ++ X) A s H locs) {idx : Nat} (w1 : Cond.methodLink own idx yX9_fault ∈ TBL) (hR : (rm_X9_fault).frames + 1 ≤ R.frames ∧ 8 + (1 + 11) + (rm_X9_fault).locals ≤ R.locals) (hcs : cells ≤ R.cells ∧ slots ≤ R.slots) (hls : ls.size = nL) (hcat : (rest.map fun v => v.category).sum ≤ 8) (d : decode cc pc = .ok (.invokevirtual idx, 3)) (kk : ∀ (H1 : Heap) (locs1 : List Loc), AtW E (wC E σ ++ X) A s H1 locs1 → W p l e R s m a below meth c H1 locs1 cells slots Q (F0 m (pc + 3) ls (.int rv :: rest))) : W p l e R s m a below meth c H locs cells slots Q (F0 m pc ls (.ref (eA E 0) :: rest)) :=
  r_calli (n := 0) (As := []) (q0 := 0) (ci := 9) (qq := (RX9, TX9, 14)) (c_X9_fault h) rfl rfl rfl mk_2_191 mk_2_192 mk_1_1 mk_2_193 (by decide +kernel) rfl ⟨rfl, rfl⟩ cx hV w1 hR hcs hls rfl hcat d kk
def x_X9_kindOf (p1 : Int32) (σ : St) : Option Int32 :=
  bd (x_X5_lies 0 p1 σ) fun v1 =>
  (if v1 = 0 then
  some 4
  else
  bd (x_X2_at 17 p1 σ) fun v2 =>
  (if v2 = p1 then
  bd (x_X5_offOwn 0 0 p1 σ) fun v3 =>
  some (mnI 2 v3)
  else
  some 3))
abbrev rm_X9_kindOf : Room := { frames := 3, cells := 0, slots := 0, locals := 65 }
set_option maxHeartbeats 4000000 in
set_option maxRecDepth 100000 in
theorem c_X9_kindOf {l : Launch} {E : EV} {X : va_W} {σ : St} {p1 : Int32} {rv : Int32} (h : x_X9_kindOf p1 σ = some rv) : CM l yX9_kindOf cX9_kindOf 2 (some .int) rm_X9_kindOf [.ref (eA E 0), .int p1] E (wC E σ ++ X) (wC E σ ++ X) (qI rv) := by
  refine CM.start (by decide) (Nat.le_of_ble_eq_true rfl) (fun p e s m a below meth c A ls cx hr hlk hV hl => ?_)
  have cx : CallFix p m c cX9_kindOf 2 s a TBL RX9 := cx
  have hx := cx.1
  have hb := cx.2.1
  have hl : lv_has ls 2 [(0, .ref (eA E 0)), (1, .int p1)] := hl
  generalize hQ : EQ E (wC E σ ++ X) (qI rv) A s a below = QQ
  obtain ⟨H, hH⟩ : ∃ H, H = s.heap := ⟨_, rfl⟩
  obtain ⟨locs, hlocs⟩ : ∃ z, z = ([] : List Loc) := ⟨_, rfl⟩
  have hV : AtW E (wC E σ ++ X) A s H locs := by rw [hH, hlocs]; exact hV
  have goal : W p l e rm_X9_kindOf s m a below meth c H locs 0 0 QQ (F0 m 0 ls []) := by
    unfold x_X9_kindOf at h
    refine lv_aload_n hx hb dX9_kindOf_0 rfl (lv_at hl 0 rfl) ?_
    refine G_X9_stock cx hV mk_2_142 dX9_kindOf_1 ?_
    refine lv_iload_n hx hb dX9_kindOf_4 rfl (lv_at hl 1 rfl) ?_
    refine bd_e h (fun v1 hq h => ?_)
    refine k_X5_lies (by decide) hq cx hV mk_5_21 ⟨Nat.le_of_ble_eq_true rfl, Nat.le_of_ble_eq_true rfl⟩ ⟨Nat.zero_le _, Nat.zero_le _⟩ hl.1 (Nat.le_of_ble_eq_true rfl) dX9_kindOf_5 (fun H locs hV => ?_)
    refine lv_if_ne (tgt := 13) hx hb dX9_kindOf_8 (by decide) (fun hc => ?_) (fun hc => ?_)
    · have h := ifn hc h
      refine lv_aload_n hx hb dX9_kindOf_13 rfl (lv_at hl 0 rfl) ?_
      refine G_X9_stock cx hV mk_2_142 dX9_kindOf_14 ?_
      refine G_X5_discs cx hV (by decide) mk_1_129 dX9_kindOf_17 ?_
      refine lv_iload_n hx hb dX9_kindOf_20 rfl (lv_at hl 1 rfl) ?_
      refine bd_e h (fun v2 hq h => ?_)
      refine k_X2_at (by decide) hq cx hV mk_3_93 ⟨Nat.le_of_ble_eq_true rfl, Nat.le_of_ble_eq_true rfl⟩ ⟨Nat.zero_le _, Nat.zero_le _⟩ hl.1 (Nat.le_of_ble_eq_true rfl) dX9_kindOf_21 (fun H locs hV => ?_)
      refine lv_iload_n hx hb dX9_kindOf_24 rfl (lv_at hl 1 rfl) ?_
      refine lv_icmp_eq (tgt := 30) hx hb dX9_kindOf_25 (by decide) (fun hc => ?_) (fun hc => ?_)
      · have h := ifp hc h
        refine lv_iconst (v := 2) hx hb dX9_kindOf_30 (by decide) ?_
        refine lv_aload_n hx hb dX9_kindOf_31 rfl (lv_at hl 0 rfl) ?_
        refine G_X9_stock cx hV mk_2_142 dX9_kindOf_32 ?_
        refine lv_aload_n hx hb dX9_kindOf_35 rfl (lv_at hl 0 rfl) ?_
        refine G_X9_told cx hV mk_2_141 dX9_kindOf_36 ?_
        refine lv_iload_n hx hb dX9_kindOf_39 rfl (lv_at hl 1 rfl) ?_
        refine bd_e h (fun v3 hq h => ?_)
        refine k_X5_offOwn (by decide) (by decide) hq cx hV mk_3_98 ⟨Nat.le_of_ble_eq_true rfl, Nat.le_of_ble_eq_true rfl⟩ ⟨Nat.zero_le _, Nat.zero_le _⟩ hl.1 (Nat.le_of_ble_eq_true rfl) dX9_kindOf_40 (fun H locs hV => ?_)
        refine r_min cx hl.1 mk_5_22 mk_3_78 mk_1_20 mk_3_79 (Nat.le_of_ble_eq_true rfl) (Nat.le_of_ble_eq_true rfl) ⟨Nat.zero_le _, Nat.zero_le _⟩ dX9_kindOf_43 ?_
        have h1 := Option.some.inj h
        subst h1
        subst hQ
        exact r_ireti cx hr hlk hV dX9_kindOf_46
      · have h := ifn hc h
        refine lv_iconst (v := 3) hx hb dX9_kindOf_28 (by decide) ?_
        have h1 := Option.some.inj h
        subst h1
        subst hQ
        exact r_ireti cx hr hlk hV dX9_kindOf_29
    · have h := ifp hc h
      refine lv_iconst (v := 4) hx hb dX9_kindOf_11 (by decide) ?_
      have h1 := Option.some.inj h
      subst h1
      subst hQ
      exact r_ireti cx hr hlk hV dX9_kindOf_12
  rw [hH, hlocs] at goal
  exact goal
theorem k_X9_kindOf {p : Program} {l : Launch} {e : Env} {R : Room} {s : State} {m : MethodId} {a : Array Value} {below : List Frame} {meth : Method} {c : Code} {H : Heap} {locs : List Loc} {cells slots : Nat} {Q : State → Prop} {cc : ByteArray} {own : String} {nL pc : Nat} {ls : Array Slot} {rest : List Value} {A : Nat → Prop} {E : EV} {X : va_W} {σ : St} {p1 : Int32} {rv : Int32} (h : x_X9_kindOf p1 σ = some rv) (cx : CallFix p m c cc nL s a TBL own) (hV : AtW E (wC E σ ++ X) A s H locs) {idx : Nat} (w1 : Cond.methodLink own idx yX9_kindOf ∈ TBL) (hR : (rm_X9_kindOf).frames + 1 ≤ R.frames ∧ 8 + (2 + 11) + (rm_X9_kindOf).locals ≤ R.locals) (hcs : cells ≤ R.cells ∧ slots ≤ R.slots) (hls : ls.size = nL) (hcat : (rest.map fun v => v.category).sum ≤ 8) (d : decode cc pc = .ok (.invokevirtual idx, 3)) (kk : ∀ (H1 : Heap) (locs1 : List Loc), AtW E (wC E σ ++ X) A s H1 locs1 → W p l e R s m a below meth c H1 locs1 cells slots Q (F0 m (pc + 3) ls (.int rv :: rest))) : W p l e R s m a below meth c H locs cells slots Q (F0 m pc ls (.int p1 :: .ref (eA E 0) :: rest)) :=
  r_calli (n := 1) (As := [.int p1]) (q0 := 0) (ci := 9) (qq := (RX9, TX9, 14)) (c_X9_kindOf h) rfl rfl rfl mk_5_19 mk_P_39 mk_1_1 mk_5_20 (by decide +kernel) rfl ⟨rfl, rfl⟩ cx hV w1 hR hcs hls rfl hcat d kk
def x_X9_day (p1 : Int32) (σ : St) : Option (Int32 × St) :=
  bd (x_X7_leftBits 0 σ) fun v1 =>
  bd (x_X1_go p1 v1 0 σ) fun σ2 =>
  bd (x_X5_copy 0 4 σ2) fun σ3 =>
  bd (x_X2_sum 36 σ3) fun v4 =>
  some (v4, σ3)
abbrev rm_X9_day : Room := { frames := 7, cells := 0, slots := 0, locals := 168 }
set_option maxHeartbeats 4000000 in
set_option maxRecDepth 100000 in
theorem c_X9_day {l : Launch} {E : EV} {X : va_W} {σ : St} {p1 : Int32} {rv : Int32} {σf : St} (h : x_X9_day p1 σ = some (rv, σf)) : CM l yX9_day cX9_day 2 (some .int) rm_X9_day [.ref (eA E 0), .int p1] E (wC E σ ++ X) (wC E σf ++ X) (qI rv) := by
  refine CM.start (by decide) (Nat.le_of_ble_eq_true rfl) (fun p e s m a below meth c A ls cx hr hlk hV hl => ?_)
  have cx : CallFix p m c cX9_day 2 s a TBL RX9 := cx
  have hx := cx.1
  have hb := cx.2.1
  have hl : lv_has ls 2 [(0, .ref (eA E 0)), (1, .int p1)] := hl
  generalize hQ : EQ E (wC E σf ++ X) (qI rv) A s a below = QQ
  obtain ⟨H, hH⟩ : ∃ H, H = s.heap := ⟨_, rfl⟩
  obtain ⟨locs, hlocs⟩ : ∃ z, z = ([] : List Loc) := ⟨_, rfl⟩
  have hV : AtW E (wC E σ ++ X) A s H locs := by rw [hH, hlocs]; exact hV
  have goal : W p l e rm_X9_day s m a below meth c H locs 0 0 QQ (F0 m 0 ls []) := by
    unfold x_X9_day at h
    refine lv_aload_n hx hb dX9_day_0 rfl (lv_at hl 0 rfl) ?_
    refine G_X9_theDay cx hV mk_2_147 dX9_day_1 ?_
    refine lv_iload_n hx hb dX9_day_4 rfl (lv_at hl 1 rfl) ?_
    refine lv_aload_n hx hb dX9_day_5 rfl (lv_at hl 0 rfl) ?_
    refine G_X9_told cx hV mk_2_141 dX9_day_6 ?_
    refine bd_e h (fun v1 hq h => ?_)
    refine k_X7_leftBits (by decide) hq cx hV mk_2_198 ⟨Nat.le_of_ble_eq_true rfl, Nat.le_of_ble_eq_true rfl⟩ ⟨Nat.zero_le _, Nat.zero_le _⟩ hl.1 (Nat.le_of_ble_eq_true rfl) dX9_day_9 (fun H locs hV => ?_)
    refine lv_iconst (v := 0) hx hb dX9_day_12 (by decide) ?_
    refine bd_e h (fun σ2 hq h => ?_)
    refine k_X1_go hq cx hV mk_2_207 ⟨Nat.le_of_ble_eq_true rfl, Nat.le_of_ble_eq_true rfl⟩ ⟨Nat.zero_le _, Nat.zero_le _⟩ hl.1 (Nat.le_of_ble_eq_true rfl) dX9_day_13 (fun H locs hV => ?_)
    refine lv_aload_n hx hb dX9_day_16 rfl (lv_at hl 0 rfl) ?_
    refine G_X9_stock cx hV mk_2_142 dX9_day_17 ?_
    refine lv_aload_n hx hb dX9_day_20 rfl (lv_at hl 0 rfl) ?_
    refine G_X9_theDay cx hV mk_2_147 dX9_day_21 ?_
    refine G_X1_stock cx hV mk_1_191 dX9_day_24 ?_
    refine bd_e h (fun σ3 hq h => ?_)
    refine k_X5_copy (by decide) (by decide) hq cx hV mk_3_87 ⟨Nat.le_of_ble_eq_true rfl, Nat.le_of_ble_eq_true rfl⟩ ⟨Nat.zero_le _, Nat.zero_le _⟩ hl.1 (Nat.le_of_ble_eq_true rfl) dX9_day_27 (fun H locs hV => ?_)
    refine lv_aload_n hx hb dX9_day_30 rfl (lv_at hl 0 rfl) ?_
    refine G_X9_theDay cx hV mk_2_147 dX9_day_31 ?_
    refine G_X1_bought cx hV mk_1_193 dX9_day_34 ?_
    refine bd_e h (fun v4 hq h => ?_)
    refine k_X2_sum (by decide) hq cx hV mk_3_88 ⟨Nat.le_of_ble_eq_true rfl, Nat.le_of_ble_eq_true rfl⟩ ⟨Nat.zero_le _, Nat.zero_le _⟩ hl.1 (Nat.le_of_ble_eq_true rfl) dX9_day_37 (fun H locs hV => ?_)
    obtain ⟨h1, h2⟩ := Prod.mk.inj (Option.some.inj h)
    subst h1
    subst h2
    subst hQ
    exact r_ireti cx hr hlk hV dX9_day_40
  rw [hH, hlocs] at goal
  exact goal
theorem k_X9_day {p : Program} {l : Launch} {e : Env} {R : Room} {s : State} {m : MethodId} {a : Array Value} {below : List Frame} {meth : Method} {c : Code} {H : Heap} {locs : List Loc} {cells slots : Nat} {Q : State → Prop} {cc : ByteArray} {own : String} {nL pc : Nat} {ls : Array Slot} {rest : List Value} {A : Nat → Prop} {E : EV} {X : va_W} {σ : St} {p1 : Int32} {rv : Int32} {σf : St} (h : x_X9_day p1 σ = some (rv, σf)) (cx : CallFix p m c cc nL s a TBL own) (hV : AtW E (wC E σ ++ X) A s H locs) {idx : Nat} (w1 : Cond.methodLink own idx yX9_day ∈ TBL) (hR : (rm_X9_day).frames + 1 ≤ R.frames ∧ 8 + (2 + 11) + (rm_X9_day).locals ≤ R.locals) (hcs : cells ≤ R.cells ∧ slots ≤ R.slots) (hls : ls.size = nL) (hcat : (rest.map fun v => v.category).sum ≤ 8) (d : decode cc pc = .ok (.invokevirtual idx, 3)) (kk : ∀ (H1 : Heap) (locs1 : List Loc), AtW E (wC E σf ++ X) A s H1 locs1 → W p l e R s m a below meth c H1 locs1 cells slots Q (F0 m (pc + 3) ls (.int rv :: rest))) : W p l e R s m a below meth c H locs cells slots Q (F0 m pc ls (.int p1 :: .ref (eA E 0) :: rest)) :=
  r_calli (n := 1) (As := [.int p1]) (q0 := 0) (ci := 9) (qq := (RX9, TX9, 14)) (c_X9_day h) wC_fst rfl rfl mk_2_195 mk_2_196 mk_1_1 mk_2_197 (by decide +kernel) rfl ⟨rfl, rfl⟩ cx hV w1 hR hcs hls rfl hcat d kk
def x_X9_pace_L4 (σ : St) (u1 : Int32) (u2 : Int32) : Option (Bool × (Int32 × Int32)) :=
  (if 8 < u2 then
  some (false, (u1, u2))
  else
  bd (x_X2_at 6 u2 σ) fun v3 =>
  bd (x_X2_at 6 u1 σ) fun v4 =>
  (if (u2 * (8 - v3)) ≤ (u1 * (8 - v4)) then
  some (true, (u1, (u2 + 1)))
  else
  some (true, (u2, (u2 + 1)))))
def x_X9_pace (σ : St) : Option Int32 :=
  bd2 (lp (fun v : (Int32 × Int32) => x_X9_pace_L4 σ v.1 v.2) FU (1, 2)) fun z5 z6 =>
  some z5
abbrev rm_X9_pace : Room := { frames := 1, cells := 0, slots := 0, locals := 21 }
set_option maxHeartbeats 4000000 in
set_option maxRecDepth 100000 in
theorem c_X9_pace {l : Launch} {E : EV} {X : va_W} {σ : St} {rv : Int32} (h : x_X9_pace σ = some rv) : CM l yX9_pace cX9_pace 3 (some .int) rm_X9_pace [.ref (eA E 0)] E (wC E σ ++ X) (wC E σ ++ X) (qI rv) := by
  refine CM.start (by decide) (Nat.le_of_ble_eq_true rfl) (fun p e s m a below meth c A ls cx hr hlk hV hl => ?_)
  have cx : CallFix p m c cX9_pace 3 s a TBL RX9 := cx
  have hx := cx.1
  have hb := cx.2.1
  have hl : lv_has ls 3 [(0, .ref (eA E 0))] := hl
  generalize hQ : EQ E (wC E σ ++ X) (qI rv) A s a below = QQ
  obtain ⟨H, hH⟩ : ∃ H, H = s.heap := ⟨_, rfl⟩
  obtain ⟨locs, hlocs⟩ : ∃ z, z = ([] : List Loc) := ⟨_, rfl⟩
  have hV : AtW E (wC E σ ++ X) A s H locs := by rw [hH, hlocs]; exact hV
  have goal : W p l e rm_X9_pace s m a below meth c H locs 0 0 QQ (F0 m 0 ls []) := by
    unfold x_X9_pace at h
    refine lv_iconst (v := 1) hx hb dX9_pace_0 (by decide) ?_
    refine lv_istore_n (lv' := [(1, .int 1), (0, .ref (eA E 0))]) hx hb dX9_pace_1 rfl hl (by decide) rfl (fun ls hl => ?_)
    refine lv_iconst (v := 2) hx hb dX9_pace_2 (by decide) ?_
    refine lv_istore_n (lv' := [(2, .int 2), (1, .int 1), (0, .ref (eA E 0))]) hx hb dX9_pace_3 rfl hl (by decide) rfl (fun ls hl => ?_)
    refine bd2_e h (fun z5 z6 ho h => ?_)
    refine (lp_rule (G := (fun v : (Int32 × Int32) => ∀ (H : Heap) (locs : List Loc) (ls : Array Slot), AtW E (wC E σ ++ X) A s H locs → lv_has ls 3 [(0, .ref (eA E 0)), (1, .int v.1), (2, .int v.2)] → W p l e rm_X9_pace s m a below meth c H locs 0 0 QQ (F0 m 4 ls []))) (K := (fun v : (Int32 × Int32) => ∀ (H : Heap) (locs : List Loc) (ls : Array Slot), AtW E (wC E σ ++ X) A s H locs → lv_has ls 3 [(1, .int v.1)] → W p l e rm_X9_pace s m a below meth c H locs 0 0 QQ (F0 m 53 ls []))) (fun v b1 y1 h hT1 hF1 => ?_) ho (fun H locs ls hV hl => ?_)) _ _ _ hV (lv_sub hl [2, 1, 0] rfl)
    · obtain ⟨u1, u2⟩ := v
      have h : x_X9_pace_L4 σ u1 u2 = some (b1, y1) := h
      intro H locs ls hV hl
      have hV : AtW E (wC E σ ++ X) A s H locs := hV
      have hl : lv_has ls 3 [(0, .ref (eA E 0)), (1, .int u1), (2, .int u2)] := hl
      unfold x_X9_pace_L4 at h
      refine lv_iload_n hx hb dX9_pace_4 rfl (lv_at hl 2 rfl) ?_
      refine lv_bipush (v := 8) hx hb dX9_pace_5 (by decide) ?_
      refine lv_icmp_gt (tgt := 53) hx hb dX9_pace_7 (by decide) (fun hc => ?_) (fun hc => ?_)
      · have h := ifp hc h
        cases h
        exact hF1 rfl _ _ _ hV (lv_sub hl [1] rfl)
      · have h := ifn hc h
        refine lv_iload_n hx hb dX9_pace_10 rfl (lv_at hl 2 rfl) ?_
        refine lv_bipush (v := 8) hx hb dX9_pace_11 (by decide) ?_
        refine lv_aload_n hx hb dX9_pace_13 rfl (lv_at hl 0 rfl) ?_
        refine G_X9_told cx hV mk_2_141 dX9_pace_14 ?_
        refine G_X7_misses cx hV (by decide) mk_1_82 dX9_pace_17 ?_
        refine lv_iload_n hx hb dX9_pace_20 rfl (lv_at hl 2 rfl) ?_
        refine bd_e h (fun v3 hq h => ?_)
        refine k_X2_at (by decide) hq cx hV mk_3_93 ⟨Nat.le_of_ble_eq_true rfl, Nat.le_of_ble_eq_true rfl⟩ ⟨Nat.zero_le _, Nat.zero_le _⟩ hl.1 (Nat.le_of_ble_eq_true rfl) dX9_pace_21 (fun H locs hV => ?_)
        refine lv_isub hx hb dX9_pace_24 ?_
        refine lv_imul hx hb dX9_pace_25 ?_
        refine lv_iload_n hx hb dX9_pace_26 rfl (lv_at hl 1 rfl) ?_
        refine lv_bipush (v := 8) hx hb dX9_pace_27 (by decide) ?_
        refine lv_aload_n hx hb dX9_pace_29 rfl (lv_at hl 0 rfl) ?_
        refine G_X9_told cx hV mk_2_141 dX9_pace_30 ?_
        refine G_X7_misses cx hV (by decide) mk_1_82 dX9_pace_33 ?_
        refine lv_iload_n hx hb dX9_pace_36 rfl (lv_at hl 1 rfl) ?_
        refine bd_e h (fun v4 hq h => ?_)
        refine k_X2_at (by decide) hq cx hV mk_3_93 ⟨Nat.le_of_ble_eq_true rfl, Nat.le_of_ble_eq_true rfl⟩ ⟨Nat.zero_le _, Nat.zero_le _⟩ hl.1 (Nat.le_of_ble_eq_true rfl) dX9_pace_37 (fun H locs hV => ?_)
        refine lv_isub hx hb dX9_pace_40 ?_
        refine lv_imul hx hb dX9_pace_41 ?_
        refine lv_icmp_le (tgt := 47) hx hb dX9_pace_42 (by decide) (fun hc => ?_) (fun hc => ?_)
        · have h := ifp hc h
          refine lv_iinc (v := (u2 + 1)) (lv' := [(2, .int (u2 + 1)), (0, .ref (eA E 0)), (1, .int u1)]) hx hb dX9_pace_47 hl (k := 2) rfl rfl (by decide) rfl (fun ls hl => ?_)
          refine lv_goto (tgt := 4) hx hb dX9_pace_50 (by decide) ?_
          cases h
          exact hT1 rfl _ _ _ hV (lv_sub hl [1, 2, 0] rfl)
        · have h := ifn hc h
          refine lv_iload_n hx hb dX9_pace_45 rfl (lv_at hl 2 rfl) ?_
          refine lv_istore_n (lv' := [(1, .int u2), (0, .ref (eA E 0)), (2, .int u2)]) hx hb dX9_pace_46 rfl hl (by decide) rfl (fun ls hl => ?_)
          refine lv_iinc (v := (u2 + 1)) (lv' := [(2, .int (u2 + 1)), (1, .int u2), (0, .ref (eA E 0))]) hx hb dX9_pace_47 hl (k := 2) rfl rfl (by decide) rfl (fun ls hl => ?_)
          refine lv_goto (tgt := 4) hx hb dX9_pace_50 (by decide) ?_
          cases h
          exact hT1 rfl _ _ _ hV (lv_sub hl [2, 1, 0] rfl)
    · have hV : AtW E (wC E σ ++ X) A s H locs := hV
      have hl : lv_has ls 3 [(1, .int z5)] := hl
      refine lv_iload_n hx hb dX9_pace_53 rfl (lv_at hl 0 rfl) ?_
      have h1 := Option.some.inj h
      subst h1
      subst hQ
      exact r_ireti cx hr hlk hV dX9_pace_54
  rw [hH, hlocs] at goal
  exact goal
theorem k_X9_pace {p : Program} {l : Launch} {e : Env} {R : Room} {s : State} {m : MethodId} {a : Array Value} {below : List Frame} {meth : Method} {c : Code} {H : Heap} {locs : List Loc} {cells slots : Nat} {Q : State → Prop} {cc : ByteArray} {own : String} {nL pc : Nat} {ls : Array Slot} {rest : List Value} {A : Nat → Prop} {E : EV} {X : va_W} {σ : St} {rv : Int32} (h : x_X9_pace σ = some rv) (cx : CallFix p m c cc nL s a TBL own) (hV : AtW E (wC E σ ++ X) A s H locs) {idx : Nat} (w1 : Cond.methodLink own idx yX9_pace ∈ TBL) (hR : (rm_X9_pace).frames + 1 ≤ R.frames ∧ 8 + (3 + 11) + (rm_X9_pace).locals ≤ R.locals) (hcs : cells ≤ R.cells ∧ slots ≤ R.slots) (hls : ls.size = nL) (hcat : (rest.map fun v => v.category).sum ≤ 8) (d : decode cc pc = .ok (.invokevirtual idx, 3)) (kk : ∀ (H1 : Heap) (locs1 : List Loc), AtW E (wC E σ ++ X) A s H1 locs1 → W p l e R s m a below meth c H1 locs1 cells slots Q (F0 m (pc + 3) ls (.int rv :: rest))) : W p l e R s m a below meth c H locs cells slots Q (F0 m pc ls (.ref (eA E 0) :: rest)) :=
  r_calli (n := 0) (As := []) (q0 := 0) (ci := 9) (qq := (RX9, TX9, 14)) (c_X9_pace h) rfl rfl rfl mk_3_90 mk_3_91 mk_1_1 mk_3_92 (by decide +kernel) rfl ⟨rfl, rfl⟩ cx hV w1 hR hcs hls rfl hcat d kk
def x_X9_sort_L4 (u1 : Int32) (u2 : Int32) (σ3 : St) : Option (Bool × (Int32 × Int32 × St)) :=
  (if (gI σ3 1) ≤ u2 then
  some (false, (u1, u2, σ3))
  else
  bd (x_X5_offOwn 0 0 u2 σ3) fun v4 =>
  (if v4 ≤ 0 then
  some (true, (u1, (u2 + 1), σ3))
  else
  bd (x_X7_ofSleeve 0 u2 3 σ3) fun v5 =>
  bd (x_X5_putBehind 0 u2 v5 σ3) fun σ6 =>
  some (true, ((u1 + 1), (u2 + 1), σ6))))
def x_X9_sort (σ : St) : Option (Int32 × St) :=
  bd3 (lp (fun v : (Int32 × Int32 × St) => x_X9_sort_L4 v.1 v.2.1 v.2.2) FU (0, 0, σ)) fun z7 z8 σ9 =>
  some (z7, σ9)
abbrev rm_X9_sort : Room := { frames := 3, cells := 0, slots := 0, locals := 68 }
set_option maxHeartbeats 4000000 in
set_option maxRecDepth 100000 in
theorem c_X9_sort {l : Launch} {E : EV} {X : va_W} {σ : St} {rv : Int32} {σf : St} (h : x_X9_sort σ = some (rv, σf)) : CM l yX9_sort cX9_sort 3 (some .int) rm_X9_sort [.ref (eA E 0)] E (wC E σ ++ X) (wC E σf ++ X) (qI rv) := by
  refine CM.start (by decide) (Nat.le_of_ble_eq_true rfl) (fun p e s m a below meth c A ls cx hr hlk hV hl => ?_)
  have cx : CallFix p m c cX9_sort 3 s a TBL RX9 := cx
  have hx := cx.1
  have hb := cx.2.1
  have hl : lv_has ls 3 [(0, .ref (eA E 0))] := hl
  generalize hQ : EQ E (wC E σf ++ X) (qI rv) A s a below = QQ
  obtain ⟨H, hH⟩ : ∃ H, H = s.heap := ⟨_, rfl⟩
  obtain ⟨locs, hlocs⟩ : ∃ z, z = ([] : List Loc) := ⟨_, rfl⟩
  have hV : AtW E (wC E σ ++ X) A s H locs := by rw [hH, hlocs]; exact hV
  have goal : W p l e rm_X9_sort s m a below meth c H locs 0 0 QQ (F0 m 0 ls []) := by
    unfold x_X9_sort at h
    refine lv_iconst (v := 0) hx hb dX9_sort_0 (by decide) ?_
    refine lv_istore_n (lv' := [(1, .int 0), (0, .ref (eA E 0))]) hx hb dX9_sort_1 rfl hl (by decide) rfl (fun ls hl => ?_)
    refine lv_iconst (v := 0) hx hb dX9_sort_2 (by decide) ?_
    refine lv_istore_n (lv' := [(2, .int 0), (1, .int 0), (0, .ref (eA E 0))]) hx hb dX9_sort_3 rfl hl (by decide) rfl (fun ls hl => ?_)
    refine bd3_e h (fun z7 z8 σ9 ho h => ?_)
    refine (lp_rule (G := (fun v : (Int32 × Int32 × St) => ∀ (H : Heap) (locs : List Loc) (ls : Array Slot), AtW E (wC E v.2.2 ++ X) A s H locs → lv_has ls 3 [(0, .ref (eA E 0)), (1, .int v.1), (2, .int v.2.1)] → W p l e rm_X9_sort s m a below meth c H locs 0 0 QQ (F0 m 4 ls []))) (K := (fun v : (Int32 × Int32 × St) => ∀ (H : Heap) (locs : List Loc) (ls : Array Slot), AtW E (wC E v.2.2 ++ X) A s H locs → lv_has ls 3 [(1, .int v.1)] → W p l e rm_X9_sort s m a below meth c H locs 0 0 QQ (F0 m 56 ls []))) (fun v b1 y1 h hT1 hF1 => ?_) ho (fun H locs ls hV hl => ?_)) _ _ _ hV (lv_sub hl [2, 1, 0] rfl)
    · obtain ⟨u1, u2, σ3⟩ := v
      have h : x_X9_sort_L4 u1 u2 σ3 = some (b1, y1) := h
      intro H locs ls hV hl
      have hV : AtW E (wC E σ3 ++ X) A s H locs := hV
      have hl : lv_has ls 3 [(0, .ref (eA E 0)), (1, .int u1), (2, .int u2)] := hl
      unfold x_X9_sort_L4 at h
      refine lv_iload_n hx hb dX9_sort_4 rfl (lv_at hl 2 rfl) ?_
      refine lv_aload_n hx hb dX9_sort_5 rfl (lv_at hl 0 rfl) ?_
      refine G_X9_told cx hV mk_2_141 dX9_sort_6 ?_
      refine G_X7_sleeves cx hV (by decide) mk_1_60 dX9_sort_9 ?_
      refine lv_icmp_ge (tgt := 56) hx hb dX9_sort_12 (by decide) (fun hc => ?_) (fun hc => ?_)
      · have h := ifp hc h
        cases h
        exact hF1 rfl _ _ _ hV (lv_sub hl [1] rfl)
      · have h := ifn hc h
        refine lv_aload_n hx hb dX9_sort_15 rfl (lv_at hl 0 rfl) ?_
        refine G_X9_stock cx hV mk_2_142 dX9_sort_16 ?_
        refine lv_aload_n hx hb dX9_sort_19 rfl (lv_at hl 0 rfl) ?_
        refine G_X9_told cx hV mk_2_141 dX9_sort_20 ?_
        refine lv_iload_n hx hb dX9_sort_23 rfl (lv_at hl 2 rfl) ?_
        refine bd_e h (fun v4 hq h => ?_)
        refine k_X5_offOwn (by decide) (by decide) hq cx hV mk_3_98 ⟨Nat.le_of_ble_eq_true rfl, Nat.le_of_ble_eq_true rfl⟩ ⟨Nat.zero_le _, Nat.zero_le _⟩ hl.1 (Nat.le_of_ble_eq_true rfl) dX9_sort_24 (fun H locs hV => ?_)
        refine lv_if_le (tgt := 50) hx hb dX9_sort_27 (by decide) (fun hc => ?_) (fun hc => ?_)
        · have h := ifp hc h
          refine lv_iinc (v := (u2 + 1)) (lv' := [(2, .int (u2 + 1)), (0, .ref (eA E 0)), (1, .int u1)]) hx hb dX9_sort_50 hl (k := 2) rfl rfl (by decide) rfl (fun ls hl => ?_)
          refine lv_goto (tgt := 4) hx hb dX9_sort_53 (by decide) ?_
          cases h
          exact hT1 rfl _ _ _ hV (lv_sub hl [1, 2, 0] rfl)
        · have h := ifn hc h
          refine lv_aload_n hx hb dX9_sort_30 rfl (lv_at hl 0 rfl) ?_
          refine G_X9_stock cx hV mk_2_142 dX9_sort_31 ?_
          refine lv_iload_n hx hb dX9_sort_34 rfl (lv_at hl 2 rfl) ?_
          refine lv_aload_n hx hb dX9_sort_35 rfl (lv_at hl 0 rfl) ?_
          refine G_X9_told cx hV mk_2_141 dX9_sort_36 ?_
          refine lv_iload_n hx hb dX9_sort_39 rfl (lv_at hl 2 rfl) ?_
          refine lv_iconst (v := 3) hx hb dX9_sort_40 (by decide) ?_
          refine bd_e h (fun v5 hq h => ?_)
          refine k_X7_ofSleeve (by decide) hq cx hV mk_3_110 ⟨Nat.le_of_ble_eq_true rfl, Nat.le_of_ble_eq_true rfl⟩ ⟨Nat.zero_le _, Nat.zero_le _⟩ hl.1 (Nat.le_of_ble_eq_true rfl) dX9_sort_41 (fun H locs hV => ?_)
          refine bd_e h (fun σ6 hq h => ?_)
          refine k_X5_putBehind (by decide) hq cx hV mk_3_111 ⟨Nat.le_of_ble_eq_true rfl, Nat.le_of_ble_eq_true rfl⟩ ⟨Nat.zero_le _, Nat.zero_le _⟩ hl.1 (Nat.le_of_ble_eq_true rfl) dX9_sort_44 (fun H locs hV => ?_)
          refine lv_iinc (v := (u1 + 1)) (lv' := [(1, .int (u1 + 1)), (0, .ref (eA E 0)), (2, .int u2)]) hx hb dX9_sort_47 hl (k := 1) rfl rfl (by decide) rfl (fun ls hl => ?_)
          refine lv_iinc (v := (u2 + 1)) (lv' := [(2, .int (u2 + 1)), (1, .int (u1 + 1)), (0, .ref (eA E 0))]) hx hb dX9_sort_50 hl (k := 2) rfl rfl (by decide) rfl (fun ls hl => ?_)
          refine lv_goto (tgt := 4) hx hb dX9_sort_53 (by decide) ?_
          cases h
          exact hT1 rfl _ _ _ hV (lv_sub hl [2, 1, 0] rfl)
    · have hV : AtW E (wC E σ9 ++ X) A s H locs := hV
      have hl : lv_has ls 3 [(1, .int z7)] := hl
      refine lv_iload_n hx hb dX9_sort_56 rfl (lv_at hl 0 rfl) ?_
      obtain ⟨h1, h2⟩ := Prod.mk.inj (Option.some.inj h)
      subst h1
      subst h2
      subst hQ
      exact r_ireti cx hr hlk hV dX9_sort_57
  rw [hH, hlocs] at goal
  exact goal
theorem k_X9_sort {p : Program} {l : Launch} {e : Env} {R : Room} {s : State} {m : MethodId} {a : Array Value} {below : List Frame} {meth : Method} {c : Code} {H : Heap} {locs : List Loc} {cells slots : Nat} {Q : State → Prop} {cc : ByteArray} {own : String} {nL pc : Nat} {ls : Array Slot} {rest : List Value} {A : Nat → Prop} {E : EV} {X : va_W} {σ : St} {rv : Int32} {σf : St} (h : x_X9_sort σ = some (rv, σf)) (cx : CallFix p m c cc nL s a TBL own) (hV : AtW E (wC E σ ++ X) A s H locs) {idx : Nat} (w1 : Cond.methodLink own idx yX9_sort ∈ TBL) (hR : (rm_X9_sort).frames + 1 ≤ R.frames ∧ 8 + (3 + 11) + (rm_X9_sort).locals ≤ R.locals) (hcs : cells ≤ R.cells ∧ slots ≤ R.slots) (hls : ls.size = nL) (hcat : (rest.map fun v => v.category).sum ≤ 8) (d : decode cc pc = .ok (.invokevirtual idx, 3)) (kk : ∀ (H1 : Heap) (locs1 : List Loc), AtW E (wC E σf ++ X) A s H1 locs1 → W p l e R s m a below meth c H1 locs1 cells slots Q (F0 m (pc + 3) ls (.int rv :: rest))) : W p l e R s m a below meth c H locs cells slots Q (F0 m pc ls (.ref (eA E 0) :: rest)) :=
  r_calli (n := 0) (As := []) (q0 := 0) (ci := 9) (qq := (RX9, TX9, 14)) (c_X9_sort h) wC_fst rfl rfl mk_3_95 mk_3_96 mk_1_1 mk_3_97 (by decide +kernel) rfl ⟨rfl, rfl⟩ cx hV w1 hR hcs hls rfl hcat d kk
def x_X9_off (σ : St) : Option Int32 :=
  bd (x_X5_allOff 0 0 σ) fun v1 =>
  some v1
abbrev rm_X9_off : Room := { frames := 4, cells := 0, slots := 0, locals := 88 }
set_option maxHeartbeats 4000000 in
set_option maxRecDepth 100000 in
theorem c_X9_off {l : Launch} {E : EV} {X : va_W} {σ : St} {rv : Int32} (h : x_X9_off σ = some rv) : CM l yX9_off cX9_off 1 (some .int) rm_X9_off [.ref (eA E 0)] E (wC E σ ++ X) (wC E σ ++ X) (qI rv) := by
  refine CM.start (by decide) (Nat.le_of_ble_eq_true rfl) (fun p e s m a below meth c A ls cx hr hlk hV hl => ?_)
  have cx : CallFix p m c cX9_off 1 s a TBL RX9 := cx
  have hx := cx.1
  have hb := cx.2.1
  have hl : lv_has ls 1 [(0, .ref (eA E 0))] := hl
  generalize hQ : EQ E (wC E σ ++ X) (qI rv) A s a below = QQ
  obtain ⟨H, hH⟩ : ∃ H, H = s.heap := ⟨_, rfl⟩
  obtain ⟨locs, hlocs⟩ : ∃ z, z = ([] : List Loc) := ⟨_, rfl⟩
  have hV : AtW E (wC E σ ++ X) A s H locs := by rw [hH, hlocs]; exact hV
  have goal : W p l e rm_X9_off s m a below meth c H locs 0 0 QQ (F0 m 0 ls []) := by
    unfold x_X9_off at h
    refine lv_aload_n hx hb dX9_off_0 rfl (lv_at hl 0 rfl) ?_
    refine G_X9_stock cx hV mk_2_142 dX9_off_1 ?_
    refine lv_aload_n hx hb dX9_off_4 rfl (lv_at hl 0 rfl) ?_
    refine G_X9_told cx hV mk_2_141 dX9_off_5 ?_
    refine bd_e h (fun v1 hq h => ?_)
    refine k_X5_allOff (by decide) (by decide) hq cx hV mk_3_116 ⟨Nat.le_of_ble_eq_true rfl, Nat.le_of_ble_eq_true rfl⟩ ⟨Nat.zero_le _, Nat.zero_le _⟩ hl.1 (Nat.le_of_ble_eq_true rfl) dX9_off_8 (fun H locs hV => ?_)
    have h1 := Option.some.inj h
    subst h1
    subst hQ
    exact r_ireti cx hr hlk hV dX9_off_11
  rw [hH, hlocs] at goal
  exact goal
theorem k_X9_off {p : Program} {l : Launch} {e : Env} {R : Room} {s : State} {m : MethodId} {a : Array Value} {below : List Frame} {meth : Method} {c : Code} {H : Heap} {locs : List Loc} {cells slots : Nat} {Q : State → Prop} {cc : ByteArray} {own : String} {nL pc : Nat} {ls : Array Slot} {rest : List Value} {A : Nat → Prop} {E : EV} {X : va_W} {σ : St} {rv : Int32} (h : x_X9_off σ = some rv) (cx : CallFix p m c cc nL s a TBL own) (hV : AtW E (wC E σ ++ X) A s H locs) {idx : Nat} (w1 : Cond.methodLink own idx yX9_off ∈ TBL) (hR : (rm_X9_off).frames + 1 ≤ R.frames ∧ 8 + (1 + 11) + (rm_X9_off).locals ≤ R.locals) (hcs : cells ≤ R.cells ∧ slots ≤ R.slots) (hls : ls.size = nL) (hcat : (rest.map fun v => v.category).sum ≤ 8) (d : decode cc pc = .ok (.invokevirtual idx, 3)) (kk : ∀ (H1 : Heap) (locs1 : List Loc), AtW E (wC E σ ++ X) A s H1 locs1 → W p l e R s m a below meth c H1 locs1 cells slots Q (F0 m (pc + 3) ls (.int rv :: rest))) : W p l e R s m a below meth c H locs cells slots Q (F0 m pc ls (.ref (eA E 0) :: rest)) :=
  r_calli (n := 0) (As := []) (q0 := 0) (ci := 9) (qq := (RX9, TX9, 14)) (c_X9_off h) rfl rfl rfl mk_3_113 mk_3_114 mk_1_1 mk_3_115 (by decide +kernel) rfl ⟨rfl, rfl⟩ cx hV w1 hR hcs hls rfl hcat d kk
def x_X9_changes (σ : St) : Option (Int32 × St) :=
  bd2 (x_X6_list σ) fun v1 σ2 =>
  some (v1, σ2)
abbrev rm_X9_changes : Room := { frames := 3, cells := 0, slots := 0, locals := 68 }
set_option maxHeartbeats 4000000 in
set_option maxRecDepth 100000 in
theorem c_X9_changes {l : Launch} {E : EV} {X : va_W} {σ : St} {rv : Int32} {σf : St} (h : x_X9_changes σ = some (rv, σf)) : CM l yX9_changes cX9_changes 1 (some .int) rm_X9_changes [.ref (eA E 0)] E (wC E σ ++ X) (wC E σf ++ X) (qI rv) := by
  refine CM.start (by decide) (Nat.le_of_ble_eq_true rfl) (fun p e s m a below meth c A ls cx hr hlk hV hl => ?_)
  have cx : CallFix p m c cX9_changes 1 s a TBL RX9 := cx
  have hx := cx.1
  have hb := cx.2.1
  have hl : lv_has ls 1 [(0, .ref (eA E 0))] := hl
  generalize hQ : EQ E (wC E σf ++ X) (qI rv) A s a below = QQ
  obtain ⟨H, hH⟩ : ∃ H, H = s.heap := ⟨_, rfl⟩
  obtain ⟨locs, hlocs⟩ : ∃ z, z = ([] : List Loc) := ⟨_, rfl⟩
  have hV : AtW E (wC E σ ++ X) A s H locs := by rw [hH, hlocs]; exact hV
  have goal : W p l e rm_X9_changes s m a below meth c H locs 0 0 QQ (F0 m 0 ls []) := by
    unfold x_X9_changes at h
    refine lv_aload_n hx hb dX9_changes_0 rfl (lv_at hl 0 rfl) ?_
    refine G_X9_swaps cx hV mk_2_150 dX9_changes_1 ?_
    refine bd2_e h (fun v1 σ2 hq h => ?_)
    refine k_X6_list hq cx hV mk_3_125 ⟨Nat.le_of_ble_eq_true rfl, Nat.le_of_ble_eq_true rfl⟩ ⟨Nat.zero_le _, Nat.zero_le _⟩ hl.1 (Nat.le_of_ble_eq_true rfl) dX9_changes_4 (fun H locs hV => ?_)
    obtain ⟨h1, h2⟩ := Prod.mk.inj (Option.some.inj h)
    subst h1
    subst h2
    subst hQ
    exact r_ireti cx hr hlk hV dX9_changes_7
  rw [hH, hlocs] at goal
  exact goal
theorem k_X9_changes {p : Program} {l : Launch} {e : Env} {R : Room} {s : State} {m : MethodId} {a : Array Value} {below : List Frame} {meth : Method} {c : Code} {H : Heap} {locs : List Loc} {cells slots : Nat} {Q : State → Prop} {cc : ByteArray} {own : String} {nL pc : Nat} {ls : Array Slot} {rest : List Value} {A : Nat → Prop} {E : EV} {X : va_W} {σ : St} {rv : Int32} {σf : St} (h : x_X9_changes σ = some (rv, σf)) (cx : CallFix p m c cc nL s a TBL own) (hV : AtW E (wC E σ ++ X) A s H locs) {idx : Nat} (w1 : Cond.methodLink own idx yX9_changes ∈ TBL) (hR : (rm_X9_changes).frames + 1 ≤ R.frames ∧ 8 + (1 + 11) + (rm_X9_changes).locals ≤ R.locals) (hcs : cells ≤ R.cells ∧ slots ≤ R.slots) (hls : ls.size = nL) (hcat : (rest.map fun v => v.category).sum ≤ 8) (d : decode cc pc = .ok (.invokevirtual idx, 3)) (kk : ∀ (H1 : Heap) (locs1 : List Loc), AtW E (wC E σf ++ X) A s H1 locs1 → W p l e R s m a below meth c H1 locs1 cells slots Q (F0 m (pc + 3) ls (.int rv :: rest))) : W p l e R s m a below meth c H locs cells slots Q (F0 m pc ls (.ref (eA E 0) :: rest)) :=
  r_calli (n := 0) (As := []) (q0 := 0) (ci := 9) (qq := (RX9, TX9, 14)) (c_X9_changes h) wC_fst rfl rfl mk_3_122 mk_3_123 mk_1_1 mk_3_124 (by decide +kernel) rfl ⟨rfl, rfl⟩ cx hV w1 hR hcs hls rfl hcat d kk
def x_X9_changed (p1 : Int32) (σ : St) : Option (Int32 × St) :=
  bd2 (x_X6_list σ) fun v1 σ2 =>
  (if p1 < 0 then
  some ((-1), σ2)
  else
  (if v1 ≤ p1 then
  some ((-1), σ2)
  else
  bd (x_X2_at 46 p1 σ2) fun v3 =>
  some (v3, σ2)))
abbrev rm_X9_changed : Room := { frames := 3, cells := 0, slots := 0, locals := 68 }
set_option maxHeartbeats 4000000 in
set_option maxRecDepth 100000 in
theorem c_X9_changed {l : Launch} {E : EV} {X : va_W} {σ : St} {p1 : Int32} {rv : Int32} {σf : St} (h : x_X9_changed p1 σ = some (rv, σf)) : CM l yX9_changed cX9_changed 3 (some .int) rm_X9_changed [.ref (eA E 0), .int p1] E (wC E σ ++ X) (wC E σf ++ X) (qI rv) := by
  refine CM.start (by decide) (Nat.le_of_ble_eq_true rfl) (fun p e s m a below meth c A ls cx hr hlk hV hl => ?_)
  have cx : CallFix p m c cX9_changed 3 s a TBL RX9 := cx
  have hx := cx.1
  have hb := cx.2.1
  have hl : lv_has ls 3 [(0, .ref (eA E 0)), (1, .int p1)] := hl
  generalize hQ : EQ E (wC E σf ++ X) (qI rv) A s a below = QQ
  obtain ⟨H, hH⟩ : ∃ H, H = s.heap := ⟨_, rfl⟩
  obtain ⟨locs, hlocs⟩ : ∃ z, z = ([] : List Loc) := ⟨_, rfl⟩
  have hV : AtW E (wC E σ ++ X) A s H locs := by rw [hH, hlocs]; exact hV
  have goal : W p l e rm_X9_changed s m a below meth c H locs 0 0 QQ (F0 m 0 ls []) := by
    unfold x_X9_changed at h
    refine lv_aload_n hx hb dX9_changed_0 rfl (lv_at hl 0 rfl) ?_
    refine G_X9_swaps cx hV mk_2_150 dX9_changed_1 ?_
    refine bd2_e h (fun v1 σ2 hq h => ?_)
    refine k_X6_list hq cx hV mk_3_125 ⟨Nat.le_of_ble_eq_true rfl, Nat.le_of_ble_eq_true rfl⟩ ⟨Nat.zero_le _, Nat.zero_le _⟩ hl.1 (Nat.le_of_ble_eq_true rfl) dX9_changed_4 (fun H locs hV => ?_)
    refine lv_istore_n (lv' := [(2, .int v1), (0, .ref (eA E 0)), (1, .int p1)]) hx hb dX9_changed_7 rfl hl (by decide) rfl (fun ls hl => ?_)
    refine lv_iload_n hx hb dX9_changed_8 rfl (lv_at hl 2 rfl) ?_
    refine lv_if_lt (tgt := 31) hx hb dX9_changed_9 (by decide) (fun hc => ?_) (fun hc => ?_)
    · have h := ifp hc h
      refine lv_iconst (v := (-1)) hx hb dX9_changed_31 (by decide) ?_
      obtain ⟨h1, h2⟩ := Prod.mk.inj (Option.some.inj h)
      subst h1
      subst h2
      subst hQ
      exact r_ireti cx hr hlk hV dX9_changed_32
    · have h := ifn hc h
      refine lv_iload_n hx hb dX9_changed_12 rfl (lv_at hl 2 rfl) ?_
      refine lv_iload_n hx hb dX9_changed_13 rfl (lv_at hl 0 rfl) ?_
      refine lv_icmp_ge (tgt := 31) hx hb dX9_changed_14 (by decide) (fun hc => ?_) (fun hc => ?_)
      · have h := ifp hc h
        refine lv_iconst (v := (-1)) hx hb dX9_changed_31 (by decide) ?_
        obtain ⟨h1, h2⟩ := Prod.mk.inj (Option.some.inj h)
        subst h1
        subst h2
        subst hQ
        exact r_ireti cx hr hlk hV dX9_changed_32
      · have h := ifn hc h
        refine lv_aload_n hx hb dX9_changed_17 rfl (lv_at hl 1 rfl) ?_
        refine G_X9_swaps cx hV mk_2_150 dX9_changed_18 ?_
        refine G_X6_listed cx hV mk_2_67 dX9_changed_21 ?_
        refine lv_iload_n hx hb dX9_changed_24 rfl (lv_at hl 2 rfl) ?_
        refine bd_e h (fun v3 hq h => ?_)
        refine k_X2_at (by decide) hq cx hV mk_3_93 ⟨Nat.le_of_ble_eq_true rfl, Nat.le_of_ble_eq_true rfl⟩ ⟨Nat.zero_le _, Nat.zero_le _⟩ hl.1 (Nat.le_of_ble_eq_true rfl) dX9_changed_25 (fun H locs hV => ?_)
        refine lv_goto (tgt := 32) hx hb dX9_changed_28 (by decide) ?_
        obtain ⟨h1, h2⟩ := Prod.mk.inj (Option.some.inj h)
        subst h1
        subst h2
        subst hQ
        exact r_ireti cx hr hlk hV dX9_changed_32
  rw [hH, hlocs] at goal
  exact goal
theorem k_X9_changed {p : Program} {l : Launch} {e : Env} {R : Room} {s : State} {m : MethodId} {a : Array Value} {below : List Frame} {meth : Method} {c : Code} {H : Heap} {locs : List Loc} {cells slots : Nat} {Q : State → Prop} {cc : ByteArray} {own : String} {nL pc : Nat} {ls : Array Slot} {rest : List Value} {A : Nat → Prop} {E : EV} {X : va_W} {σ : St} {p1 : Int32} {rv : Int32} {σf : St} (h : x_X9_changed p1 σ = some (rv, σf)) (cx : CallFix p m c cc nL s a TBL own) (hV : AtW E (wC E σ ++ X) A s H locs) {idx : Nat} (w1 : Cond.methodLink own idx yX9_changed ∈ TBL) (hR : (rm_X9_changed).frames + 1 ≤ R.frames ∧ 8 + (3 + 11) + (rm_X9_changed).locals ≤ R.locals) (hcs : cells ≤ R.cells ∧ slots ≤ R.slots) (hls : ls.size = nL) (hcat : (rest.map fun v => v.category).sum ≤ 8) (d : decode cc pc = .ok (.invokevirtual idx, 3)) (kk : ∀ (H1 : Heap) (locs1 : List Loc), AtW E (wC E σf ++ X) A s H1 locs1 → W p l e R s m a below meth c H1 locs1 cells slots Q (F0 m (pc + 3) ls (.int rv :: rest))) : W p l e R s m a below meth c H locs cells slots Q (F0 m pc ls (.int p1 :: .ref (eA E 0) :: rest)) :=
  r_calli (n := 1) (As := [.int p1]) (q0 := 0) (ci := 9) (qq := (RX9, TX9, 14)) (c_X9_changed h) wC_fst rfl rfl mk_3_138 mk_3_139 mk_1_1 mk_3_140 (by decide +kernel) rfl ⟨rfl, rfl⟩ cx hV w1 hR hcs hls rfl hcat d kk
def x_X9_divider (p1 : Int32) (σ : St) : Option Int32 :=
  bd (x_X7_hasCrate 0 p1 σ) fun v1 =>
  (if v1 = 0 then
  some (-1)
  else
  bd (x_X2_at 18 p1 σ) fun v2 =>
  some v2)
abbrev rm_X9_divider : Room := { frames := 1, cells := 0, slots := 0, locals := 21 }
set_option maxHeartbeats 4000000 in
set_option maxRecDepth 100000 in
theorem c_X9_divider {l : Launch} {E : EV} {X : va_W} {σ : St} {p1 : Int32} {rv : Int32} (h : x_X9_divider p1 σ = some rv) : CM l yX9_divider cX9_divider 2 (some .int) rm_X9_divider [.ref (eA E 0), .int p1] E (wC E σ ++ X) (wC E σ ++ X) (qI rv) := by
  refine CM.start (by decide) (Nat.le_of_ble_eq_true rfl) (fun p e s m a below meth c A ls cx hr hlk hV hl => ?_)
  have cx : CallFix p m c cX9_divider 2 s a TBL RX9 := cx
  have hx := cx.1
  have hb := cx.2.1
  have hl : lv_has ls 2 [(0, .ref (eA E 0)), (1, .int p1)] := hl
  generalize hQ : EQ E (wC E σ ++ X) (qI rv) A s a below = QQ
  obtain ⟨H, hH⟩ : ∃ H, H = s.heap := ⟨_, rfl⟩
  obtain ⟨locs, hlocs⟩ : ∃ z, z = ([] : List Loc) := ⟨_, rfl⟩
  have hV : AtW E (wC E σ ++ X) A s H locs := by rw [hH, hlocs]; exact hV
  have goal : W p l e rm_X9_divider s m a below meth c H locs 0 0 QQ (F0 m 0 ls []) := by
    unfold x_X9_divider at h
    refine lv_aload_n hx hb dX9_divider_0 rfl (lv_at hl 0 rfl) ?_
    refine G_X9_told cx hV mk_2_141 dX9_divider_1 ?_
    refine lv_iload_n hx hb dX9_divider_4 rfl (lv_at hl 1 rfl) ?_
    refine bd_e h (fun v1 hq h => ?_)
    refine k_X7_hasCrate (by decide) hq cx hV mk_3_145 ⟨Nat.le_of_ble_eq_true rfl, Nat.le_of_ble_eq_true rfl⟩ ⟨Nat.zero_le _, Nat.zero_le _⟩ hl.1 (Nat.le_of_ble_eq_true rfl) dX9_divider_5 (fun H locs hV => ?_)
    refine lv_if_eq (tgt := 25) hx hb dX9_divider_8 (by decide) (fun hc => ?_) (fun hc => ?_)
    · have h := ifp hc h
      refine lv_iconst (v := (-1)) hx hb dX9_divider_25 (by decide) ?_
      have h1 := Option.some.inj h
      subst h1
      subst hQ
      exact r_ireti cx hr hlk hV dX9_divider_26
    · have h := ifn hc h
      refine lv_aload_n hx hb dX9_divider_11 rfl (lv_at hl 0 rfl) ?_
      refine G_X9_stock cx hV mk_2_142 dX9_divider_12 ?_
      refine G_X5_dividers cx hV (by decide) mk_1_131 dX9_divider_15 ?_
      refine lv_iload_n hx hb dX9_divider_18 rfl (lv_at hl 1 rfl) ?_
      refine bd_e h (fun v2 hq h => ?_)
      refine k_X2_at (by decide) hq cx hV mk_3_93 ⟨Nat.le_of_ble_eq_true rfl, Nat.le_of_ble_eq_true rfl⟩ ⟨Nat.zero_le _, Nat.zero_le _⟩ hl.1 (Nat.le_of_ble_eq_true rfl) dX9_divider_19 (fun H locs hV => ?_)
      refine lv_goto (tgt := 26) hx hb dX9_divider_22 (by decide) ?_
      have h1 := Option.some.inj h
      subst h1
      subst hQ
      exact r_ireti cx hr hlk hV dX9_divider_26
  rw [hH, hlocs] at goal
  exact goal
theorem k_X9_divider {p : Program} {l : Launch} {e : Env} {R : Room} {s : State} {m : MethodId} {a : Array Value} {below : List Frame} {meth : Method} {c : Code} {H : Heap} {locs : List Loc} {cells slots : Nat} {Q : State → Prop} {cc : ByteArray} {own : String} {nL pc : Nat} {ls : Array Slot} {rest : List Value} {A : Nat → Prop} {E : EV} {X : va_W} {σ : St} {p1 : Int32} {rv : Int32} (h : x_X9_divider p1 σ = some rv) (cx : CallFix p m c cc nL s a TBL own) (hV : AtW E (wC E σ ++ X) A s H locs) {idx : Nat} (w1 : Cond.methodLink own idx yX9_divider ∈ TBL) (hR : (rm_X9_divider).frames + 1 ≤ R.frames ∧ 8 + (2 + 11) + (rm_X9_divider).locals ≤ R.locals) (hcs : cells ≤ R.cells ∧ slots ≤ R.slots) (hls : ls.size = nL) (hcat : (rest.map fun v => v.category).sum ≤ 8) (d : decode cc pc = .ok (.invokevirtual idx, 3)) (kk : ∀ (H1 : Heap) (locs1 : List Loc), AtW E (wC E σ ++ X) A s H1 locs1 → W p l e R s m a below meth c H1 locs1 cells slots Q (F0 m (pc + 3) ls (.int rv :: rest))) : W p l e R s m a below meth c H locs cells slots Q (F0 m pc ls (.int p1 :: .ref (eA E 0) :: rest)) :=
  r_calli (n := 1) (As := [.int p1]) (q0 := 0) (ci := 9) (qq := (RX9, TX9, 14)) (c_X9_divider h) rfl rfl rfl mk_3_142 mk_3_143 mk_1_1 mk_3_144 (by decide +kernel) rfl ⟨rfl, rfl⟩ cx hV w1 hR hcs hls rfl hcat d kk
def x_X9_standByNumber_L4 (p1 : Int32) (σ : St) (u1 : Int32) (u2 : Int32) : Option ((Bool × (Int32 × Int32)) ⊕ Int32) :=
  (if (gI σ 0) ≤ u2 then
  some (.inl (false, (u1, u2)))
  else
  bd (x_X2_at 18 u2 σ) fun v3 =>
  bd (x_X9_hasBit p1 v3) fun v4 =>
  (if v4 = 0 then
  some (.inl (true, (u1, (u2 + 1))))
  else
  (if u1 ≤ v3 then
  some (.inl (true, (v3, (u2 + 1))))
  else
  some (.inr 0))))
def x_X9_standByNumber (p1 : Int32) (σ : St) : Option Int32 :=
  bs2 (lpr (fun v : (Int32 × Int32) => x_X9_standByNumber_L4 p1 σ v.1 v.2) FU ((-1), 0)) (fun z5 z6 =>
  some 1) some
abbrev rm_X9_standByNumber : Room := { frames := 1, cells := 0, slots := 0, locals := 21 }
set_option maxHeartbeats 4000000 in
set_option maxRecDepth 100000 in
theorem c_X9_standByNumber {l : Launch} {E : EV} {X : va_W} {σ : St} {p1 : Int32} {rv : Int32} (h : x_X9_standByNumber p1 σ = some rv) : CM l yX9_standByNumber cX9_standByNumber 5 (some .boolean) rm_X9_standByNumber [.ref (eA E 0), .int p1] E (wC E σ ++ X) (wC E σ ++ X) (qI rv) := by
  refine CM.start (by decide) (Nat.le_of_ble_eq_true rfl) (fun p e s m a below meth c A ls cx hr hlk hV hl => ?_)
  have cx : CallFix p m c cX9_standByNumber 5 s a TBL RX9 := cx
  have hx := cx.1
  have hb := cx.2.1
  have hl : lv_has ls 5 [(0, .ref (eA E 0)), (1, .int p1)] := hl
  generalize hQ : EQ E (wC E σ ++ X) (qI rv) A s a below = QQ
  obtain ⟨H, hH⟩ : ∃ H, H = s.heap := ⟨_, rfl⟩
  obtain ⟨locs, hlocs⟩ : ∃ z, z = ([] : List Loc) := ⟨_, rfl⟩
  have hV : AtW E (wC E σ ++ X) A s H locs := by rw [hH, hlocs]; exact hV
  have goal : W p l e rm_X9_standByNumber s m a below meth c H locs 0 0 QQ (F0 m 0 ls []) := by
    unfold x_X9_standByNumber at h
    refine lv_iconst (v := (-1)) hx hb dX9_standByNumber_0 (by decide) ?_
    refine lv_istore_n (lv' := [(2, .int (-1)), (0, .ref (eA E 0)), (1, .int p1)]) hx hb dX9_standByNumber_1 rfl hl (by decide) rfl (fun ls hl => ?_)
    refine lv_iconst (v := 0) hx hb dX9_standByNumber_2 (by decide) ?_
    refine lv_istore_n (lv' := [(3, .int 0), (2, .int (-1)), (0, .ref (eA E 0)), (1, .int p1)]) hx hb dX9_standByNumber_3 rfl hl (by decide) rfl (fun ls hl => ?_)
    obtain ⟨o1, ho⟩ := bs2_get h
    rw [ho] at h
    refine (lpr_rule (G := (fun v : (Int32 × Int32) => ∀ (H : Heap) (locs : List Loc) (ls : Array Slot), AtW E (wC E σ ++ X) A s H locs → lv_has ls 5 [(0, .ref (eA E 0)), (1, .int p1), (2, .int v.1), (3, .int v.2)] → W p l e rm_X9_standByNumber s m a below meth c H locs 0 0 QQ (F0 m 4 ls []))) (K := (fun v : (Int32 × Int32) => ∀ (H : Heap) (locs : List Loc) (ls : Array Slot), AtW E (wC E σ ++ X) A s H locs → lv_has ls 5 [] → W p l e rm_X9_standByNumber s m a below meth c H locs 0 0 QQ (F0 m 54 ls []))) (KR := (fun r => some r = some rv)) (fun v e1 h hT1 hF1 hR1 => ?_) ho (fun v hv => ?_) (fun r hv => ?_)) _ _ _ hV (lv_sub hl [2, 3, 1, 0] rfl)
    · obtain ⟨u1, u2⟩ := v
      have h : x_X9_standByNumber_L4 p1 σ u1 u2 = some e1 := h
      intro H locs ls hV hl
      have hV : AtW E (wC E σ ++ X) A s H locs := hV
      have hl : lv_has ls 5 [(0, .ref (eA E 0)), (1, .int p1), (2, .int u1), (3, .int u2)] := hl
      unfold x_X9_standByNumber_L4 at h
      refine lv_iload_n hx hb dX9_standByNumber_4 rfl (lv_at hl 3 rfl) ?_
      refine lv_aload_n hx hb dX9_standByNumber_5 rfl (lv_at hl 0 rfl) ?_
      refine G_X9_told cx hV mk_2_141 dX9_standByNumber_6 ?_
      refine G_X7_crates cx hV (by decide) mk_1_54 dX9_standByNumber_9 ?_
      refine lv_icmp_ge (tgt := 54) hx hb dX9_standByNumber_12 (by decide) (fun hc => ?_) (fun hc => ?_)
      · have h := ifp hc h
        cases h
        exact hF1 _ rfl _ _ _ hV (lv_sub hl [] rfl)
      · have h := ifn hc h
        refine lv_aload_n hx hb dX9_standByNumber_15 rfl (lv_at hl 0 rfl) ?_
        refine G_X9_stock cx hV mk_2_142 dX9_standByNumber_16 ?_
        refine G_X5_dividers cx hV (by decide) mk_1_131 dX9_standByNumber_19 ?_
        refine lv_iload_n hx hb dX9_standByNumber_22 rfl (lv_at hl 3 rfl) ?_
        refine bd_e h (fun v3 hq h => ?_)
        refine k_X2_at (by decide) hq cx hV mk_3_93 ⟨Nat.le_of_ble_eq_true rfl, Nat.le_of_ble_eq_true rfl⟩ ⟨Nat.zero_le _, Nat.zero_le _⟩ hl.1 (Nat.le_of_ble_eq_true rfl) dX9_standByNumber_23 (fun H locs hV => ?_)
        refine lv_istore (lv' := [(4, .int v3), (0, .ref (eA E 0)), (1, .int p1), (2, .int u1), (3, .int u2)]) hx hb dX9_standByNumber_26 hl (by decide) rfl (fun ls hl => ?_)
        refine lv_iload_n hx hb dX9_standByNumber_28 rfl (lv_at hl 2 rfl) ?_
        refine lv_iload hx hb dX9_standByNumber_29 (lv_at hl 0 rfl) ?_
        refine bd_e h (fun v4 hq h => ?_)
        refine k_X9_hasBit hq cx hV mk_6_38 ⟨Nat.le_of_ble_eq_true rfl, Nat.le_of_ble_eq_true rfl⟩ ⟨Nat.zero_le _, Nat.zero_le _⟩ hl.1 (Nat.le_of_ble_eq_true rfl) dX9_standByNumber_31 (fun H locs hV => ?_)
        refine lv_if_eq (tgt := 48) hx hb dX9_standByNumber_34 (by decide) (fun hc => ?_) (fun hc => ?_)
        · have h := ifp hc h
          refine lv_iinc (v := (u2 + 1)) (lv' := [(3, .int (u2 + 1)), (4, .int v3), (0, .ref (eA E 0)), (1, .int p1), (2, .int u1)]) hx hb dX9_standByNumber_48 hl (k := 4) rfl rfl (by decide) rfl (fun ls hl => ?_)
          refine lv_goto (tgt := 4) hx hb dX9_standByNumber_51 (by decide) ?_
          cases h
          exact hT1 _ rfl _ _ _ hV (lv_sub hl [2, 3, 4, 0] rfl)
        · have h := ifn hc h
          refine lv_iload hx hb dX9_standByNumber_37 (lv_at hl 0 rfl) ?_
          refine lv_iload_n hx hb dX9_standByNumber_39 rfl (lv_at hl 3 rfl) ?_
          refine lv_icmp_ge (tgt := 45) hx hb dX9_standByNumber_40 (by decide) (fun hc => ?_) (fun hc => ?_)
          · have h := ifp hc h
            refine lv_iload hx hb dX9_standByNumber_45 (lv_at hl 0 rfl) ?_
            refine lv_istore_n (lv' := [(2, .int v3), (4, .int v3), (0, .ref (eA E 0)), (1, .int p1), (3, .int u2)]) hx hb dX9_standByNumber_47 rfl hl (by decide) rfl (fun ls hl => ?_)
            refine lv_iinc (v := (u2 + 1)) (lv' := [(3, .int (u2 + 1)), (2, .int v3), (4, .int v3), (0, .ref (eA E 0)), (1, .int p1)]) hx hb dX9_standByNumber_48 hl (k := 4) rfl rfl (by decide) rfl (fun ls hl => ?_)
            refine lv_goto (tgt := 4) hx hb dX9_standByNumber_51 (by decide) ?_
            cases h
            exact hT1 _ rfl _ _ _ hV (lv_sub hl [3, 4, 1, 0] rfl)
          · have h := ifn hc h
            refine lv_iconst (v := 0) hx hb dX9_standByNumber_43 (by decide) ?_
            cases h
            have h := hR1 _ rfl
            cases h
            subst hQ
            exact r_zreti cx hr hlk hV (Or.inl rfl) dX9_standByNumber_44
    · subst hv
      obtain ⟨z5, z6⟩ := v
      intro H locs ls hV hl
      have hV : AtW E (wC E σ ++ X) A s H locs := hV
      have hl : lv_has ls 5 [] := hl
      have h := bs2_inl h
      refine lv_iconst (v := 1) hx hb dX9_standByNumber_54 (by decide) ?_
      have h1 := Option.some.inj h
      subst h1
      subst hQ
      exact r_zreti cx hr hlk hV (Or.inr rfl) dX9_standByNumber_55
    · subst hv
      exact bs2_inr h
  rw [hH, hlocs] at goal
  exact goal
theorem k_X9_standByNumber {p : Program} {l : Launch} {e : Env} {R : Room} {s : State} {m : MethodId} {a : Array Value} {below : List Frame} {meth : Method} {c : Code} {H : Heap} {locs : List Loc} {cells slots : Nat} {Q : State → Prop} {cc : ByteArray} {own : String} {nL pc : Nat} {ls : Array Slot} {rest : List Value} {A : Nat → Prop} {E : EV} {X : va_W} {σ : St} {p1 : Int32} {rv : Int32} (h : x_X9_standByNumber p1 σ = some rv) (cx : CallFix p m c cc nL s a TBL own) (hV : AtW E (wC E σ ++ X) A s H locs) {idx : Nat} (w1 : Cond.methodLink own idx yX9_standByNumber ∈ TBL) (hR : (rm_X9_standByNumber).frames + 1 ≤ R.frames ∧ 8 + (5 + 11) + (rm_X9_standByNumber).locals ≤ R.locals) (hcs : cells ≤ R.cells ∧ slots ≤ R.slots) (hls : ls.size = nL) (hcat : (rest.map fun v => v.category).sum ≤ 8) (d : decode cc pc = .ok (.invokevirtual idx, 3)) (kk : ∀ (H1 : Heap) (locs1 : List Loc), AtW E (wC E σ ++ X) A s H1 locs1 → W p l e R s m a below meth c H1 locs1 cells slots Q (F0 m (pc + 3) ls (.int rv :: rest))) : W p l e R s m a below meth c H locs cells slots Q (F0 m pc ls (.int p1 :: .ref (eA E 0) :: rest)) :=
  r_calli (n := 1) (As := [.int p1]) (q0 := 0) (ci := 9) (qq := (RX9, TX9, 14)) (c_X9_standByNumber h) rfl rfl rfl mk_6_36 mk_P_53 mk_1_1 mk_6_37 (by decide +kernel) rfl ⟨rfl, rfl⟩ cx hV w1 hR hcs hls rfl hcat d kk
def x_X9_status (p1 : Int32) (σ : St) : Option Int32 :=
  (if p1 < 0 then
  some (-1)
  else
  (if 4 ≤ p1 then
  some (-1)
  else
  bd (x_X2_at 35 p1 σ) fun v1 =>
  some v1))
abbrev rm_X9_status : Room := { frames := 1, cells := 0, slots := 0, locals := 21 }
set_option maxHeartbeats 4000000 in
set_option maxRecDepth 100000 in
theorem c_X9_status {l : Launch} {E : EV} {X : va_W} {σ : St} {p1 : Int32} {rv : Int32} (h : x_X9_status p1 σ = some rv) : CM l yX9_status cX9_status 2 (some .int) rm_X9_status [.ref (eA E 0), .int p1] E (wC E σ ++ X) (wC E σ ++ X) (qI rv) := by
  refine CM.start (by decide) (Nat.le_of_ble_eq_true rfl) (fun p e s m a below meth c A ls cx hr hlk hV hl => ?_)
  have cx : CallFix p m c cX9_status 2 s a TBL RX9 := cx
  have hx := cx.1
  have hb := cx.2.1
  have hl : lv_has ls 2 [(0, .ref (eA E 0)), (1, .int p1)] := hl
  generalize hQ : EQ E (wC E σ ++ X) (qI rv) A s a below = QQ
  obtain ⟨H, hH⟩ : ∃ H, H = s.heap := ⟨_, rfl⟩
  obtain ⟨locs, hlocs⟩ : ∃ z, z = ([] : List Loc) := ⟨_, rfl⟩
  have hV : AtW E (wC E σ ++ X) A s H locs := by rw [hH, hlocs]; exact hV
  have goal : W p l e rm_X9_status s m a below meth c H locs 0 0 QQ (F0 m 0 ls []) := by
    unfold x_X9_status at h
    refine lv_iload_n hx hb dX9_status_0 rfl (lv_at hl 1 rfl) ?_
    refine lv_if_lt (tgt := 20) hx hb dX9_status_1 (by decide) (fun hc => ?_) (fun hc => ?_)
    · have h := ifp hc h
      refine lv_iconst (v := (-1)) hx hb dX9_status_20 (by decide) ?_
      have h1 := Option.some.inj h
      subst h1
      subst hQ
      exact r_ireti cx hr hlk hV dX9_status_21
    · have h := ifn hc h
      refine lv_iload_n hx hb dX9_status_4 rfl (lv_at hl 1 rfl) ?_
      refine lv_iconst (v := 4) hx hb dX9_status_5 (by decide) ?_
      refine lv_icmp_ge (tgt := 20) hx hb dX9_status_6 (by decide) (fun hc => ?_) (fun hc => ?_)
      · have h := ifp hc h
        refine lv_iconst (v := (-1)) hx hb dX9_status_20 (by decide) ?_
        have h1 := Option.some.inj h
        subst h1
        subst hQ
        exact r_ireti cx hr hlk hV dX9_status_21
      · have h := ifn hc h
        refine lv_aload_n hx hb dX9_status_9 rfl (lv_at hl 0 rfl) ?_
        refine G_X9_refused cx hV mk_2_145 dX9_status_10 ?_
        refine lv_iload_n hx hb dX9_status_13 rfl (lv_at hl 1 rfl) ?_
        refine bd_e h (fun v1 hq h => ?_)
        refine k_X2_at (by decide) hq cx hV mk_3_93 ⟨Nat.le_of_ble_eq_true rfl, Nat.le_of_ble_eq_true rfl⟩ ⟨Nat.zero_le _, Nat.zero_le _⟩ hl.1 (Nat.le_of_ble_eq_true rfl) dX9_status_14 (fun H locs hV => ?_)
        refine lv_goto (tgt := 21) hx hb dX9_status_17 (by decide) ?_
        have h1 := Option.some.inj h
        subst h1
        subst hQ
        exact r_ireti cx hr hlk hV dX9_status_21
  rw [hH, hlocs] at goal
  exact goal
theorem k_X9_status {p : Program} {l : Launch} {e : Env} {R : Room} {s : State} {m : MethodId} {a : Array Value} {below : List Frame} {meth : Method} {c : Code} {H : Heap} {locs : List Loc} {cells slots : Nat} {Q : State → Prop} {cc : ByteArray} {own : String} {nL pc : Nat} {ls : Array Slot} {rest : List Value} {A : Nat → Prop} {E : EV} {X : va_W} {σ : St} {p1 : Int32} {rv : Int32} (h : x_X9_status p1 σ = some rv) (cx : CallFix p m c cc nL s a TBL own) (hV : AtW E (wC E σ ++ X) A s H locs) {idx : Nat} (w1 : Cond.methodLink own idx yX9_status ∈ TBL) (hR : (rm_X9_status).frames + 1 ≤ R.frames ∧ 8 + (2 + 11) + (rm_X9_status).locals ≤ R.locals) (hcs : cells ≤ R.cells ∧ slots ≤ R.slots) (hls : ls.size = nL) (hcat : (rest.map fun v => v.category).sum ≤ 8) (d : decode cc pc = .ok (.invokevirtual idx, 3)) (kk : ∀ (H1 : Heap) (locs1 : List Loc), AtW E (wC E σ ++ X) A s H1 locs1 → W p l e R s m a below meth c H1 locs1 cells slots Q (F0 m (pc + 3) ls (.int rv :: rest))) : W p l e R s m a below meth c H locs cells slots Q (F0 m pc ls (.int p1 :: .ref (eA E 0) :: rest)) :=
  r_calli (n := 1) (As := [.int p1]) (q0 := 0) (ci := 9) (qq := (RX9, TX9, 14)) (c_X9_status h) rfl rfl rfl mk_3_159 mk_3_160 mk_1_1 mk_3_161 (by decide +kernel) rfl ⟨rfl, rfl⟩ cx hV w1 hR hcs hls rfl hcat d kk
def x_X9_count (p1 : Int32) (σ : St) : Option Int32 :=
  (if p1 = 0 then
  some (gI σ 10)
  else
  (if p1 = 1 then
  some (gI σ 8)
  else
  (if p1 = 2 then
  bd (x_X5_sold 0 (gI σ 1) σ) fun v1 =>
  some v1
  else
  some (-1))))
abbrev rm_X9_count : Room := { frames := 3, cells := 0, slots := 0, locals := 65 }
set_option maxHeartbeats 4000000 in
set_option maxRecDepth 100000 in
theorem c_X9_count {l : Launch} {E : EV} {X : va_W} {σ : St} {p1 : Int32} {rv : Int32} (h : x_X9_count p1 σ = some rv) : CM l yX9_count cX9_count 2 (some .int) rm_X9_count [.ref (eA E 0), .int p1] E (wC E σ ++ X) (wC E σ ++ X) (qI rv) := by
  refine CM.start (by decide) (Nat.le_of_ble_eq_true rfl) (fun p e s m a below meth c A ls cx hr hlk hV hl => ?_)
  have cx : CallFix p m c cX9_count 2 s a TBL RX9 := cx
  have hx := cx.1
  have hb := cx.2.1
  have hl : lv_has ls 2 [(0, .ref (eA E 0)), (1, .int p1)] := hl
  generalize hQ : EQ E (wC E σ ++ X) (qI rv) A s a below = QQ
  obtain ⟨H, hH⟩ : ∃ H, H = s.heap := ⟨_, rfl⟩
  obtain ⟨locs, hlocs⟩ : ∃ z, z = ([] : List Loc) := ⟨_, rfl⟩
  have hV : AtW E (wC E σ ++ X) A s H locs := by rw [hH, hlocs]; exact hV
  have goal : W p l e rm_X9_count s m a below meth c H locs 0 0 QQ (F0 m 0 ls []) := by
    unfold x_X9_count at h
    refine lv_iload_n hx hb dX9_count_0 rfl (lv_at hl 1 rfl) ?_
    by_cases hc0 : p1 = 0
    · have h := ifp hc0 h
      refine r_swIn (tgt := 28) cx hc0 dX9_count_1 (by decide) (by decide) rfl (by decide) ?_
      refine lv_aload_n hx hb dX9_count_28 rfl (lv_at hl 0 rfl) ?_
      refine G_X9_images cx hV mk_2_144 dX9_count_29 ?_
      have h1 := Option.some.inj h
      subst h1
      subst hQ
      exact r_ireti cx hr hlk hV dX9_count_32
    have h := ifn hc0 h
    by_cases hc1 : p1 = 1
    · have h := ifp hc1 h
      refine r_swIn (tgt := 33) cx hc1 dX9_count_1 (by decide) (by decide) rfl (by decide) ?_
      refine lv_aload_n hx hb dX9_count_33 rfl (lv_at hl 0 rfl) ?_
      refine G_X9_tapeBytes cx hV mk_2_139 dX9_count_34 ?_
      have h1 := Option.some.inj h
      subst h1
      subst hQ
      exact r_ireti cx hr hlk hV dX9_count_37
    have h := ifn hc1 h
    by_cases hc2 : p1 = 2
    · have h := ifp hc2 h
      refine r_swIn (tgt := 38) cx hc2 dX9_count_1 (by decide) (by decide) rfl (by decide) ?_
      refine lv_aload_n hx hb dX9_count_38 rfl (lv_at hl 0 rfl) ?_
      refine G_X9_stock cx hV mk_2_142 dX9_count_39 ?_
      refine lv_aload_n hx hb dX9_count_42 rfl (lv_at hl 0 rfl) ?_
      refine G_X9_told cx hV mk_2_141 dX9_count_43 ?_
      refine G_X7_sleeves cx hV (by decide) mk_1_60 dX9_count_46 ?_
      refine bd_e h (fun v1 hq h => ?_)
      refine k_X5_sold (by decide) hq cx hV mk_3_166 ⟨Nat.le_of_ble_eq_true rfl, Nat.le_of_ble_eq_true rfl⟩ ⟨Nat.zero_le _, Nat.zero_le _⟩ hl.1 (Nat.le_of_ble_eq_true rfl) dX9_count_49 (fun H locs hV => ?_)
      have h1 := Option.some.inj h
      subst h1
      subst hQ
      exact r_ireti cx hr hlk hV dX9_count_52
    have h := ifn hc2 h
    have hout : (p1).toInt < 0 ∨ 2 < (p1).toInt := by
      have g0 := lv_neT hc0 (a := 0) rfl
      have g1 := lv_neT hc1 (a := 1) rfl
      have g2 := lv_neT hc2 (a := 2) rfl
      omega
    refine lv_tableOut (tgt := 53) hx hb dX9_count_1 hout (by decide) ?_
    refine lv_iconst (v := (-1)) hx hb dX9_count_53 (by decide) ?_
    have h1 := Option.some.inj h
    subst h1
    subst hQ
    exact r_ireti cx hr hlk hV dX9_count_54
  rw [hH, hlocs] at goal
  exact goal
theorem k_X9_count {p : Program} {l : Launch} {e : Env} {R : Room} {s : State} {m : MethodId} {a : Array Value} {below : List Frame} {meth : Method} {c : Code} {H : Heap} {locs : List Loc} {cells slots : Nat} {Q : State → Prop} {cc : ByteArray} {own : String} {nL pc : Nat} {ls : Array Slot} {rest : List Value} {A : Nat → Prop} {E : EV} {X : va_W} {σ : St} {p1 : Int32} {rv : Int32} (h : x_X9_count p1 σ = some rv) (cx : CallFix p m c cc nL s a TBL own) (hV : AtW E (wC E σ ++ X) A s H locs) {idx : Nat} (w1 : Cond.methodLink own idx yX9_count ∈ TBL) (hR : (rm_X9_count).frames + 1 ≤ R.frames ∧ 8 + (2 + 11) + (rm_X9_count).locals ≤ R.locals) (hcs : cells ≤ R.cells ∧ slots ≤ R.slots) (hls : ls.size = nL) (hcat : (rest.map fun v => v.category).sum ≤ 8) (d : decode cc pc = .ok (.invokevirtual idx, 3)) (kk : ∀ (H1 : Heap) (locs1 : List Loc), AtW E (wC E σ ++ X) A s H1 locs1 → W p l e R s m a below meth c H1 locs1 cells slots Q (F0 m (pc + 3) ls (.int rv :: rest))) : W p l e R s m a below meth c H locs cells slots Q (F0 m pc ls (.int p1 :: .ref (eA E 0) :: rest)) :=
  r_calli (n := 1) (As := [.int p1]) (q0 := 0) (ci := 9) (qq := (RX9, TX9, 14)) (c_X9_count h) rfl rfl rfl mk_3_163 mk_3_164 mk_1_1 mk_3_165 (by decide +kernel) rfl ⟨rfl, rfl⟩ cx hV w1 hR hcs hls rfl hcat d kk
