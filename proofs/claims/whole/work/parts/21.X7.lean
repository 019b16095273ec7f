def x_X7_ofSleeve (t : Nat) (p1 : Int32) (p2 : Int32) (σ : St) : Option Int32 :=
  bd (x_X2_at (1 + 7 * t + 1) ((p1 * 4) + p2) σ) fun v1 =>
  some v1
abbrev rm_X7_ofSleeve : Room := { frames := 1, cells := 0, slots := 0, locals := 21 }
set_option maxHeartbeats 4000000 in
set_option maxRecDepth 100000 in
theorem c_X7_ofSleeve {l : Launch} {E : EV} {X : va_W} {σ : St} {t : Nat} {p1 : Int32} {p2 : Int32} {rv : Int32} (ht : t < 2) (h : x_X7_ofSleeve t p1 p2 σ = some rv) : CM l yX7_ofSleeve cX7_ofSleeve 3 (some .int) rm_X7_ofSleeve [.ref (eA E (pT t)), .int p1, .int p2] E (wC E σ ++ X) (wC E σ ++ X) (qI rv) := by
  refine CM.start (by decide) (Nat.le_of_ble_eq_true rfl) (fun p e s m a below meth c A ls cx hr hlk hV hl => ?_)
  have cx : CallFix p m c cX7_ofSleeve 3 s a TBL RX7 := cx
  have hx := cx.1
  have hb := cx.2.1
  have hl : lv_has ls 3 [(0, .ref (eA E (pT t))), (1, .int p1), (2, .int p2)] := hl
  generalize hQ : EQ E (wC E σ ++ X) (qI rv) A s a below = QQ
  obtain ⟨H, hH⟩ : ∃ H, H = s.heap := ⟨_, rfl⟩
  obtain ⟨locs, hlocs⟩ : ∃ z, z = ([] : List Loc) := ⟨_, rfl⟩
  have hV : AtW E (wC E σ ++ X) A s H locs := by rw [hH, hlocs]; exact hV
  have goal : W p l e rm_X7_ofSleeve s m a below meth c H locs 0 0 QQ (F0 m 0 ls []) := by
    unfold x_X7_ofSleeve at h
    refine lv_aload_n hx hb dX7_ofSleeve_0 rfl (lv_at hl 0 rfl) ?_
    refine G_X7_ofSleeves cx hV ht mk_1_73 dX7_ofSleeve_1 ?_
    refine lv_iload_n hx hb dX7_ofSleeve_4 rfl (lv_at hl 1 rfl) ?_
    refine lv_iconst (v := 4) hx hb dX7_ofSleeve_5 (by decide) ?_
    refine lv_imul hx hb dX7_ofSleeve_6 ?_
    refine lv_iload_n hx hb dX7_ofSleeve_7 rfl (lv_at hl 2 rfl) ?_
    refine lv_iadd hx hb dX7_ofSleeve_8 ?_
    refine bd_e h (fun v1 hq h => ?_)
    refine k_X2_at (by omega) hq cx hV mk_2_206 ⟨Nat.le_of_ble_eq_true rfl, Nat.le_of_ble_eq_true rfl⟩ ⟨Nat.zero_le _, Nat.zero_le _⟩ hl.1 (Nat.le_of_ble_eq_true rfl) dX7_ofSleeve_9 (fun H locs hV => ?_)
    have h1 := Option.some.inj h
    subst h1
    subst hQ
    exact r_ireti cx hr hlk hV dX7_ofSleeve_12
  rw [hH, hlocs] at goal
  exact goal
theorem k_X7_ofSleeve {p : Program} {l : Launch} {e : Env} {R : Room} {s : State} {m : MethodId} {a : Array Value} {below : List Frame} {meth : Method} {c : Code} {H : Heap} {locs : List Loc} {cells slots : Nat} {Q : State → Prop} {cc : ByteArray} {own : String} {nL pc : Nat} {ls : Array Slot} {rest : List Value} {A : Nat → Prop} {E : EV} {X : va_W} {σ : St} {t : Nat} {p1 : Int32} {p2 : Int32} {rv : Int32} (ht : t < 2) (h : x_X7_ofSleeve t p1 p2 σ = some rv) (cx : CallFix p m c cc nL s a TBL own) (hV : AtW E (wC E σ ++ X) A s H locs) {idx : Nat} (w1 : Cond.methodLink own idx yX7_ofSleeve ∈ TBL) (hR : (rm_X7_ofSleeve).frames + 1 ≤ R.frames ∧ 8 + (3 + 11) + (rm_X7_ofSleeve).locals ≤ R.locals) (hcs : cells ≤ R.cells ∧ slots ≤ R.slots) (hls : ls.size = nL) (hcat : (rest.map fun v => v.category).sum ≤ 8) (d : decode cc pc = .ok (.invokevirtual idx, 3)) (kk : ∀ (H1 : Heap) (locs1 : List Loc), AtW E (wC E σ ++ X) A s H1 locs1 → W p l e R s m a below meth c H1 locs1 cells slots Q (F0 m (pc + 3) ls (.int rv :: rest))) : W p l e R s m a below meth c H locs cells slots Q (F0 m pc ls (.int p2 :: .int p1 :: .ref (eA E (pT t)) :: rest)) :=
  r_calli (n := 2) (As := [.int p1, .int p2]) (q0 := (pT t)) (ci := 7) (qq := (RX7, TX7, 11)) (c_X7_ofSleeve ht h) rfl (wC_T ht) rfl mk_3_32 mk_3_33 mk_1_3 mk_3_34 (by decide +kernel) rfl ⟨rfl, rfl⟩ cx hV w1 hR hcs hls rfl hcat d kk
def x_X7_ofLooker (t : Nat) (p1 : Int32) (p2 : Int32) (σ : St) : Option Int32 :=
  bd (x_X2_at (1 + 7 * t + 4) ((p1 * 6) + p2) σ) fun v1 =>
  some v1
abbrev rm_X7_ofLooker : Room := { frames := 1, cells := 0, slots := 0, locals := 21 }
set_option maxHeartbeats 4000000 in
set_option maxRecDepth 100000 in
theorem c_X7_ofLooker {l : Launch} {E : EV} {X : va_W} {σ : St} {t : Nat} {p1 : Int32} {p2 : Int32} {rv : Int32} (ht : t < 2) (h : x_X7_ofLooker t p1 p2 σ = some rv) : CM l yX7_ofLooker cX7_ofLooker 3 (some .int) rm_X7_ofLooker [.ref (eA E (pT t)), .int p1, .int p2] E (wC E σ ++ X) (wC E σ ++ X) (qI rv) := by
  refine CM.start (by decide) (Nat.le_of_ble_eq_true rfl) (fun p e s m a below meth c A ls cx hr hlk hV hl => ?_)
  have cx : CallFix p m c cX7_ofLooker 3 s a TBL RX7 := cx
  have hx := cx.1
  have hb := cx.2.1
  have hl : lv_has ls 3 [(0, .ref (eA E (pT t))), (1, .int p1), (2, .int p2)] := hl
  generalize hQ : EQ E (wC E σ ++ X) (qI rv) A s a below = QQ
  obtain ⟨H, hH⟩ : ∃ H, H = s.heap := ⟨_, rfl⟩
  obtain ⟨locs, hlocs⟩ : ∃ z, z = ([] : List Loc) := ⟨_, rfl⟩
  have hV : AtW E (wC E σ ++ X) A s H locs := by rw [hH, hlocs]; exact hV
  have goal : W p l e rm_X7_ofLooker s m a below meth c H locs 0 0 QQ (F0 m 0 ls []) := by
    unfold x_X7_ofLooker at h
    refine lv_aload_n hx hb dX7_ofLooker_0 rfl (lv_at hl 0 rfl) ?_
    refine G_X7_ofLookers cx hV ht mk_1_80 dX7_ofLooker_1 ?_
    refine lv_iload_n hx hb dX7_ofLooker_4 rfl (lv_at hl 1 rfl) ?_
    refine lv_bipush (v := 6) hx hb dX7_ofLooker_5 (by decide) ?_
    refine lv_imul hx hb dX7_ofLooker_7 ?_
    refine lv_iload_n hx hb dX7_ofLooker_8 rfl (lv_at hl 2 rfl) ?_
    refine lv_iadd hx hb dX7_ofLooker_9 ?_
    refine bd_e h (fun v1 hq h => ?_)
    refine k_X2_at (by omega) hq cx hV mk_2_206 ⟨Nat.le_of_ble_eq_true rfl, Nat.le_of_ble_eq_true rfl⟩ ⟨Nat.zero_le _, Nat.zero_le _⟩ hl.1 (Nat.le_of_ble_eq_true rfl) dX7_ofLooker_10 (fun H locs hV => ?_)
    have h1 := Option.some.inj h
    subst h1
    subst hQ
    exact r_ireti cx hr hlk hV dX7_ofLooker_13
  rw [hH, hlocs] at goal
  exact goal
theorem k_X7_ofLooker {p : Program} {l : Launch} {e : Env} {R : Room} {s : State} {m : MethodId} {a : Array Value} {below : List Frame} {meth : Method} {c : Code} {H : Heap} {locs : List Loc} {cells slots : Nat} {Q : State → Prop} {cc : ByteArray} {own : String} {nL pc : Nat} {ls : Array Slot} {rest : List Value} {A : Nat → Prop} {E : EV} {X : va_W} {σ : St} {t : Nat} {p1 : Int32} {p2 : Int32} {rv : Int32} (ht : t < 2) (h : x_X7_ofLooker t p1 p2 σ = some rv) (cx : CallFix p m c cc nL s a TBL own) (hV : AtW E (wC E σ ++ X) A s H locs) {idx : Nat} (w1 : Cond.methodLink own idx yX7_ofLooker ∈ TBL) (hR : (rm_X7_ofLooker).frames + 1 ≤ R.frames ∧ 8 + (3 + 11) + (rm_X7_ofLooker).locals ≤ R.locals) (hcs : cells ≤ R.cells ∧ slots ≤ R.slots) (hls : ls.size = nL) (hcat : (rest.map fun v => v.category).sum ≤ 8) (d : decode cc pc = .ok (.invokevirtual idx, 3)) (kk : ∀ (H1 : Heap) (locs1 : List Loc), AtW E (wC E σ ++ X) A s H1 locs1 → W p l e R s m a below meth c H1 locs1 cells slots Q (F0 m (pc + 3) ls (.int rv :: rest))) : W p l e R s m a below meth c H locs cells slots Q (F0 m pc ls (.int p2 :: .int p1 :: .ref (eA E (pT t)) :: rest)) :=
  r_calli (n := 2) (As := [.int p1, .int p2]) (q0 := (pT t)) (ci := 7) (qq := (RX7, TX7, 11)) (c_X7_ofLooker ht h) rfl (wC_T ht) rfl mk_2_203 mk_2_204 mk_1_3 mk_2_205 (by decide +kernel) rfl ⟨rfl, rfl⟩ cx hV w1 hR hcs hls rfl hcat d kk
def x_X7_hasCrate (t : Nat) (p1 : Int32) (σ : St) : Option Int32 :=
  (if p1 < 0 then
  some 0
  else
  (if (gI σ (4 * t)) ≤ p1 then
  some 0
  else
  some 1))
abbrev rm_X7_hasCrate : Room := { frames := 0, cells := 0, slots := 0, locals := 0 }
set_option maxHeartbeats 4000000 in
set_option maxRecDepth 100000 in
theorem c_X7_hasCrate {l : Launch} {E : EV} {X : va_W} {σ : St} {t : Nat} {p1 : Int32} {rv : Int32} (ht : t < 2) (h : x_X7_hasCrate t p1 σ = some rv) : CM l yX7_hasCrate cX7_hasCrate 2 (some .boolean) rm_X7_hasCrate [.ref (eA E (pT t)), .int p1] E (wC E σ ++ X) (wC E σ ++ X) (qI rv) := by
  refine CM.start (by decide) (Nat.le_of_ble_eq_true rfl) (fun p e s m a below meth c A ls cx hr hlk hV hl => ?_)
  have cx : CallFix p m c cX7_hasCrate 2 s a TBL RX7 := cx
  have hx := cx.1
  have hb := cx.2.1
  have hl : lv_has ls 2 [(0, .ref (eA E (pT t))), (1, .int p1)] := hl
  generalize hQ : EQ E (wC E σ ++ X) (qI rv) A s a below = QQ
  obtain ⟨H, hH⟩ : ∃ H, H = s.heap := ⟨_, rfl⟩
  obtain ⟨locs, hlocs⟩ : ∃ z, z = ([] : List Loc) := ⟨_, rfl⟩
  have hV : AtW E (wC E σ ++ X) A s H locs := by rw [hH, hlocs]; exact hV
  have goal : W p l e rm_X7_hasCrate s m a below meth c H locs 0 0 QQ (F0 m 0 ls []) := by
    unfold x_X7_hasCrate at h
    refine lv_iload_n hx hb dX7_hasCrate_0 rfl (lv_at hl 1 rfl) ?_
    refine lv_if_lt (tgt := 16) hx hb dX7_hasCrate_1 (by decide) (fun hc => ?_) (fun hc => ?_)
    · have h := ifp hc h
      refine lv_iconst (v := 0) hx hb dX7_hasCrate_16 (by decide) ?_
      have h1 := Option.some.inj h
      subst h1
      subst hQ
      exact r_zreti cx hr hlk hV (Or.inl rfl) dX7_hasCrate_17
    · have h := ifn hc h
      refine lv_iload_n hx hb dX7_hasCrate_4 rfl (lv_at hl 1 rfl) ?_
      refine lv_aload_n hx hb dX7_hasCrate_5 rfl (lv_at hl 0 rfl) ?_
      refine G_X7_crates cx hV ht mk_1_52 dX7_hasCrate_6 ?_
      refine lv_icmp_ge (tgt := 16) hx hb dX7_hasCrate_9 (by decide) (fun hc => ?_) (fun hc => ?_)
      · have h := ifp hc h
        refine lv_iconst (v := 0) hx hb dX7_hasCrate_16 (by decide) ?_
        have h1 := Option.some.inj h
        subst h1
        subst hQ
        exact r_zreti cx hr hlk hV (Or.inl rfl) dX7_hasCrate_17
      · have h := ifn hc h
        refine lv_iconst (v := 1) hx hb dX7_hasCrate_12 (by decide) ?_
        refine lv_goto (tgt := 17) hx hb dX7_hasCrate_13 (by decide) ?_
        have h1 := Option.some.inj h
        subst h1
        subst hQ
        exact r_zreti cx hr hlk hV (Or.inr rfl) dX7_hasCrate_17
  rw [hH, hlocs] at goal
  exact goal
theorem k_X7_hasCrate {p : Program} {l : Launch} {e : Env} {R : Room} {s : State} {m : MethodId} {a : Array Value} {below : List Frame} {meth : Method} {c : Code} {H : Heap} {locs : List Loc} {cells slots : Nat} {Q : State → Prop} {cc : ByteArray} {own : String} {nL pc : Nat} {ls : Array Slot} {rest : List Value} {A : Nat → Prop} {E : EV} {X : va_W} {σ : St} {t : Nat} {p1 : Int32} {rv : Int32} (ht : t < 2) (h : x_X7_hasCrate t p1 σ = some rv) (cx : CallFix p m c cc nL s a TBL own) (hV : AtW E (wC E σ ++ X) A s H locs) {idx : Nat} (w1 : Cond.methodLink own idx yX7_hasCrate ∈ TBL) (hR : (rm_X7_hasCrate).frames + 1 ≤ R.frames ∧ 8 + (2 + 11) + (rm_X7_hasCrate).locals ≤ R.locals) (hcs : cells ≤ R.cells ∧ slots ≤ R.slots) (hls : ls.size = nL) (hcat : (rest.map fun v => v.category).sum ≤ 8) (d : decode cc pc = .ok (.invokevirtual idx, 3)) (kk : ∀ (H1 : Heap) (locs1 : List Loc), AtW E (wC E σ ++ X) A s H1 locs1 → W p l e R s m a below meth c H1 locs1 cells slots Q (F0 m (pc + 3) ls (.int rv :: rest))) : W p l e R s m a below meth c H locs cells slots Q (F0 m pc ls (.int p1 :: .ref (eA E (pT t)) :: rest)) :=
  r_calli (n := 1) (As := [.int p1]) (q0 := (pT t)) (ci := 7) (qq := (RX7, TX7, 11)) (c_X7_hasCrate ht h) rfl (wC_T ht) rfl mk_2_235 mk_2_236 mk_1_3 mk_2_237 (by decide +kernel) rfl ⟨rfl, rfl⟩ cx hV w1 hR hcs hls rfl hcat d kk
def x_X7_clear_L61 (t : Nat) (u10 : Int32) (σ11 : St) : Option (Bool × (Int32 × St)) :=
  (if 8 < u10 then
  some (false, (u10, σ11))
  else
  bd (x_X2_put (1 + 7 * t + 5) u10 (u10 - 1) σ11) fun σ12 =>
  some (true, ((u10 + 1), σ12)))
def x_X7_clear (t : Nat) (σ : St) : Option St :=
  bd (some (sI σ (4 * t) 0)) fun σ1 =>
  bd (some (sI σ1 (4 * t + 1) 0)) fun σ2 =>
  bd (some (sI σ2 (4 * t + 2) 0)) fun σ3 =>
  bd (some (sI σ3 (4 * t + 3) 5)) fun σ4 =>
  bd (x_X2_fill (1 + 7 * t) 0 σ4) fun σ5 =>
  bd (x_X2_fill (1 + 7 * t + 1) 0 σ5) fun σ6 =>
  bd (x_X2_fill (1 + 7 * t + 2) (-1) σ6) fun σ7 =>
  bd (x_X2_fillByNumber (1 + 7 * t + 3) σ7) fun σ8 =>
  bd (x_X2_fill (1 + 7 * t + 4) 0 σ8) fun σ9 =>
  bd2 (lp (fun v : (Int32 × St) => x_X7_clear_L61 t v.1 v.2) FU (1, σ9)) fun z13 σ14 =>
  bd (x_X2_fill (1 + 7 * t + 6) 0 σ14) fun σ15 =>
  bd (x_X2_put (1 + 7 * t + 6) 0 1 σ15) fun σ16 =>
  some σ16
abbrev rm_X7_clear : Room := { frames := 1, cells := 0, slots := 0, locals := 22 }
set_option maxHeartbeats 4000000 in
set_option maxRecDepth 100000 in
theorem c_X7_clear {l : Launch} {E : EV} {X : va_W} {σ : St} {t : Nat} {σf : St} (ht : t < 2) (h : x_X7_clear t σ = some σf) : CM l yX7_clear cX7_clear 2 none rm_X7_clear [.ref (eA E (pT t))] E (wC E σ ++ X) (wC E σf ++ X) qV := by
  refine CM.start (by decide) (Nat.le_of_ble_eq_true rfl) (fun p e s m a below meth c A ls cx hr hlk hV hl => ?_)
  have cx : CallFix p m c cX7_clear 2 s a TBL RX7 := cx
  have hx := cx.1
  have hb := cx.2.1
  have hl : lv_has ls 2 [(0, .ref (eA E (pT t)))] := hl
  generalize hQ : EQ E (wC E σf ++ X) qV A s a below = QQ
  obtain ⟨H, hH⟩ : ∃ H, H = s.heap := ⟨_, rfl⟩
  obtain ⟨locs, hlocs⟩ : ∃ z, z = ([] : List Loc) := ⟨_, rfl⟩
  have hV : AtW E (wC E σ ++ X) A s H locs := by rw [hH, hlocs]; exact hV
  have goal : W p l e rm_X7_clear s m a below meth c H locs 0 0 QQ (F0 m 0 ls []) := by
    unfold x_X7_clear at h
    refine lv_aload_n hx hb dX7_clear_0 rfl (lv_at hl 0 rfl) ?_
    refine lv_iconst (v := 0) hx hb dX7_clear_1 (by decide) ?_
    refine bd_e h (fun σ1 hq h => ?_)
    refine P_X7_crates cx hV ht hq mk_1_52 dX7_clear_2 (fun H locs hV => ?_)
    refine lv_aload_n hx hb dX7_clear_5 rfl (lv_at hl 0 rfl) ?_
    refine lv_iconst (v := 0) hx hb dX7_clear_6 (by decide) ?_
    refine bd_e h (fun σ2 hq h => ?_)
    refine P_X7_sleeves cx hV ht hq mk_1_57 dX7_clear_7 (fun H locs hV => ?_)
    refine lv_aload_n hx hb dX7_clear_10 rfl (lv_at hl 0 rfl) ?_
    refine lv_iconst (v := 0) hx hb dX7_clear_11 (by decide) ?_
    refine bd_e h (fun σ3 hq h => ?_)
    refine P_X7_lookers cx hV ht hq mk_1_62 dX7_clear_12 (fun H locs hV => ?_)
    refine lv_aload_n hx hb dX7_clear_15 rfl (lv_at hl 0 rfl) ?_
    refine lv_iconst (v := 5) hx hb dX7_clear_16 (by decide) ?_
    refine bd_e h (fun σ4 hq h => ?_)
    refine P_X7_stop cx hV ht hq mk_1_66 dX7_clear_17 (fun H locs hV => ?_)
    refine lv_aload_n hx hb dX7_clear_20 rfl (lv_at hl 0 rfl) ?_
    refine G_X7_letters cx hV ht mk_1_70 dX7_clear_21 ?_
    refine lv_iconst (v := 0) hx hb dX7_clear_24 (by decide) ?_
    refine bd_e h (fun σ5 hq h => ?_)
    refine k_X2_fill (by omega) hq cx hV mk_2_113 ⟨Nat.le_of_ble_eq_true rfl, Nat.le_of_ble_eq_true rfl⟩ ⟨Nat.zero_le _, Nat.zero_le _⟩ hl.1 (Nat.le_of_ble_eq_true rfl) dX7_clear_25 (fun H locs hV => ?_)
    refine lv_aload_n hx hb dX7_clear_28 rfl (lv_at hl 0 rfl) ?_
    refine G_X7_ofSleeves cx hV ht mk_1_73 dX7_clear_29 ?_
    refine lv_iconst (v := 0) hx hb dX7_clear_32 (by decide) ?_
    refine bd_e h (fun σ6 hq h => ?_)
    refine k_X2_fill (by omega) hq cx hV mk_2_113 ⟨Nat.le_of_ble_eq_true rfl, Nat.le_of_ble_eq_true rfl⟩ ⟨Nat.zero_le _, Nat.zero_le _⟩ hl.1 (Nat.le_of_ble_eq_true rfl) dX7_clear_33 (fun H locs hV => ?_)
    refine lv_aload_n hx hb dX7_clear_36 rfl (lv_at hl 0 rfl) ?_
    refine G_X7_lying cx hV ht mk_1_74 dX7_clear_37 ?_
    refine lv_iconst (v := (-1)) hx hb dX7_clear_40 (by decide) ?_
    refine bd_e h (fun σ7 hq h => ?_)
    refine k_X2_fill (by omega) hq cx hV mk_2_113 ⟨Nat.le_of_ble_eq_true rfl, Nat.le_of_ble_eq_true rfl⟩ ⟨Nat.zero_le _, Nat.zero_le _⟩ hl.1 (Nat.le_of_ble_eq_true rfl) dX7_clear_41 (fun H locs hV => ?_)
    refine lv_aload_n hx hb dX7_clear_44 rfl (lv_at hl 0 rfl) ?_
    refine G_X7_discs cx hV ht mk_1_77 dX7_clear_45 ?_
    refine bd_e h (fun σ8 hq h => ?_)
    refine k_X2_fillByNumber (by omega) hq cx hV mk_2_117 ⟨Nat.le_of_ble_eq_true rfl, Nat.le_of_ble_eq_true rfl⟩ ⟨Nat.zero_le _, Nat.zero_le _⟩ hl.1 (Nat.le_of_ble_eq_true rfl) dX7_clear_48 (fun H locs hV => ?_)
    refine lv_aload_n hx hb dX7_clear_51 rfl (lv_at hl 0 rfl) ?_
    refine G_X7_ofLookers cx hV ht mk_1_80 dX7_clear_52 ?_
    refine lv_iconst (v := 0) hx hb dX7_clear_55 (by decide) ?_
    refine bd_e h (fun σ9 hq h => ?_)
    refine k_X2_fill (by omega) hq cx hV mk_2_113 ⟨Nat.le_of_ble_eq_true rfl, Nat.le_of_ble_eq_true rfl⟩ ⟨Nat.zero_le _, Nat.zero_le _⟩ hl.1 (Nat.le_of_ble_eq_true rfl) dX7_clear_56 (fun H locs hV => ?_)
    refine lv_iconst (v := 1) hx hb dX7_clear_59 (by decide) ?_
    refine lv_istore_n (lv' := [(1, .int 1), (0, .ref (eA E (pT t)))]) hx hb dX7_clear_60 rfl hl (by decide) rfl (fun ls hl => ?_)
    refine bd2_e h (fun z13 σ14 ho h => ?_)
    refine (lp_rule (G := (fun v : (Int32 × St) => ∀ (H : Heap) (locs : List Loc) (ls : Array Slot), AtW E (wC E v.2 ++ X) A s H locs → lv_has ls 2 [(0, .ref (eA E (pT t))), (1, .int v.1)] → W p l e rm_X7_clear s m a below meth c H locs 0 0 QQ (F0 m 61 ls []))) (K := (fun v : (Int32 × St) => ∀ (H : Heap) (locs : List Loc) (ls : Array Slot), AtW E (wC E v.2 ++ X) A s H locs → lv_has ls 2 [(0, .ref (eA E (pT t)))] → W p l e rm_X7_clear s m a below meth c H locs 0 0 QQ (F0 m 84 ls []))) (fun v b1 y1 h hT1 hF1 => ?_) ho (fun H locs ls hV hl => ?_)) _ _ _ hV (lv_sub hl [1, 0] rfl)
    · obtain ⟨u10, σ11⟩ := v
      have h : x_X7_clear_L61 t u10 σ11 = some (b1, y1) := h
      intro H locs ls hV hl
      have hV : AtW E (wC E σ11 ++ X) A s H locs := hV
      have hl : lv_has ls 2 [(0, .ref (eA E (pT t))), (1, .int u10)] := hl
      unfold x_X7_clear_L61 at h
      refine lv_iload_n hx hb dX7_clear_61 rfl (lv_at hl 1 rfl) ?_
      refine lv_bipush (v := 8) hx hb dX7_clear_62 (by decide) ?_
      refine lv_icmp_gt (tgt := 84) hx hb dX7_clear_64 (by decide) (fun hc => ?_) (fun hc => ?_)
      · have h := ifp hc h
        cases h
        exact hF1 rfl _ _ _ hV (lv_sub hl [0] rfl)
      · have h := ifn hc h
        refine lv_aload_n hx hb dX7_clear_67 rfl (lv_at hl 0 rfl) ?_
        refine G_X7_misses cx hV ht mk_1_81 dX7_clear_68 ?_
        refine lv_iload_n hx hb dX7_clear_71 rfl (lv_at hl 1 rfl) ?_
        refine lv_iload_n hx hb dX7_clear_72 rfl (lv_at hl 1 rfl) ?_
        refine lv_iconst (v := 1) hx hb dX7_clear_73 (by decide) ?_
        refine lv_isub hx hb dX7_clear_74 ?_
        refine bd_e h (fun σ12 hq h => ?_)
        refine k_X2_put (by omega) hq cx hV mk_2_121 ⟨Nat.le_of_ble_eq_true rfl, Nat.le_of_ble_eq_true rfl⟩ ⟨Nat.zero_le _, Nat.zero_le _⟩ hl.1 (Nat.le_of_ble_eq_true rfl) dX7_clear_75 (fun H locs hV => ?_)
        refine lv_iinc (v := (u10 + 1)) (lv' := [(1, .int (u10 + 1)), (0, .ref (eA E (pT t)))]) hx hb dX7_clear_78 hl (k := 1) rfl rfl (by decide) rfl (fun ls hl => ?_)
        refine lv_goto (tgt := 61) hx hb dX7_clear_81 (by decide) ?_
        cases h
        exact hT1 rfl _ _ _ hV (lv_sub hl [1, 0] rfl)
    · have hV : AtW E (wC E σ14 ++ X) A s H locs := hV
      have hl : lv_has ls 2 [(0, .ref (eA E (pT t)))] := hl
      refine lv_aload_n hx hb dX7_clear_84 rfl (lv_at hl 0 rfl) ?_
      refine G_X7_weights cx hV ht mk_1_85 dX7_clear_85 ?_
      refine lv_iconst (v := 0) hx hb dX7_clear_88 (by decide) ?_
      refine bd_e h (fun σ15 hq h => ?_)
      refine k_X2_fill (by omega) hq cx hV mk_2_113 ⟨Nat.le_of_ble_eq_true rfl, Nat.le_of_ble_eq_true rfl⟩ ⟨Nat.zero_le _, Nat.zero_le _⟩ hl.1 (Nat.le_of_ble_eq_true rfl) dX7_clear_89 (fun H locs hV => ?_)
      refine lv_aload_n hx hb dX7_clear_92 rfl (lv_at hl 0 rfl) ?_
      refine G_X7_weights cx hV ht mk_1_85 dX7_clear_93 ?_
      refine lv_iconst (v := 0) hx hb dX7_clear_96 (by decide) ?_
      refine lv_iconst (v := 1) hx hb dX7_clear_97 (by decide) ?_
      refine bd_e h (fun σ16 hq h => ?_)
      refine k_X2_put (by omega) hq cx hV mk_2_121 ⟨Nat.le_of_ble_eq_true rfl, Nat.le_of_ble_eq_true rfl⟩ ⟨Nat.zero_le _, Nat.zero_le _⟩ hl.1 (Nat.le_of_ble_eq_true rfl) dX7_clear_98 (fun H locs hV => ?_)
      have h1 := Option.some.inj h
      subst h1
      subst hQ
      exact r_vret cx hr hlk hV dX7_clear_101
  rw [hH, hlocs] at goal
  exact goal
theorem k_X7_clear {p : Program} {l : Launch} {e : Env} {R : Room} {s : State} {m : MethodId} {a : Array Value} {below : List Frame} {meth : Method} {c : Code} {H : Heap} {locs : List Loc} {cells slots : Nat} {Q : State → Prop} {cc : ByteArray} {own : String} {nL pc : Nat} {ls : Array Slot} {rest : List Value} {A : Nat → Prop} {E : EV} {X : va_W} {σ : St} {t : Nat} {σf : St} (ht : t < 2) (h : x_X7_clear t σ = some σf) (cx : CallFix p m c cc nL s a TBL own) (hV : AtW E (wC E σ ++ X) A s H locs) {idx : Nat} (w1 : Cond.methodLink own idx yX7_clear ∈ TBL) (hR : (rm_X7_clear).frames + 1 ≤ R.frames ∧ 8 + (2 + 11) + (rm_X7_clear).locals ≤ R.locals) (hcs : cells ≤ R.cells ∧ slots ≤ R.slots) (hls : ls.size = nL) (hcat : (rest.map fun v => v.category).sum ≤ 8) (d : decode cc pc = .ok (.invokevirtual idx, 3)) (kk : ∀ (H1 : Heap) (locs1 : List Loc), AtW E (wC E σf ++ X) A s H1 locs1 → W p l e R s m a below meth c H1 locs1 cells slots Q (F0 m (pc + 3) ls (rest))) : W p l e R s m a below meth c H locs cells slots Q (F0 m pc ls (.ref (eA E (pT t)) :: rest)) :=
  r_callv (n := 0) (As := []) (q0 := (pT t)) (ci := 7) (qq := (RX7, TX7, 11)) (c_X7_clear ht h) wC_fst (wC_T ht) rfl mk_2_110 mk_2_111 mk_1_3 mk_2_112 (by decide +kernel) rfl ⟨rfl, rfl⟩ cx hV w1 hR hcs hls rfl hcat d kk
def x_X7_addCrate (t : Nat) (p1 : Int32) (σ : St) : Option St :=
  bd (x_X2_put (1 + 7 * t) (gI σ (4 * t)) p1 σ) fun σ1 =>
  bd (some (sI σ1 (4 * t) ((gI σ1 (4 * t)) + 1))) fun σ2 =>
  some σ2
abbrev rm_X7_addCrate : Room := { frames := 1, cells := 0, slots := 0, locals := 22 }
set_option maxHeartbeats 4000000 in
set_option maxRecDepth 100000 in
theorem c_X7_addCrate {l : Launch} {E : EV} {X : va_W} {σ : St} {t : Nat} {p1 : Int32} {σf : St} (ht : t < 2) (h : x_X7_addCrate t p1 σ = some σf) : CM l yX7_addCrate cX7_addCrate 2 none rm_X7_addCrate [.ref (eA E (pT t)), .int p1] E (wC E σ ++ X) (wC E σf ++ X) qV := by
  refine CM.start (by decide) (Nat.le_of_ble_eq_true rfl) (fun p e s m a below meth c A ls cx hr hlk hV hl => ?_)
  have cx : CallFix p m c cX7_addCrate 2 s a TBL RX7 := cx
  have hx := cx.1
  have hb := cx.2.1
  have hl : lv_has ls 2 [(0, .ref (eA E (pT t))), (1, .int p1)] := hl
  generalize hQ : EQ E (wC E σf ++ X) qV A s a below = QQ
  obtain ⟨H, hH⟩ : ∃ H, H = s.heap := ⟨_, rfl⟩
  obtain ⟨locs, hlocs⟩ : ∃ z, z = ([] : List Loc) := ⟨_, rfl⟩
  have hV : AtW E (wC E σ ++ X) A s H locs := by rw [hH, hlocs]; exact hV
  have goal : W p l e rm_X7_addCrate s m a below meth c H locs 0 0 QQ (F0 m 0 ls []) := by
    unfold x_X7_addCrate at h
    refine lv_aload_n hx hb dX7_addCrate_0 rfl (lv_at hl 0 rfl) ?_
    refine G_X7_letters cx hV ht mk_1_70 dX7_addCrate_1 ?_
    refine lv_aload_n hx hb dX7_addCrate_4 rfl (lv_at hl 0 rfl) ?_
    refine G_X7_crates cx hV ht mk_1_52 dX7_addCrate_5 ?_
    refine lv_iload_n hx hb dX7_addCrate_8 rfl (lv_at hl 1 rfl) ?_
    refine bd_e h (fun σ1 hq h => ?_)
    refine k_X2_put (by omega) hq cx hV mk_2_121 ⟨Nat.le_of_ble_eq_true rfl, Nat.le_of_ble_eq_true rfl⟩ ⟨Nat.zero_le _, Nat.zero_le _⟩ hl.1 (Nat.le_of_ble_eq_true rfl) dX7_addCrate_9 (fun H locs hV => ?_)
    refine lv_aload_n hx hb dX7_addCrate_12 rfl (lv_at hl 0 rfl) ?_
    refine lv_dup hx hb dX7_addCrate_13 rfl ?_
    refine G_X7_crates cx hV ht mk_1_52 dX7_addCrate_14 ?_
    refine lv_iconst (v := 1) hx hb dX7_addCrate_17 (by decide) ?_
    refine lv_iadd hx hb dX7_addCrate_18 ?_
    refine bd_e h (fun σ2 hq h => ?_)
    refine P_X7_crates cx hV ht hq mk_1_52 dX7_addCrate_19 (fun H locs hV => ?_)
    have h1 := Option.some.inj h
    subst h1
    subst hQ
    exact r_vret cx hr hlk hV dX7_addCrate_22
  rw [hH, hlocs] at goal
  exact goal
theorem k_X7_addCrate {p : Program} {l : Launch} {e : Env} {R : Room} {s : State} {m : MethodId} {a : Array Value} {below : List Frame} {meth : Method} {c : Code} {H : Heap} {locs : List Loc} {cells slots : Nat} {Q : State → Prop} {cc : ByteArray} {own : String} {nL pc : Nat} {ls : Array Slot} {rest : List Value} {A : Nat → Prop} {E : EV} {X : va_W} {σ : St} {t : Nat} {p1 : Int32} {σf : St} (ht : t < 2) (h : x_X7_addCrate t p1 σ = some σf) (cx : CallFix p m c cc nL s a TBL own) (hV : AtW E (wC E σ ++ X) A s H locs) {idx : Nat} (w1 : Cond.methodLink own idx yX7_addCrate ∈ TBL) (hR : (rm_X7_addCrate).frames + 1 ≤ R.frames ∧ 8 + (2 + 11) + (rm_X7_addCrate).locals ≤ R.locals) (hcs : cells ≤ R.cells ∧ slots ≤ R.slots) (hls : ls.size = nL) (hcat : (rest.map fun v => v.category).sum ≤ 8) (d : decode cc pc = .ok (.invokevirtual idx, 3)) (kk : ∀ (H1 : Heap) (locs1 : List Loc), AtW E (wC E σf ++ X) A s H1 locs1 → W p l e R s m a below meth c H1 locs1 cells slots Q (F0 m (pc + 3) ls (rest))) : W p l e R s m a below meth c H locs cells slots Q (F0 m pc ls (.int p1 :: .ref (eA E (pT t)) :: rest)) :=
  r_callv (n := 1) (As := [.int p1]) (q0 := (pT t)) (ci := 7) (qq := (RX7, TX7, 11)) (c_X7_addCrate ht h) wC_fst (wC_T ht) rfl mk_4_124 mk_4_125 mk_1_3 mk_4_126 (by decide +kernel) rfl ⟨rfl, rfl⟩ cx hV w1 hR hcs hls rfl hcat d kk
def x_X7_ownCrate_L4 (t : Nat) (p1 : Int32) (σ : St) (u1 : Int32) (u2 : Int32) : Option (Bool × (Int32 × Int32)) :=
  (if (gI σ (4 * t)) ≤ u2 then
  some (false, (u1, u2))
  else
  bd (x_X2_at (1 + 7 * t) u2 σ) fun v3 =>
  (if p1 < v3 then
  some (true, (u1, (u2 + 1)))
  else
  some (true, (u2, (u2 + 1)))))
def x_X7_ownCrate (t : Nat) (p1 : Int32) (σ : St) : Option Int32 :=
  bd2 (lp (fun v : (Int32 × Int32) => x_X7_ownCrate_L4 t p1 σ v.1 v.2) FU (0, 1)) fun z4 z5 =>
  some z4
abbrev rm_X7_ownCrate : Room := { frames := 1, cells := 0, slots := 0, locals := 21 }
set_option maxHeartbeats 4000000 in
set_option maxRecDepth 100000 in
theorem c_X7_ownCrate {l : Launch} {E : EV} {X : va_W} {σ : St} {t : Nat} {p1 : Int32} {rv : Int32} (ht : t < 2) (h : x_X7_ownCrate t p1 σ = some rv) : CM l yX7_ownCrate cX7_ownCrate 4 (some .int) rm_X7_ownCrate [.ref (eA E (pT t)), .int p1] E (wC E σ ++ X) (wC E σ ++ X) (qI rv) := by
  refine CM.start (by decide) (Nat.le_of_ble_eq_true rfl) (fun p e s m a below meth c A ls cx hr hlk hV hl => ?_)
  have cx : CallFix p m c cX7_ownCrate 4 s a TBL RX7 := cx
  have hx := cx.1
  have hb := cx.2.1
  have hl : lv_has ls 4 [(0, .ref (eA E (pT t))), (1, .int p1)] := hl
  generalize hQ : EQ E (wC E σ ++ X) (qI rv) A s a below = QQ
  obtain ⟨H, hH⟩ : ∃ H, H = s.heap := ⟨_, rfl⟩
  obtain ⟨locs, hlocs⟩ : ∃ z, z = ([] : List Loc) := ⟨_, rfl⟩
  have hV : AtW E (wC E σ ++ X) A s H locs := by rw [hH, hlocs]; exact hV
  have goal : W p l e rm_X7_ownCrate s m a below meth c H locs 0 0 QQ (F0 m 0 ls []) := by
    unfold x_X7_ownCrate at h
    refine lv_iconst (v := 0) hx hb dX7_ownCrate_0 (by decide) ?_
    refine lv_istore_n (lv' := [(2, .int 0), (0, .ref (eA E (pT t))), (1, .int p1)]) hx hb dX7_ownCrate_1 rfl hl (by decide) rfl (fun ls hl => ?_)
    refine lv_iconst (v := 1) hx hb dX7_ownCrate_2 (by decide) ?_
    refine lv_istore_n (lv' := [(3, .int 1), (2, .int 0), (0, .ref (eA E (pT t))), (1, .int p1)]) hx hb dX7_ownCrate_3 rfl hl (by decide) rfl (fun ls hl => ?_)
    refine bd2_e h (fun z4 z5 ho h => ?_)
    refine (lp_rule (G := (fun v : (Int32 × Int32) => ∀ (H : Heap) (locs : List Loc) (ls : Array Slot), AtW E (wC E σ ++ X) A s H locs → lv_has ls 4 [(0, .ref (eA E (pT t))), (1, .int p1), (2, .int v.1), (3, .int v.2)] → W p l e rm_X7_ownCrate s m a below meth c H locs 0 0 QQ (F0 m 4 ls []))) (K := (fun v : (Int32 × Int32) => ∀ (H : Heap) (locs : List Loc) (ls : Array Slot), AtW E (wC E σ ++ X) A s H locs → lv_has ls 4 [(2, .int v.1)] → W p l e rm_X7_ownCrate s m a below meth c H locs 0 0 QQ (F0 m 32 ls []))) (fun v b1 y1 h hT1 hF1 => ?_) ho (fun H locs ls hV hl => ?_)) _ _ _ hV (lv_sub hl [2, 3, 1, 0] rfl)
    · obtain ⟨u1, u2⟩ := v
      have h : x_X7_ownCrate_L4 t p1 σ u1 u2 = some (b1, y1) := h
      intro H locs ls hV hl
      have hV : AtW E (wC E σ ++ X) A s H locs := hV
      have hl : lv_has ls 4 [(0, .ref (eA E (pT t))), (1, .int p1), (2, .int u1), (3, .int u2)] := hl
      unfold x_X7_ownCrate_L4 at h
      refine lv_iload_n hx hb dX7_ownCrate_4 rfl (lv_at hl 3 rfl) ?_
      refine lv_aload_n hx hb dX7_ownCrate_5 rfl (lv_at hl 0 rfl) ?_
      refine G_X7_crates cx hV ht mk_1_52 dX7_ownCrate_6 ?_
      refine lv_icmp_ge (tgt := 32) hx hb dX7_ownCrate_9 (by decide) (fun hc => ?_) (fun hc => ?_)
      · have h := ifp hc h
        cases h
        exact hF1 rfl _ _ _ hV (lv_sub hl [2] rfl)
      · have h := ifn hc h
        refine lv_aload_n hx hb dX7_ownCrate_12 rfl (lv_at hl 0 rfl) ?_
        refine G_X7_letters cx hV ht mk_1_70 dX7_ownCrate_13 ?_
        refine lv_iload_n hx hb dX7_ownCrate_16 rfl (lv_at hl 3 rfl) ?_
        refine bd_e h (fun v3 hq h => ?_)
        refine k_X2_at (by omega) hq cx hV mk_2_206 ⟨Nat.le_of_ble_eq_true rfl, Nat.le_of_ble_eq_true rfl⟩ ⟨Nat.zero_le _, Nat.zero_le _⟩ hl.1 (Nat.le_of_ble_eq_true rfl) dX7_ownCrate_17 (fun H locs hV => ?_)
        refine lv_iload_n hx hb dX7_ownCrate_20 rfl (lv_at hl 1 rfl) ?_
        refine lv_icmp_gt (tgt := 26) hx hb dX7_ownCrate_21 (by decide) (fun hc => ?_) (fun hc => ?_)
        · have h := ifp hc h
          refine lv_iinc (v := (u2 + 1)) (lv' := [(3, .int (u2 + 1)), (0, .ref (eA E (pT t))), (1, .int p1), (2, .int u1)]) hx hb dX7_ownCrate_26 hl (k := 3) rfl rfl (by decide) rfl (fun ls hl => ?_)
          refine lv_goto (tgt := 4) hx hb dX7_ownCrate_29 (by decide) ?_
          cases h
          exact hT1 rfl _ _ _ hV (lv_sub hl [1, 2, 3, 0] rfl)
        · have h := ifn hc h
          refine lv_iload_n hx hb dX7_ownCrate_24 rfl (lv_at hl 3 rfl) ?_
          refine lv_istore_n (lv' := [(2, .int u2), (0, .ref (eA E (pT t))), (1, .int p1), (3, .int u2)]) hx hb dX7_ownCrate_25 rfl hl (by decide) rfl (fun ls hl => ?_)
          refine lv_iinc (v := (u2 + 1)) (lv' := [(3, .int (u2 + 1)), (2, .int u2), (0, .ref (eA E (pT t))), (1, .int p1)]) hx hb dX7_ownCrate_26 hl (k := 3) rfl rfl (by decide) rfl (fun ls hl => ?_)
          refine lv_goto (tgt := 4) hx hb dX7_ownCrate_29 (by decide) ?_
          cases h
          exact hT1 rfl _ _ _ hV (lv_sub hl [2, 3, 1, 0] rfl)
    · have hV : AtW E (wC E σ ++ X) A s H locs := hV
      have hl : lv_has ls 4 [(2, .int z4)] := hl
      refine lv_iload_n hx hb dX7_ownCrate_32 rfl (lv_at hl 0 rfl) ?_
      have h1 := Option.some.inj h
      subst h1
      subst hQ
      exact r_ireti cx hr hlk hV dX7_ownCrate_33
  rw [hH, hlocs] at goal
  exact goal
theorem k_X7_ownCrate {p : Program} {l : Launch} {e : Env} {R : Room} {s : State} {m : MethodId} {a : Array Value} {below : List Frame} {meth : Method} {c : Code} {H : Heap} {locs : List Loc} {cells slots : Nat} {Q : State → Prop} {cc : ByteArray} {own : String} {nL pc : Nat} {ls : Array Slot} {rest : List Value} {A : Nat → Prop} {E : EV} {X : va_W} {σ : St} {t : Nat} {p1 : Int32} {rv : Int32} (ht : t < 2) (h : x_X7_ownCrate t p1 σ = some rv) (cx : CallFix p m c cc nL s a TBL own) (hV : AtW E (wC E σ ++ X) A s H locs) {idx : Nat} (w1 : Cond.methodLink own idx yX7_ownCrate ∈ TBL) (hR : (rm_X7_ownCrate).frames + 1 ≤ R.frames ∧ 8 + (4 + 11) + (rm_X7_ownCrate).locals ≤ R.locals) (hcs : cells ≤ R.cells ∧ slots ≤ R.slots) (hls : ls.size = nL) (hcat : (rest.map fun v => v.category).sum ≤ 8) (d : decode cc pc = .ok (.invokevirtual idx, 3)) (kk : ∀ (H1 : Heap) (locs1 : List Loc), AtW E (wC E σ ++ X) A s H1 locs1 → W p l e R s m a below meth c H1 locs1 cells slots Q (F0 m (pc + 3) ls (.int rv :: rest))) : W p l e R s m a below meth c H locs cells slots Q (F0 m pc ls (.int p1 :: .ref (eA E (pT t)) :: rest)) :=
  r_calli (n := 1) (As := [.int p1]) (q0 := (pT t)) (ci := 7) (qq := (RX7, TX7, 11)) (c_X7_ownCrate ht h) rfl (wC_T ht) rfl mk_4_137 mk_P_29 mk_1_3 mk_4_138 (by decide +kernel) rfl ⟨rfl, rfl⟩ cx hV w1 hR hcs hls rfl hcat d kk
def x_X7_addSleeve (t : Nat) (p1 : Int32) (p2 : Int32) (p3 : Int32) (σ : St) : Option St :=
  bd (x_X7_ownCrate t p1 σ) fun v1 =>
  bd (x_X2_put (1 + 7 * t + 1) (((gI σ (4 * t + 1)) * 4) + 0) p1 σ) fun σ2 =>
  bd (x_X2_put (1 + 7 * t + 1) (((gI σ (4 * t + 1)) * 4) + 1) p2 σ2) fun σ3 =>
  bd (x_X2_put (1 + 7 * t + 1) (((gI σ (4 * t + 1)) * 4) + 2) p3 σ3) fun σ4 =>
  bd (x_X2_put (1 + 7 * t + 1) (((gI σ (4 * t + 1)) * 4) + 3) v1 σ4) fun σ5 =>
  bd (x_X2_put (1 + 7 * t + 2) (gI σ5 (4 * t + 1)) v1 σ5) fun σ6 =>
  bd (some (sI σ6 (4 * t + 1) ((gI σ6 (4 * t + 1)) + 1))) fun σ7 =>
  some σ7
abbrev rm_X7_addSleeve : Room := { frames := 2, cells := 0, slots := 0, locals := 44 }
set_option maxHeartbeats 4000000 in
set_option maxRecDepth 100000 in
theorem c_X7_addSleeve {l : Launch} {E : EV} {X : va_W} {σ : St} {t : Nat} {p1 : Int32} {p2 : Int32} {p3 : Int32} {σf : St} (ht : t < 2) (h : x_X7_addSleeve t p1 p2 p3 σ = some σf) : CM l yX7_addSleeve cX7_addSleeve 6 none rm_X7_addSleeve [.ref (eA E (pT t)), .int p1, .int p2, .int p3] E (wC E σ ++ X) (wC E σf ++ X) qV := by
  refine CM.start (by decide) (Nat.le_of_ble_eq_true rfl) (fun p e s m a below meth c A ls cx hr hlk hV hl => ?_)
  have cx : CallFix p m c cX7_addSleeve 6 s a TBL RX7 := cx
  have hx := cx.1
  have hb := cx.2.1
  have hl : lv_has ls 6 [(0, .ref (eA E (pT t))), (1, .int p1), (2, .int p2), (3, .int p3)] := hl
  generalize hQ : EQ E (wC E σf ++ X) qV A s a below = QQ
  obtain ⟨H, hH⟩ : ∃ H, H = s.heap := ⟨_, rfl⟩
  obtain ⟨locs, hlocs⟩ : ∃ z, z = ([] : List Loc) := ⟨_, rfl⟩
  have hV : AtW E (wC E σ ++ X) A s H locs := by rw [hH, hlocs]; exact hV
  have goal : W p l e rm_X7_addSleeve s m a below meth c H locs 0 0 QQ (F0 m 0 ls []) := by
    unfold x_X7_addSleeve at h
    refine lv_aload_n hx hb dX7_addSleeve_0 rfl (lv_at hl 0 rfl) ?_
    refine G_X7_sleeves cx hV ht mk_1_57 dX7_addSleeve_1 ?_
    refine lv_iconst (v := 4) hx hb dX7_addSleeve_4 (by decide) ?_
    refine lv_imul hx hb dX7_addSleeve_5 ?_
    refine lv_istore (lv' := [(4, .int ((gI σ (4 * t + 1)) * 4)), (0, .ref (eA E (pT t))), (1, .int p1), (2, .int p2), (3, .int p3)]) hx hb dX7_addSleeve_6 hl (by decide) rfl (fun ls hl => ?_)
    refine lv_aload_n hx hb dX7_addSleeve_8 rfl (lv_at hl 1 rfl) ?_
    refine lv_iload_n hx hb dX7_addSleeve_9 rfl (lv_at hl 2 rfl) ?_
    refine bd_e h (fun v1 hq h => ?_)
    refine k_X7_ownCrate ht hq cx hV mk_4_135 ⟨Nat.le_of_ble_eq_true rfl, Nat.le_of_ble_eq_true rfl⟩ ⟨Nat.zero_le _, Nat.zero_le _⟩ hl.1 (Nat.le_of_ble_eq_true rfl) dX7_addSleeve_10 (fun H locs hV => ?_)
    refine lv_istore (lv' := [(5, .int v1), (4, .int ((gI σ (4 * t + 1)) * 4)), (0, .ref (eA E (pT t))), (1, .int p1), (2, .int p2), (3, .int p3)]) hx hb dX7_addSleeve_13 hl (by decide) rfl (fun ls hl => ?_)
    refine lv_aload_n hx hb dX7_addSleeve_15 rfl (lv_at hl 2 rfl) ?_
    refine G_X7_ofSleeves cx hV ht mk_1_73 dX7_addSleeve_16 ?_
    refine lv_iload hx hb dX7_addSleeve_19 (lv_at hl 1 rfl) ?_
    refine lv_iconst (v := 0) hx hb dX7_addSleeve_21 (by decide) ?_
    refine lv_iadd hx hb dX7_addSleeve_22 ?_
    refine lv_iload_n hx hb dX7_addSleeve_23 rfl (lv_at hl 3 rfl) ?_
    refine bd_e h (fun σ2 hq h => ?_)
    refine k_X2_put (by omega) hq cx hV mk_2_121 ⟨Nat.le_of_ble_eq_true rfl, Nat.le_of_ble_eq_true rfl⟩ ⟨Nat.zero_le _, Nat.zero_le _⟩ hl.1 (Nat.le_of_ble_eq_true rfl) dX7_addSleeve_24 (fun H locs hV => ?_)
    refine lv_aload_n hx hb dX7_addSleeve_27 rfl (lv_at hl 2 rfl) ?_
    refine G_X7_ofSleeves cx hV ht mk_1_73 dX7_addSleeve_28 ?_
    refine lv_iload hx hb dX7_addSleeve_31 (lv_at hl 1 rfl) ?_
    refine lv_iconst (v := 1) hx hb dX7_addSleeve_33 (by decide) ?_
    refine lv_iadd hx hb dX7_addSleeve_34 ?_
    refine lv_iload_n hx hb dX7_addSleeve_35 rfl (lv_at hl 4 rfl) ?_
    refine bd_e h (fun σ3 hq h => ?_)
    refine k_X2_put (by omega) hq cx hV mk_2_121 ⟨Nat.le_of_ble_eq_true rfl, Nat.le_of_ble_eq_true rfl⟩ ⟨Nat.zero_le _, Nat.zero_le _⟩ hl.1 (Nat.le_of_ble_eq_true rfl) dX7_addSleeve_36 (fun H locs hV => ?_)
    refine lv_aload_n hx hb dX7_addSleeve_39 rfl (lv_at hl 2 rfl) ?_
    refine G_X7_ofSleeves cx hV ht mk_1_73 dX7_addSleeve_40 ?_
    refine lv_iload hx hb dX7_addSleeve_43 (lv_at hl 1 rfl) ?_
    refine lv_iconst (v := 2) hx hb dX7_addSleeve_45 (by decide) ?_
    refine lv_iadd hx hb dX7_addSleeve_46 ?_
    refine lv_iload_n hx hb dX7_addSleeve_47 rfl (lv_at hl 5 rfl) ?_
    refine bd_e h (fun σ4 hq h => ?_)
    refine k_X2_put (by omega) hq cx hV mk_2_121 ⟨Nat.le_of_ble_eq_true rfl, Nat.le_of_ble_eq_true rfl⟩ ⟨Nat.zero_le _, Nat.zero_le _⟩ hl.1 (Nat.le_of_ble_eq_true rfl) dX7_addSleeve_48 (fun H locs hV => ?_)
    refine lv_aload_n hx hb dX7_addSleeve_51 rfl (lv_at hl 2 rfl) ?_
    refine G_X7_ofSleeves cx hV ht mk_1_73 dX7_addSleeve_52 ?_
    refine lv_iload hx hb dX7_addSleeve_55 (lv_at hl 1 rfl) ?_
    refine lv_iconst (v := 3) hx hb dX7_addSleeve_57 (by decide) ?_
    refine lv_iadd hx hb dX7_addSleeve_58 ?_
    refine lv_iload hx hb dX7_addSleeve_59 (lv_at hl 0 rfl) ?_
    refine bd_e h (fun σ5 hq h => ?_)
    refine k_X2_put (by omega) hq cx hV mk_2_121 ⟨Nat.le_of_ble_eq_true rfl, Nat.le_of_ble_eq_true rfl⟩ ⟨Nat.zero_le _, Nat.zero_le _⟩ hl.1 (Nat.le_of_ble_eq_true rfl) dX7_addSleeve_61 (fun H locs hV => ?_)
    refine lv_aload_n hx hb dX7_addSleeve_64 rfl (lv_at hl 2 rfl) ?_
    refine G_X7_lying cx hV ht mk_1_74 dX7_addSleeve_65 ?_
    refine lv_aload_n hx hb dX7_addSleeve_68 rfl (lv_at hl 2 rfl) ?_
    refine G_X7_sleeves cx hV ht mk_1_57 dX7_addSleeve_69 ?_
    refine lv_iload hx hb dX7_addSleeve_72 (lv_at hl 0 rfl) ?_
    refine bd_e h (fun σ6 hq h => ?_)
    refine k_X2_put (by omega) hq cx hV mk_2_121 ⟨Nat.le_of_ble_eq_true rfl, Nat.le_of_ble_eq_true rfl⟩ ⟨Nat.zero_le _, Nat.zero_le _⟩ hl.1 (Nat.le_of_ble_eq_true rfl) dX7_addSleeve_74 (fun H locs hV => ?_)
    refine lv_aload_n hx hb dX7_addSleeve_77 rfl (lv_at hl 2 rfl) ?_
    refine lv_dup hx hb dX7_addSleeve_78 rfl ?_
    refine G_X7_sleeves cx hV ht mk_1_57 dX7_addSleeve_79 ?_
    refine lv_iconst (v := 1) hx hb dX7_addSleeve_82 (by decide) ?_
    refine lv_iadd hx hb dX7_addSleeve_83 ?_
    refine bd_e h (fun σ7 hq h => ?_)
    refine P_X7_sleeves cx hV ht hq mk_1_57 dX7_addSleeve_84 (fun H locs hV => ?_)
    have h1 := Option.some.inj h
    subst h1
    subst hQ
    exact r_vret cx hr hlk hV dX7_addSleeve_87
  rw [hH, hlocs] at goal
  exact goal
theorem k_X7_addSleeve {p : Program} {l : Launch} {e : Env} {R : Room} {s : State} {m : MethodId} {a : Array Value} {below : List Frame} {meth : Method} {c : Code} {H : Heap} {locs : List Loc} {cells slots : Nat} {Q : State → Prop} {cc : ByteArray} {own : String} {nL pc : Nat} {ls : Array Slot} {rest : List Value} {A : Nat → Prop} {E : EV} {X : va_W} {σ : St} {t : Nat} {p1 : Int32} {p2 : Int32} {p3 : Int32} {σf : St} (ht : t < 2) (h : x_X7_addSleeve t p1 p2 p3 σ = some σf) (cx : CallFix p m c cc nL s a TBL own) (hV : AtW E (wC E σ ++ X) A s H locs) {idx : Nat} (w1 : Cond.methodLink own idx yX7_addSleeve ∈ TBL) (hR : (rm_X7_addSleeve).frames + 1 ≤ R.frames ∧ 8 + (6 + 11) + (rm_X7_addSleeve).locals ≤ R.locals) (hcs : cells ≤ R.cells ∧ slots ≤ R.slots) (hls : ls.size = nL) (hcat : (rest.map fun v => v.category).sum ≤ 8) (d : decode cc pc = .ok (.invokevirtual idx, 3)) (kk : ∀ (H1 : Heap) (locs1 : List Loc), AtW E (wC E σf ++ X) A s H1 locs1 → W p l e R s m a below meth c H1 locs1 cells slots Q (F0 m (pc + 3) ls (rest))) : W p l e R s m a below meth c H locs cells slots Q (F0 m pc ls (.int p3 :: .int p2 :: .int p1 :: .ref (eA E (pT t)) :: rest)) :=
  r_callv (n := 3) (As := [.int p1, .int p2, .int p3]) (q0 := (pT t)) (ci := 7) (qq := (RX7, TX7, 11)) (c_X7_addSleeve ht h) wC_fst (wC_T ht) rfl mk_4_132 mk_4_133 mk_1_3 mk_4_134 (by decide +kernel) rfl ⟨rfl, rfl⟩ cx hV w1 hR hcs hls rfl hcat d kk
def x_X7_addLooker (t : Nat) (p1 : Int32) (p2 : Int32) (p3 : Int32) (p4 : Int32) (p5 : Int32) (σ : St) : Option St :=
  bd (x_X2_put (1 + 7 * t + 4) (((gI σ (4 * t + 2)) * 6) + 0) p1 σ) fun σ1 =>
  bd (x_X2_put (1 + 7 * t + 4) (((gI σ (4 * t + 2)) * 6) + 1) p2 σ1) fun σ2 =>
  bd (x_X2_put (1 + 7 * t + 4) (((gI σ (4 * t + 2)) * 6) + 2) p3 σ2) fun σ3 =>
  bd (x_X2_put (1 + 7 * t + 4) (((gI σ (4 * t + 2)) * 6) + 3) p4 σ3) fun σ4 =>
  bd (x_X2_put (1 + 7 * t + 4) (((gI σ (4 * t + 2)) * 6) + 4) p5 σ4) fun σ5 =>
  bd (some (sI σ5 (4 * t + 2) ((gI σ5 (4 * t + 2)) + 1))) fun σ6 =>
  some σ6
abbrev rm_X7_addLooker : Room := { frames := 1, cells := 0, slots := 0, locals := 22 }
set_option maxHeartbeats 4000000 in
set_option maxRecDepth 100000 in
theorem c_X7_addLooker {l : Launch} {E : EV} {X : va_W} {σ : St} {t : Nat} {p1 : Int32} {p2 : Int32} {p3 : Int32} {p4 : Int32} {p5 : Int32} {σf : St} (ht : t < 2) (h : x_X7_addLooker t p1 p2 p3 p4 p5 σ = some σf) : CM l yX7_addLooker cX7_addLooker 7 none rm_X7_addLooker [.ref (eA E (pT t)), .int p1, .int p2, .int p3, .int p4, .int p5] E (wC E σ ++ X) (wC E σf ++ X) qV := by
  refine CM.start (by decide) (Nat.le_of_ble_eq_true rfl) (fun p e s m a below meth c A ls cx hr hlk hV hl => ?_)
  have cx : CallFix p m c cX7_addLooker 7 s a TBL RX7 := cx
  have hx := cx.1
  have hb := cx.2.1
  have hl : lv_has ls 7 [(0, .ref (eA E (pT t))), (1, .int p1), (2, .int p2), (3, .int p3), (4, .int p4), (5, .int p5)] := hl
  generalize hQ : EQ E (wC E σf ++ X) qV A s a below = QQ
  obtain ⟨H, hH⟩ : ∃ H, H = s.heap := ⟨_, rfl⟩
  obtain ⟨locs, hlocs⟩ : ∃ z, z = ([] : List Loc) := ⟨_, rfl⟩
  have hV : AtW E (wC E σ ++ X) A s H locs := by rw [hH, hlocs]; exact hV
  have goal : W p l e rm_X7_addLooker s m a below meth c H locs 0 0 QQ (F0 m 0 ls []) := by
    unfold x_X7_addLooker at h
    refine lv_aload_n hx hb dX7_addLooker_0 rfl (lv_at hl 0 rfl) ?_
    refine G_X7_lookers cx hV ht mk_1_62 dX7_addLooker_1 ?_
    refine lv_bipush (v := 6) hx hb dX7_addLooker_4 (by decide) ?_
    refine lv_imul hx hb dX7_addLooker_6 ?_
    refine lv_istore (lv' := [(6, .int ((gI σ (4 * t + 2)) * 6)), (0, .ref (eA E (pT t))), (1, .int p1), (2, .int p2), (3, .int p3), (4, .int p4), (5, .int p5)]) hx hb dX7_addLooker_7 hl (by decide) rfl (fun ls hl => ?_)
    refine lv_aload_n hx hb dX7_addLooker_9 rfl (lv_at hl 1 rfl) ?_
    refine G_X7_ofLookers cx hV ht mk_1_80 dX7_addLooker_10 ?_
    refine lv_iload hx hb dX7_addLooker_13 (lv_at hl 0 rfl) ?_
    refine lv_iconst (v := 0) hx hb dX7_addLooker_15 (by decide) ?_
    refine lv_iadd hx hb dX7_addLooker_16 ?_
    refine lv_iload_n hx hb dX7_addLooker_17 rfl (lv_at hl 2 rfl) ?_
    refine bd_e h (fun σ1 hq h => ?_)
    refine k_X2_put (by omega) hq cx hV mk_2_121 ⟨Nat.le_of_ble_eq_true rfl, Nat.le_of_ble_eq_true rfl⟩ ⟨Nat.zero_le _, Nat.zero_le _⟩ hl.1 (Nat.le_of_ble_eq_true rfl) dX7_addLooker_18 (fun H locs hV => ?_)
    refine lv_aload_n hx hb dX7_addLooker_21 rfl (lv_at hl 1 rfl) ?_
    refine G_X7_ofLookers cx hV ht mk_1_80 dX7_addLooker_22 ?_
    refine lv_iload hx hb dX7_addLooker_25 (lv_at hl 0 rfl) ?_
    refine lv_iconst (v := 1) hx hb dX7_addLooker_27 (by decide) ?_
    refine lv_iadd hx hb dX7_addLooker_28 ?_
    refine lv_iload_n hx hb dX7_addLooker_29 rfl (lv_at hl 3 rfl) ?_
    refine bd_e h (fun σ2 hq h => ?_)
    refine k_X2_put (by omega) hq cx hV mk_2_121 ⟨Nat.le_of_ble_eq_true rfl, Nat.le_of_ble_eq_true rfl⟩ ⟨Nat.zero_le _, Nat.zero_le _⟩ hl.1 (Nat.le_of_ble_eq_true rfl) dX7_addLooker_30 (fun H locs hV => ?_)
    refine lv_aload_n hx hb dX7_addLooker_33 rfl (lv_at hl 1 rfl) ?_
    refine G_X7_ofLookers cx hV ht mk_1_80 dX7_addLooker_34 ?_
    refine lv_iload hx hb dX7_addLooker_37 (lv_at hl 0 rfl) ?_
    refine lv_iconst (v := 2) hx hb dX7_addLooker_39 (by decide) ?_
    refine lv_iadd hx hb dX7_addLooker_40 ?_
    refine lv_iload_n hx hb dX7_addLooker_41 rfl (lv_at hl 4 rfl) ?_
    refine bd_e h (fun σ3 hq h => ?_)
    refine k_X2_put (by omega) hq cx hV mk_2_121 ⟨Nat.le_of_ble_eq_true rfl, Nat.le_of_ble_eq_true rfl⟩ ⟨Nat.zero_le _, Nat.zero_le _⟩ hl.1 (Nat.le_of_ble_eq_true rfl) dX7_addLooker_42 (fun H locs hV => ?_)
    refine lv_aload_n hx hb dX7_addLooker_45 rfl (lv_at hl 1 rfl) ?_
    refine G_X7_ofLookers cx hV ht mk_1_80 dX7_addLooker_46 ?_
    refine lv_iload hx hb dX7_addLooker_49 (lv_at hl 0 rfl) ?_
    refine lv_iconst (v := 3) hx hb dX7_addLooker_51 (by decide) ?_
    refine lv_iadd hx hb dX7_addLooker_52 ?_
    refine lv_iload hx hb dX7_addLooker_53 (lv_at hl 5 rfl) ?_
    refine bd_e h (fun σ4 hq h => ?_)
    refine k_X2_put (by omega) hq cx hV mk_2_121 ⟨Nat.le_of_ble_eq_true rfl, Nat.le_of_ble_eq_true rfl⟩ ⟨Nat.zero_le _, Nat.zero_le _⟩ hl.1 (Nat.le_of_ble_eq_true rfl) dX7_addLooker_55 (fun H locs hV => ?_)
    refine lv_aload_n hx hb dX7_addLooker_58 rfl (lv_at hl 1 rfl) ?_
    refine G_X7_ofLookers cx hV ht mk_1_80 dX7_addLooker_59 ?_
    refine lv_iload hx hb dX7_addLooker_62 (lv_at hl 0 rfl) ?_
    refine lv_iconst (v := 4) hx hb dX7_addLooker_64 (by decide) ?_
    refine lv_iadd hx hb dX7_addLooker_65 ?_
    refine lv_iload hx hb dX7_addLooker_66 (lv_at hl 6 rfl) ?_
    refine bd_e h (fun σ5 hq h => ?_)
    refine k_X2_put (by omega) hq cx hV mk_2_121 ⟨Nat.le_of_ble_eq_true rfl, Nat.le_of_ble_eq_true rfl⟩ ⟨Nat.zero_le _, Nat.zero_le _⟩ hl.1 (Nat.le_of_ble_eq_true rfl) dX7_addLooker_68 (fun H locs hV => ?_)
    refine lv_aload_n hx hb dX7_addLooker_71 rfl (lv_at hl 1 rfl) ?_
    refine lv_dup hx hb dX7_addLooker_72 rfl ?_
    refine G_X7_lookers cx hV ht mk_1_62 dX7_addLooker_73 ?_
    refine lv_iconst (v := 1) hx hb dX7_addLooker_76 (by decide) ?_
    refine lv_iadd hx hb dX7_addLooker_77 ?_
    refine bd_e h (fun σ6 hq h => ?_)
    refine P_X7_lookers cx hV ht hq mk_1_62 dX7_addLooker_78 (fun H locs hV => ?_)
    have h1 := Option.some.inj h
    subst h1
    subst hQ
    exact r_vret cx hr hlk hV dX7_addLooker_81
  rw [hH, hlocs] at goal
  exact goal
theorem k_X7_addLooker {p : Program} {l : Launch} {e : Env} {R : Room} {s : State} {m : MethodId} {a : Array Value} {below : List Frame} {meth : Method} {c : Code} {H : Heap} {locs : List Loc} {cells slots : Nat} {Q : State → Prop} {cc : ByteArray} {own : String} {nL pc : Nat} {ls : Array Slot} {rest : List Value} {A : Nat → Prop} {E : EV} {X : va_W} {σ : St} {t : Nat} {p1 : Int32} {p2 : Int32} {p3 : Int32} {p4 : Int32} {p5 : Int32} {σf : St} (ht : t < 2) (h : x_X7_addLooker t p1 p2 p3 p4 p5 σ = some σf) (cx : CallFix p m c cc nL s a TBL own) (hV : AtW E (wC E σ ++ X) A s H locs) {idx : Nat} (w1 : Cond.methodLink own idx yX7_addLooker ∈ TBL) (hR : (rm_X7_addLooker).frames + 1 ≤ R.frames ∧ 8 + (7 + 11) + (rm_X7_addLooker).locals ≤ R.locals) (hcs : cells ≤ R.cells ∧ slots ≤ R.slots) (hls : ls.size = nL) (hcat : (rest.map fun v => v.category).sum ≤ 8) (d : decode cc pc = .ok (.invokevirtual idx, 3)) (kk : ∀ (H1 : Heap) (locs1 : List Loc), AtW E (wC E σf ++ X) A s H1 locs1 → W p l e R s m a below meth c H1 locs1 cells slots Q (F0 m (pc + 3) ls (rest))) : W p l e R s m a below meth c H locs cells slots Q (F0 m pc ls (.int p5 :: .int p4 :: .int p3 :: .int p2 :: .int p1 :: .ref (eA E (pT t)) :: rest)) :=
  r_callv (n := 5) (As := [.int p1, .int p2, .int p3, .int p4, .int p5]) (q0 := (pT t)) (ci := 7) (qq := (RX7, TX7, 11)) (c_X7_addLooker ht h) wC_fst (wC_T ht) rfl mk_4_154 mk_4_155 mk_1_3 mk_4_156 (by decide +kernel) rfl ⟨rfl, rfl⟩ cx hV w1 hR hcs hls rfl hcat d kk
def x_X7_turnLeft (t : Nat) (p1 : Int32) (σ : St) : Option St :=
  bd (x_X2_put (1 + 7 * t + 4) ((p1 * 6) + 5) 1 σ) fun σ1 =>
  some σ1
abbrev rm_X7_turnLeft : Room := { frames := 1, cells := 0, slots := 0, locals := 22 }
set_option maxHeartbeats 4000000 in
set_option maxRecDepth 100000 in
theorem c_X7_turnLeft {l : Launch} {E : EV} {X : va_W} {σ : St} {t : Nat} {p1 : Int32} {σf : St} (ht : t < 2) (h : x_X7_turnLeft t p1 σ = some σf) : CM l yX7_turnLeft cX7_turnLeft 2 none rm_X7_turnLeft [.ref (eA E (pT t)), .int p1] E (wC E σ ++ X) (wC E σf ++ X) qV := by
  refine CM.start (by decide) (Nat.le_of_ble_eq_true rfl) (fun p e s m a below meth c A ls cx hr hlk hV hl => ?_)
  have cx : CallFix p m c cX7_turnLeft 2 s a TBL RX7 := cx
  have hx := cx.1
  have hb := cx.2.1
  have hl : lv_has ls 2 [(0, .ref (eA E (pT t))), (1, .int p1)] := hl
  generalize hQ : EQ E (wC E σf ++ X) qV A s a below = QQ
  obtain ⟨H, hH⟩ : ∃ H, H = s.heap := ⟨_, rfl⟩
  obtain ⟨locs, hlocs⟩ : ∃ z, z = ([] : List Loc) := ⟨_, rfl⟩
  have hV : AtW E (wC E σ ++ X) A s H locs := by rw [hH, hlocs]; exact hV
  have goal : W p l e rm_X7_turnLeft s m a below meth c H locs 0 0 QQ (F0 m 0 ls []) := by
    unfold x_X7_turnLeft at h
    refine lv_aload_n hx hb dX7_turnLeft_0 rfl (lv_at hl 0 rfl) ?_
    refine G_X7_ofLookers cx hV ht mk_1_80 dX7_turnLeft_1 ?_
    refine lv_iload_n hx hb dX7_turnLeft_4 rfl (lv_at hl 1 rfl) ?_
    refine lv_bipush (v := 6) hx hb dX7_turnLeft_5 (by decide) ?_
    refine lv_imul hx hb dX7_turnLeft_7 ?_
    refine lv_iconst (v := 5) hx hb dX7_turnLeft_8 (by decide) ?_
    refine lv_iadd hx hb dX7_turnLeft_9 ?_
    refine lv_iconst (v := 1) hx hb dX7_turnLeft_10 (by decide) ?_
    refine bd_e h (fun σ1 hq h => ?_)
    refine k_X2_put (by omega) hq cx hV mk_2_121 ⟨Nat.le_of_ble_eq_true rfl, Nat.le_of_ble_eq_true rfl⟩ ⟨Nat.zero_le _, Nat.zero_le _⟩ hl.1 (Nat.le_of_ble_eq_true rfl) dX7_turnLeft_11 (fun H locs hV => ?_)
    have h1 := Option.some.inj h
    subst h1
    subst hQ
    exact r_vret cx hr hlk hV dX7_turnLeft_14
  rw [hH, hlocs] at goal
  exact goal
theorem k_X7_turnLeft {p : Program} {l : Launch} {e : Env} {R : Room} {s : State} {m : MethodId} {a : Array Value} {below : List Frame} {meth : Method} {c : Code} {H : Heap} {locs : List Loc} {cells slots : Nat} {Q : State → Prop} {cc : ByteArray} {own : String} {nL pc : Nat} {ls : Array Slot} {rest : List Value} {A : Nat → Prop} {E : EV} {X : va_W} {σ : St} {t : Nat} {p1 : Int32} {σf : St} (ht : t < 2) (h : x_X7_turnLeft t p1 σ = some σf) (cx : CallFix p m c cc nL s a TBL own) (hV : AtW E (wC E σ ++ X) A s H locs) {idx : Nat} (w1 : Cond.methodLink own idx yX7_turnLeft ∈ TBL) (hR : (rm_X7_turnLeft).frames + 1 ≤ R.frames ∧ 8 + (2 + 11) + (rm_X7_turnLeft).locals ≤ R.locals) (hcs : cells ≤ R.cells ∧ slots ≤ R.slots) (hls : ls.size = nL) (hcat : (rest.map fun v => v.category).sum ≤ 8) (d : decode cc pc = .ok (.invokevirtual idx, 3)) (kk : ∀ (H1 : Heap) (locs1 : List Loc), AtW E (wC E σf ++ X) A s H1 locs1 → W p l e R s m a below meth c H1 locs1 cells slots Q (F0 m (pc + 3) ls (rest))) : W p l e R s m a below meth c H locs cells slots Q (F0 m pc ls (.int p1 :: .ref (eA E (pT t)) :: rest)) :=
  r_callv (n := 1) (As := [.int p1]) (q0 := (pT t)) (ci := 7) (qq := (RX7, TX7, 11)) (c_X7_turnLeft ht h) wC_fst (wC_T ht) rfl mk_4_162 mk_4_163 mk_1_3 mk_4_164 (by decide +kernel) rfl ⟨rfl, rfl⟩ cx hV w1 hR hcs hls rfl hcat d kk
def x_X7_copy (t : Nat) (t1 : Nat) (σ : St) : Option St :=
  bd (some (sI σ (4 * t) (gI σ (4 * t1)))) fun σ1 =>
  bd (some (sI σ1 (4 * t + 1) (gI σ1 (4 * t1 + 1)))) fun σ2 =>
  bd (some (sI σ2 (4 * t + 2) (gI σ2 (4 * t1 + 2)))) fun σ3 =>
  bd (some (sI σ3 (4 * t + 3) (gI σ3 (4 * t1 + 3)))) fun σ4 =>
  bd (x_X2_copy (1 + 7 * t) (1 + 7 * t1) σ4) fun σ5 =>
  bd (x_X2_copy (1 + 7 * t + 1) (1 + 7 * t1 + 1) σ5) fun σ6 =>
  bd (x_X2_copy (1 + 7 * t + 2) (1 + 7 * t1 + 2) σ6) fun σ7 =>
  bd (x_X2_copy (1 + 7 * t + 3) (1 + 7 * t1 + 3) σ7) fun σ8 =>
  bd (x_X2_copy (1 + 7 * t + 4) (1 + 7 * t1 + 4) σ8) fun σ9 =>
  bd (x_X2_copy (1 + 7 * t + 5) (1 + 7 * t1 + 5) σ9) fun σ10 =>
  bd (x_X2_copy (1 + 7 * t + 6) (1 + 7 * t1 + 6) σ10) fun σ11 =>
  some σ11
abbrev rm_X7_copy : Room := { frames := 2, cells := 0, slots := 0, locals := 43 }
set_option maxHeartbeats 4000000 in
set_option maxRecDepth 100000 in
theorem c_X7_copy {l : Launch} {E : EV} {X : va_W} {σ : St} {t : Nat} {t1 : Nat} {σf : St} (ht : t < 2) (ht1 : t1 < 2) (h : x_X7_copy t t1 σ = some σf) : CM l yX7_copy cX7_copy 2 none rm_X7_copy [.ref (eA E (pT t)), .ref (eA E (pT t1))] E (wC E σ ++ X) (wC E σf ++ X) qV := by
  refine CM.start (by decide) (Nat.le_of_ble_eq_true rfl) (fun p e s m a below meth c A ls cx hr hlk hV hl => ?_)
  have cx : CallFix p m c cX7_copy 2 s a TBL RX7 := cx
  have hx := cx.1
  have hb := cx.2.1
  have hl : lv_has ls 2 [(0, .ref (eA E (pT t))), (1, .ref (eA E (pT t1)))] := hl
  generalize hQ : EQ E (wC E σf ++ X) qV A s a below = QQ
  obtain ⟨H, hH⟩ : ∃ H, H = s.heap := ⟨_, rfl⟩
  obtain ⟨locs, hlocs⟩ : ∃ z, z = ([] : List Loc) := ⟨_, rfl⟩
  have hV : AtW E (wC E σ ++ X) A s H locs := by rw [hH, hlocs]; exact hV
  have goal : W p l e rm_X7_copy s m a below meth c H locs 0 0 QQ (F0 m 0 ls []) := by
    unfold x_X7_copy at h
    refine lv_aload_n hx hb dX7_copy_0 rfl (lv_at hl 0 rfl) ?_
    refine lv_aload_n hx hb dX7_copy_1 rfl (lv_at hl 1 rfl) ?_
    refine G_X7_crates cx hV ht1 mk_1_52 dX7_copy_2 ?_
    refine bd_e h (fun σ1 hq h => ?_)
    refine P_X7_crates cx hV ht hq mk_1_52 dX7_copy_5 (fun H locs hV => ?_)
    refine lv_aload_n hx hb dX7_copy_8 rfl (lv_at hl 0 rfl) ?_
    refine lv_aload_n hx hb dX7_copy_9 rfl (lv_at hl 1 rfl) ?_
    refine G_X7_sleeves cx hV ht1 mk_1_57 dX7_copy_10 ?_
    refine bd_e h (fun σ2 hq h => ?_)
    refine P_X7_sleeves cx hV ht hq mk_1_57 dX7_copy_13 (fun H locs hV => ?_)
    refine lv_aload_n hx hb dX7_copy_16 rfl (lv_at hl 0 rfl) ?_
    refine lv_aload_n hx hb dX7_copy_17 rfl (lv_at hl 1 rfl) ?_
    refine G_X7_lookers cx hV ht1 mk_1_62 dX7_copy_18 ?_
    refine bd_e h (fun σ3 hq h => ?_)
    refine P_X7_lookers cx hV ht hq mk_1_62 dX7_copy_21 (fun H locs hV => ?_)
    refine lv_aload_n hx hb dX7_copy_24 rfl (lv_at hl 0 rfl) ?_
    refine lv_aload_n hx hb dX7_copy_25 rfl (lv_at hl 1 rfl) ?_
    refine G_X7_stop cx hV ht1 mk_1_66 dX7_copy_26 ?_
    refine bd_e h (fun σ4 hq h => ?_)
    refine P_X7_stop cx hV ht hq mk_1_66 dX7_copy_29 (fun H locs hV => ?_)
    refine lv_aload_n hx hb dX7_copy_32 rfl (lv_at hl 0 rfl) ?_
    refine G_X7_letters cx hV ht mk_1_70 dX7_copy_33 ?_
    refine lv_aload_n hx hb dX7_copy_36 rfl (lv_at hl 1 rfl) ?_
    refine G_X7_letters cx hV ht1 mk_1_70 dX7_copy_37 ?_
    refine bd_e h (fun σ5 hq h => ?_)
    refine k_X2_copy (by omega) (by omega) hq cx hV mk_4_181 ⟨Nat.le_of_ble_eq_true rfl, Nat.le_of_ble_eq_true rfl⟩ ⟨Nat.zero_le _, Nat.zero_le _⟩ hl.1 (Nat.le_of_ble_eq_true rfl) dX7_copy_40 (fun H locs hV => ?_)
    refine lv_aload_n hx hb dX7_copy_43 rfl (lv_at hl 0 rfl) ?_
    refine G_X7_ofSleeves cx hV ht mk_1_73 dX7_copy_44 ?_
    refine lv_aload_n hx hb dX7_copy_47 rfl (lv_at hl 1 rfl) ?_
    refine G_X7_ofSleeves cx hV ht1 mk_1_73 dX7_copy_48 ?_
    refine bd_e h (fun σ6 hq h => ?_)
    refine k_X2_copy (by omega) (by omega) hq cx hV mk_4_181 ⟨Nat.le_of_ble_eq_true rfl, Nat.le_of_ble_eq_true rfl⟩ ⟨Nat.zero_le _, Nat.zero_le _⟩ hl.1 (Nat.le_of_ble_eq_true rfl) dX7_copy_51 (fun H locs hV => ?_)
    refine lv_aload_n hx hb dX7_copy_54 rfl (lv_at hl 0 rfl) ?_
    refine G_X7_lying cx hV ht mk_1_74 dX7_copy_55 ?_
    refine lv_aload_n hx hb dX7_copy_58 rfl (lv_at hl 1 rfl) ?_
    refine G_X7_lying cx hV ht1 mk_1_74 dX7_copy_59 ?_
    refine bd_e h (fun σ7 hq h => ?_)
    refine k_X2_copy (by omega) (by omega) hq cx hV mk_4_181 ⟨Nat.le_of_ble_eq_true rfl, Nat.le_of_ble_eq_true rfl⟩ ⟨Nat.zero_le _, Nat.zero_le _⟩ hl.1 (Nat.le_of_ble_eq_true rfl) dX7_copy_62 (fun H locs hV => ?_)
    refine lv_aload_n hx hb dX7_copy_65 rfl (lv_at hl 0 rfl) ?_
    refine G_X7_discs cx hV ht mk_1_77 dX7_copy_66 ?_
    refine lv_aload_n hx hb dX7_copy_69 rfl (lv_at hl 1 rfl) ?_
    refine G_X7_discs cx hV ht1 mk_1_77 dX7_copy_70 ?_
    refine bd_e h (fun σ8 hq h => ?_)
    refine k_X2_copy (by omega) (by omega) hq cx hV mk_4_181 ⟨Nat.le_of_ble_eq_true rfl, Nat.le_of_ble_eq_true rfl⟩ ⟨Nat.zero_le _, Nat.zero_le _⟩ hl.1 (Nat.le_of_ble_eq_true rfl) dX7_copy_73 (fun H locs hV => ?_)
    refine lv_aload_n hx hb dX7_copy_76 rfl (lv_at hl 0 rfl) ?_
    refine G_X7_ofLookers cx hV ht mk_1_80 dX7_copy_77 ?_
    refine lv_aload_n hx hb dX7_copy_80 rfl (lv_at hl 1 rfl) ?_
    refine G_X7_ofLookers cx hV ht1 mk_1_80 dX7_copy_81 ?_
    refine bd_e h (fun σ9 hq h => ?_)
    refine k_X2_copy (by omega) (by omega) hq cx hV mk_4_181 ⟨Nat.le_of_ble_eq_true rfl, Nat.le_of_ble_eq_true rfl⟩ ⟨Nat.zero_le _, Nat.zero_le _⟩ hl.1 (Nat.le_of_ble_eq_true rfl) dX7_copy_84 (fun H locs hV => ?_)
    refine lv_aload_n hx hb dX7_copy_87 rfl (lv_at hl 0 rfl) ?_
    refine G_X7_misses cx hV ht mk_1_81 dX7_copy_88 ?_
    refine lv_aload_n hx hb dX7_copy_91 rfl (lv_at hl 1 rfl) ?_
    refine G_X7_misses cx hV ht1 mk_1_81 dX7_copy_92 ?_
    refine bd_e h (fun σ10 hq h => ?_)
    refine k_X2_copy (by omega) (by omega) hq cx hV mk_4_181 ⟨Nat.le_of_ble_eq_true rfl, Nat.le_of_ble_eq_true rfl⟩ ⟨Nat.zero_le _, Nat.zero_le _⟩ hl.1 (Nat.le_of_ble_eq_true rfl) dX7_copy_95 (fun H locs hV => ?_)
    refine lv_aload_n hx hb dX7_copy_98 rfl (lv_at hl 0 rfl) ?_
    refine G_X7_weights cx hV ht mk_1_85 dX7_copy_99 ?_
    refine lv_aload_n hx hb dX7_copy_102 rfl (lv_at hl 1 rfl) ?_
    refine G_X7_weights cx hV ht1 mk_1_85 dX7_copy_103 ?_
    refine bd_e h (fun σ11 hq h => ?_)
    refine k_X2_copy (by omega) (by omega) hq cx hV mk_4_181 ⟨Nat.le_of_ble_eq_true rfl, Nat.le_of_ble_eq_true rfl⟩ ⟨Nat.zero_le _, Nat.zero_le _⟩ hl.1 (Nat.le_of_ble_eq_true rfl) dX7_copy_106 (fun H locs hV => ?_)
    have h1 := Option.some.inj h
    subst h1
    subst hQ
    exact r_vret cx hr hlk hV dX7_copy_109
  rw [hH, hlocs] at goal
  exact goal
theorem k_X7_copy {p : Program} {l : Launch} {e : Env} {R : Room} {s : State} {m : MethodId} {a : Array Value} {below : List Frame} {meth : Method} {c : Code} {H : Heap} {locs : List Loc} {cells slots : Nat} {Q : State → Prop} {cc : ByteArray} {own : String} {nL pc : Nat} {ls : Array Slot} {rest : List Value} {A : Nat → Prop} {E : EV} {X : va_W} {σ : St} {t : Nat} {t1 : Nat} {σf : St} (ht : t < 2) (ht1 : t1 < 2) (h : x_X7_copy t t1 σ = some σf) (cx : CallFix p m c cc nL s a TBL own) (hV : AtW E (wC E σ ++ X) A s H locs) {idx : Nat} (w1 : Cond.methodLink own idx yX7_copy ∈ TBL) (hR : (rm_X7_copy).frames + 1 ≤ R.frames ∧ 8 + (2 + 11) + (rm_X7_copy).locals ≤ R.locals) (hcs : cells ≤ R.cells ∧ slots ≤ R.slots) (hls : ls.size = nL) (hcat : (rest.map fun v => v.category).sum ≤ 8) (d : decode cc pc = .ok (.invokevirtual idx, 3)) (kk : ∀ (H1 : Heap) (locs1 : List Loc), AtW E (wC E σf ++ X) A s H1 locs1 → W p l e R s m a below meth c H1 locs1 cells slots Q (F0 m (pc + 3) ls (rest))) : W p l e R s m a below meth c H locs cells slots Q (F0 m pc ls (.ref (eA E (pT t1)) :: .ref (eA E (pT t)) :: rest)) :=
  r_callv (n := 1) (As := [.ref (eA E (pT t1))]) (q0 := (pT t)) (ci := 7) (qq := (RX7, TX7, 11)) (c_X7_copy ht ht1 h) wC_fst (wC_T ht) rfl mk_4_178 mk_4_179 mk_1_3 mk_4_180 (by decide +kernel) rfl ⟨rfl, rfl⟩ cx hV w1 hR hcs hls rfl hcat d kk
def x_X7_leftBits_L4 (t : Nat) (σ : St) (u1 : Int32) (u2 : Int32) : Option (Bool × (Int32 × Int32)) :=
  (if (gI σ (4 * t + 2)) ≤ u2 then
  some (false, (u1, u2))
  else
  bd (x_X7_ofLooker t u2 5 σ) fun v3 =>
  some (true, ((u1 ||| (v3 <<< (u2 &&& 31))), (u2 + 1))))
def x_X7_leftBits (t : Nat) (σ : St) : Option Int32 :=
  bd2 (lp (fun v : (Int32 × Int32) => x_X7_leftBits_L4 t σ v.1 v.2) FU (0, 0)) fun z4 z5 =>
  some z4
abbrev rm_X7_leftBits : Room := { frames := 2, cells := 0, slots := 0, locals := 43 }
set_option maxHeartbeats 4000000 in
set_option maxRecDepth 100000 in
theorem c_X7_leftBits {l : Launch} {E : EV} {X : va_W} {σ : St} {t : Nat} {rv : Int32} (ht : t < 2) (h : x_X7_leftBits t σ = some rv) : CM l yX7_leftBits cX7_leftBits 3 (some .int) rm_X7_leftBits [.ref (eA E (pT t))] E (wC E σ ++ X) (wC E σ ++ X) (qI rv) := by
  refine CM.start (by decide) (Nat.le_of_ble_eq_true rfl) (fun p e s m a below meth c A ls cx hr hlk hV hl => ?_)
  have cx : CallFix p m c cX7_leftBits 3 s a TBL RX7 := cx
  have hx := cx.1
  have hb := cx.2.1
  have hl : lv_has ls 3 [(0, .ref (eA E (pT t)))] := hl
  generalize hQ : EQ E (wC E σ ++ X) (qI rv) A s a below = QQ
  obtain ⟨H, hH⟩ : ∃ H, H = s.heap := ⟨_, rfl⟩
  obtain ⟨locs, hlocs⟩ : ∃ z, z = ([] : List Loc) := ⟨_, rfl⟩
  have hV : AtW E (wC E σ ++ X) A s H locs := by rw [hH, hlocs]; exact hV
  have goal : W p l e rm_X7_leftBits s m a below meth c H locs 0 0 QQ (F0 m 0 ls []) := by
    unfold x_X7_leftBits at h
    refine lv_iconst (v := 0) hx hb dX7_leftBits_0 (by decide) ?_
    refine lv_istore_n (lv' := [(1, .int 0), (0, .ref (eA E (pT t)))]) hx hb dX7_leftBits_1 rfl hl (by decide) rfl (fun ls hl => ?_)
    refine lv_iconst (v := 0) hx hb dX7_leftBits_2 (by decide) ?_
    refine lv_istore_n (lv' := [(2, .int 0), (1, .int 0), (0, .ref (eA E (pT t)))]) hx hb dX7_leftBits_3 rfl hl (by decide) rfl (fun ls hl => ?_)
    refine bd2_e h (fun z4 z5 ho h => ?_)
    refine (lp_rule (G := (fun v : (Int32 × Int32) => ∀ (H : Heap) (locs : List Loc) (ls : Array Slot), AtW E (wC E σ ++ X) A s H locs → lv_has ls 3 [(0, .ref (eA E (pT t))), (1, .int v.1), (2, .int v.2)] → W p l e rm_X7_leftBits s m a below meth c H locs 0 0 QQ (F0 m 4 ls []))) (K := (fun v : (Int32 × Int32) => ∀ (H : Heap) (locs : List Loc) (ls : Array Slot), AtW E (wC E σ ++ X) A s H locs → lv_has ls 3 [(1, .int v.1)] → W p l e rm_X7_leftBits s m a below meth c H locs 0 0 QQ (F0 m 29 ls []))) (fun v b1 y1 h hT1 hF1 => ?_) ho (fun H locs ls hV hl => ?_)) _ _ _ hV (lv_sub hl [2, 1, 0] rfl)
    · obtain ⟨u1, u2⟩ := v
      have h : x_X7_leftBits_L4 t σ u1 u2 = some (b1, y1) := h
      intro H locs ls hV hl
      have hV : AtW E (wC E σ ++ X) A s H locs := hV
      have hl : lv_has ls 3 [(0, .ref (eA E (pT t))), (1, .int u1), (2, .int u2)] := hl
      unfold x_X7_leftBits_L4 at h
      refine lv_iload_n hx hb dX7_leftBits_4 rfl (lv_at hl 2 rfl) ?_
      refine lv_aload_n hx hb dX7_leftBits_5 rfl (lv_at hl 0 rfl) ?_
      refine G_X7_lookers cx hV ht mk_1_62 dX7_leftBits_6 ?_
      refine lv_icmp_ge (tgt := 29) hx hb dX7_leftBits_9 (by decide) (fun hc => ?_) (fun hc => ?_)
      · have h := ifp hc h
        cases h
        exact hF1 rfl _ _ _ hV (lv_sub hl [1] rfl)
      · have h := ifn hc h
        refine lv_iload_n hx hb dX7_leftBits_12 rfl (lv_at hl 1 rfl) ?_
        refine lv_aload_n hx hb dX7_leftBits_13 rfl (lv_at hl 0 rfl) ?_
        refine lv_iload_n hx hb dX7_leftBits_14 rfl (lv_at hl 2 rfl) ?_
        refine lv_iconst (v := 5) hx hb dX7_leftBits_15 (by decide) ?_
        refine bd_e h (fun v3 hq h => ?_)
        refine k_X7_ofLooker ht hq cx hV mk_2_202 ⟨Nat.le_of_ble_eq_true rfl, Nat.le_of_ble_eq_true rfl⟩ ⟨Nat.zero_le _, Nat.zero_le _⟩ hl.1 (Nat.le_of_ble_eq_true rfl) dX7_leftBits_16 (fun H locs hV => ?_)
        refine lv_iload_n hx hb dX7_leftBits_19 rfl (lv_at hl 2 rfl) ?_
        refine lv_ishl hx hb dX7_leftBits_20 ?_
        refine lv_ior hx hb dX7_leftBits_21 ?_
        refine lv_istore_n (lv' := [(1, .int (u1 ||| (v3 <<< (u2 &&& 31)))), (0, .ref (eA E (pT t))), (2, .int u2)]) hx hb dX7_leftBits_22 rfl hl (by decide) rfl (fun ls hl => ?_)
        refine lv_iinc (v := (u2 + 1)) (lv' := [(2, .int (u2 + 1)), (1, .int (u1 ||| (v3 <<< (u2 &&& 31)))), (0, .ref (eA E (pT t)))]) hx hb dX7_leftBits_23 hl (k := 2) rfl rfl (by decide) rfl (fun ls hl => ?_)
        refine lv_goto (tgt := 4) hx hb dX7_leftBits_26 (by decide) ?_
        cases h
        exact hT1 rfl _ _ _ hV (lv_sub hl [2, 1, 0] rfl)
    · have hV : AtW E (wC E σ ++ X) A s H locs := hV
      have hl : lv_has ls 3 [(1, .int z4)] := hl
      refine lv_iload_n hx hb dX7_leftBits_29 rfl (lv_at hl 0 rfl) ?_
      have h1 := Option.some.inj h
      subst h1
      subst hQ
      exact r_ireti cx hr hlk hV dX7_leftBits_30
  rw [hH, hlocs] at goal
  exact goal
theorem k_X7_leftBits {p : Program} {l : Launch} {e : Env} {R : Room} {s : State} {m : MethodId} {a : Array Value} {below : List Frame} {meth : Method} {c : Code} {H : Heap} {locs : List Loc} {cells slots : Nat} {Q : State → Prop} {cc : ByteArray} {own : String} {nL pc : Nat} {ls : Array Slot} {rest : List Value} {A : Nat → Prop} {E : EV} {X : va_W} {σ : St} {t : Nat} {rv : Int32} (ht : t < 2) (h : x_X7_leftBits t σ = some rv) (cx : CallFix p m c cc nL s a TBL own) (hV : AtW E (wC E σ ++ X) A s H locs) {idx : Nat} (w1 : Cond.methodLink own idx yX7_leftBits ∈ TBL) (hR : (rm_X7_leftBits).frames + 1 ≤ R.frames ∧ 8 + (3 + 11) + (rm_X7_leftBits).locals ≤ R.locals) (hcs : cells ≤ R.cells ∧ slots ≤ R.slots) (hls : ls.size = nL) (hcat : (rest.map fun v => v.category).sum ≤ 8) (d : decode cc pc = .ok (.invokevirtual idx, 3)) (kk : ∀ (H1 : Heap) (locs1 : List Loc), AtW E (wC E σ ++ X) A s H1 locs1 → W p l e R s m a below meth c H1 locs1 cells slots Q (F0 m (pc + 3) ls (.int rv :: rest))) : W p l e R s m a below meth c H locs cells slots Q (F0 m pc ls (.ref (eA E (pT t)) :: rest)) :=
  r_calli (n := 0) (As := []) (q0 := (pT t)) (ci := 7) (qq := (RX7, TX7, 11)) (c_X7_leftBits ht h) rfl (wC_T ht) rfl mk_2_199 mk_2_200 mk_1_3 mk_2_201 (by decide +kernel) rfl ⟨rfl, rfl⟩ cx hV w1 hR hcs hls rfl hcat d kk
