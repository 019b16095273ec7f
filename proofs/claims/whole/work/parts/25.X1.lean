def x_X1_begin_L59 (u8 : Int32) (σ9 : St) : Option (Bool × (Int32 × St)) :=
  (if (gI σ9 2) ≤ u8 then
  some (false, (u8, σ9))
  else
  bd (x_X7_ofLooker 0 u8 0 σ9) fun v10 =>
  bd (x_X2_put 41 u8 v10 σ9) fun σ11 =>
  some (true, ((u8 + 1), σ11)))
def x_X1_begin (σ : St) : Option St :=
  bd (x_X5_copy 4 0 σ) fun σ1 =>
  bd (x_X2_fill 36 0 σ1) fun σ2 =>
  bd (x_X2_fill 37 0 σ2) fun σ3 =>
  bd (x_X2_fill 38 0 σ3) fun σ4 =>
  bd (x_X2_fill 39 (-1) σ4) fun σ5 =>
  bd (some (sI σ5 18 0)) fun σ6 =>
  bd (x_X2_fill 40 (-3) σ6) fun σ7 =>
  bd2 (lp (fun v : (Int32 × St) => x_X1_begin_L59 v.1 v.2) FU (0, σ7)) fun z12 σ13 =>
  bd (some (sI σ13 20 (gI σ13 2))) fun σ14 =>
  some σ14
abbrev rm_X1_begin : Room := { frames := 3, cells := 0, slots := 0, locals := 64 }
set_option maxHeartbeats 4000000 in
set_option maxRecDepth 100000 in
theorem c_X1_begin {l : Launch} {E : EV} {X : va_W} {σ : St} {σf : St} (h : x_X1_begin σ = some σf) : CM l yX1_begin cX1_begin 2 none rm_X1_begin [.ref (eA E 73)] E (wC E σ ++ X) (wC E σf ++ X) qV := by
  refine CM.start (by decide) (Nat.le_of_ble_eq_true rfl) (fun p e s m a below meth c A ls cx hr hlk hV hl => ?_)
  have cx : CallFix p m c cX1_begin 2 s a TBL RX1 := cx
  have hx := cx.1
  have hb := cx.2.1
  have hl : lv_has ls 2 [(0, .ref (eA E 73))] := hl
  generalize hQ : EQ E (wC E σf ++ X) qV A s a below = QQ
  obtain ⟨H, hH⟩ : ∃ H, H = s.heap := ⟨_, rfl⟩
  obtain ⟨locs, hlocs⟩ : ∃ z, z = ([] : List Loc) := ⟨_, rfl⟩
  have hV : AtW E (wC E σ ++ X) A s H locs := by rw [hH, hlocs]; exact hV
  have goal : W p l e rm_X1_begin s m a below meth c H locs 0 0 QQ (F0 m 0 ls []) := by
    unfold x_X1_begin at h
    refine lv_aload_n hx hb dX1_begin_0 rfl (lv_at hl 0 rfl) ?_
    refine G_X1_stock cx hV mk_1_190 dX1_begin_1 ?_
    refine lv_aload_n hx hb dX1_begin_4 rfl (lv_at hl 0 rfl) ?_
    refine G_X1_before cx hV mk_1_203 dX1_begin_5 ?_
    refine bd_e h (fun σ1 hq h => ?_)
    refine k_X5_copy (by decide) (by decide) hq cx hV mk_2_215 ⟨Nat.le_of_ble_eq_true rfl, Nat.le_of_ble_eq_true rfl⟩ ⟨Nat.zero_le _, Nat.zero_le _⟩ hl.1 (Nat.le_of_ble_eq_true rfl) dX1_begin_8 (fun H locs hV => ?_)
    refine lv_aload_n hx hb dX1_begin_11 rfl (lv_at hl 0 rfl) ?_
    refine G_X1_bought cx hV mk_1_192 dX1_begin_12 ?_
    refine lv_iconst (v := 0) hx hb dX1_begin_15 (by decide) ?_
    refine bd_e h (fun σ2 hq h => ?_)
    refine k_X2_fill (by decide) hq cx hV mk_2_219 ⟨Nat.le_of_ble_eq_true rfl, Nat.le_of_ble_eq_true rfl⟩ ⟨Nat.zero_le _, Nat.zero_le _⟩ hl.1 (Nat.le_of_ble_eq_true rfl) dX1_begin_16 (fun H locs hV => ?_)
    refine lv_aload_n hx hb dX1_begin_19 rfl (lv_at hl 0 rfl) ?_
    refine G_X1_spent cx hV mk_1_194 dX1_begin_20 ?_
    refine lv_iconst (v := 0) hx hb dX1_begin_23 (by decide) ?_
    refine bd_e h (fun σ3 hq h => ?_)
    refine k_X2_fill (by decide) hq cx hV mk_2_219 ⟨Nat.le_of_ble_eq_true rfl, Nat.le_of_ble_eq_true rfl⟩ ⟨Nat.zero_le _, Nat.zero_le _⟩ hl.1 (Nat.le_of_ble_eq_true rfl) dX1_begin_24 (fun H locs hV => ?_)
    refine lv_aload_n hx hb dX1_begin_27 rfl (lv_at hl 0 rfl) ?_
    refine G_X1_waited cx hV mk_1_196 dX1_begin_28 ?_
    refine lv_iconst (v := 0) hx hb dX1_begin_31 (by decide) ?_
    refine bd_e h (fun σ4 hq h => ?_)
    refine k_X2_fill (by decide) hq cx hV mk_2_219 ⟨Nat.le_of_ble_eq_true rfl, Nat.le_of_ble_eq_true rfl⟩ ⟨Nat.zero_le _, Nat.zero_le _⟩ hl.1 (Nat.le_of_ble_eq_true rfl) dX1_begin_32 (fun H locs hV => ?_)
    refine lv_aload_n hx hb dX1_begin_35 rfl (lv_at hl 0 rfl) ?_
    refine G_X1_gone cx hV mk_1_198 dX1_begin_36 ?_
    refine lv_iconst (v := (-1)) hx hb dX1_begin_39 (by decide) ?_
    refine bd_e h (fun σ5 hq h => ?_)
    refine k_X2_fill (by decide) hq cx hV mk_2_219 ⟨Nat.le_of_ble_eq_true rfl, Nat.le_of_ble_eq_true rfl⟩ ⟨Nat.zero_le _, Nat.zero_le _⟩ hl.1 (Nat.le_of_ble_eq_true rfl) dX1_begin_40 (fun H locs hV => ?_)
    refine lv_aload_n hx hb dX1_begin_43 rfl (lv_at hl 0 rfl) ?_
    refine lv_iconst (v := 0) hx hb dX1_begin_44 (by decide) ?_
    refine bd_e h (fun σ6 hq h => ?_)
    refine P_X1_heldUp cx hV hq mk_1_200 dX1_begin_45 (fun H locs hV => ?_)
    refine lv_aload_n hx hb dX1_begin_48 rfl (lv_at hl 0 rfl) ?_
    refine G_X1_stands cx hV mk_1_204 dX1_begin_49 ?_
    refine lv_bipush (v := (-3)) hx hb dX1_begin_52 (by decide) ?_
    refine bd_e h (fun σ7 hq h => ?_)
    refine k_X2_fill (by decide) hq cx hV mk_2_219 ⟨Nat.le_of_ble_eq_true rfl, Nat.le_of_ble_eq_true rfl⟩ ⟨Nat.zero_le _, Nat.zero_le _⟩ hl.1 (Nat.le_of_ble_eq_true rfl) dX1_begin_54 (fun H locs hV => ?_)
    refine lv_iconst (v := 0) hx hb dX1_begin_57 (by decide) ?_
    refine lv_istore_n (lv' := [(1, .int 0), (0, .ref (eA E 73))]) hx hb dX1_begin_58 rfl hl (by decide) rfl (fun ls hl => ?_)
    refine bd2_e h (fun z12 σ13 ho h => ?_)
    refine (lp_rule (G := (fun v : (Int32 × St) => ∀ (H : Heap) (locs : List Loc) (ls : Array Slot), AtW E (wC E v.2 ++ X) A s H locs → lv_has ls 2 [(0, .ref (eA E 73)), (1, .int v.1)] → W p l e rm_X1_begin s m a below meth c H locs 0 0 QQ (F0 m 59 ls []))) (K := (fun v : (Int32 × St) => ∀ (H : Heap) (locs : List Loc) (ls : Array Slot), AtW E (wC E v.2 ++ X) A s H locs → lv_has ls 2 [(0, .ref (eA E 73))] → W p l e rm_X1_begin s m a below meth c H locs 0 0 QQ (F0 m 93 ls []))) (fun v b1 y1 h hT1 hF1 => ?_) ho (fun H locs ls hV hl => ?_)) _ _ _ hV (lv_sub hl [1, 0] rfl)
    · obtain ⟨u8, σ9⟩ := v
      have h : x_X1_begin_L59 u8 σ9 = some (b1, y1) := h
      intro H locs ls hV hl
      have hV : AtW E (wC E σ9 ++ X) A s H locs := hV
      have hl : lv_has ls 2 [(0, .ref (eA E 73)), (1, .int u8)] := hl
      unfold x_X1_begin_L59 at h
      refine lv_iload_n hx hb dX1_begin_59 rfl (lv_at hl 1 rfl) ?_
      refine lv_aload_n hx hb dX1_begin_60 rfl (lv_at hl 0 rfl) ?_
      refine G_X1_told cx hV mk_1_202 dX1_begin_61 ?_
      refine G_X7_lookers cx hV (by decide) mk_1_63 dX1_begin_64 ?_
      refine lv_icmp_ge (tgt := 93) hx hb dX1_begin_67 (by decide) (fun hc => ?_) (fun hc => ?_)
      · have h := ifp hc h
        cases h
        exact hF1 rfl _ _ _ hV (lv_sub hl [0] rfl)
      · have h := ifn hc h
        refine lv_aload_n hx hb dX1_begin_70 rfl (lv_at hl 0 rfl) ?_
        refine G_X1_done cx hV mk_1_205 dX1_begin_71 ?_
        refine lv_iload_n hx hb dX1_begin_74 rfl (lv_at hl 1 rfl) ?_
        refine lv_aload_n hx hb dX1_begin_75 rfl (lv_at hl 0 rfl) ?_
        refine G_X1_told cx hV mk_1_202 dX1_begin_76 ?_
        refine lv_iload_n hx hb dX1_begin_79 rfl (lv_at hl 1 rfl) ?_
        refine lv_iconst (v := 0) hx hb dX1_begin_80 (by decide) ?_
        refine bd_e h (fun v10 hq h => ?_)
        refine k_X7_ofLooker (by decide) hq cx hV mk_2_220 ⟨Nat.le_of_ble_eq_true rfl, Nat.le_of_ble_eq_true rfl⟩ ⟨Nat.zero_le _, Nat.zero_le _⟩ hl.1 (Nat.le_of_ble_eq_true rfl) dX1_begin_81 (fun H locs hV => ?_)
        refine bd_e h (fun σ11 hq h => ?_)
        refine k_X2_put (by decide) hq cx hV mk_2_221 ⟨Nat.le_of_ble_eq_true rfl, Nat.le_of_ble_eq_true rfl⟩ ⟨Nat.zero_le _, Nat.zero_le _⟩ hl.1 (Nat.le_of_ble_eq_true rfl) dX1_begin_84 (fun H locs hV => ?_)
        refine lv_iinc (v := (u8 + 1)) (lv' := [(1, .int (u8 + 1)), (0, .ref (eA E 73))]) hx hb dX1_begin_87 hl (k := 1) rfl rfl (by decide) rfl (fun ls hl => ?_)
        refine lv_goto (tgt := 59) hx hb dX1_begin_90 (by decide) ?_
        cases h
        exact hT1 rfl _ _ _ hV (lv_sub hl [1, 0] rfl)
    · have hV : AtW E (wC E σ13 ++ X) A s H locs := hV
      have hl : lv_has ls 2 [(0, .ref (eA E 73))] := hl
      refine lv_aload_n hx hb dX1_begin_93 rfl (lv_at hl 0 rfl) ?_
      refine lv_aload_n hx hb dX1_begin_94 rfl (lv_at hl 0 rfl) ?_
      refine G_X1_told cx hV mk_1_202 dX1_begin_95 ?_
      refine G_X7_lookers cx hV (by decide) mk_1_63 dX1_begin_98 ?_
      refine bd_e h (fun σ14 hq h => ?_)
      refine P_X1_staying cx hV hq mk_1_208 dX1_begin_101 (fun H locs hV => ?_)
      have h1 := Option.some.inj h
      subst h1
      subst hQ
      exact r_vret cx hr hlk hV dX1_begin_104
  rw [hH, hlocs] at goal
  exact goal
theorem k_X1_begin {p : Program} {l : Launch} {e : Env} {R : Room} {s : State} {m : MethodId} {a : Array Value} {below : List Frame} {meth : Method} {c : Code} {H : Heap} {locs : List Loc} {cells slots : Nat} {Q : State → Prop} {cc : ByteArray} {own : String} {nL pc : Nat} {ls : Array Slot} {rest : List Value} {A : Nat → Prop} {E : EV} {X : va_W} {σ : St} {σf : St} (h : x_X1_begin σ = some σf) (cx : CallFix p m c cc nL s a TBL own) (hV : AtW E (wC E σ ++ X) A s H locs) {idx : Nat} (w1 : Cond.methodLink own idx yX1_begin ∈ TBL) (hR : (rm_X1_begin).frames + 1 ≤ R.frames ∧ 8 + (2 + 11) + (rm_X1_begin).locals ≤ R.locals) (hcs : cells ≤ R.cells ∧ slots ≤ R.slots) (hls : ls.size = nL) (hcat : (rest.map fun v => v.category).sum ≤ 8) (d : decode cc pc = .ok (.invokevirtual idx, 3)) (kk : ∀ (H1 : Heap) (locs1 : List Loc), AtW E (wC E σf ++ X) A s H1 locs1 → W p l e R s m a below meth c H1 locs1 cells slots Q (F0 m (pc + 3) ls (rest))) : W p l e R s m a below meth c H locs cells slots Q (F0 m pc ls (.ref (eA E 73) :: rest)) :=
  r_callv (n := 0) (As := []) (q0 := 73) (ci := 1) (qq := (RX1, TX1, 16)) (c_X1_begin h) wC_fst rfl rfl mk_2_213 mk_P_1 mk_1_6 mk_2_214 (by decide +kernel) rfl ⟨rfl, rfl⟩ cx hV w1 hR hcs hls rfl hcat d kk
def x_X1_nextOf (p1 : Int32) (σ : St) : Option Int32 :=
  bd (x_X9_hasBit (gI σ 19) p1) fun v1 =>
  bd (x_X2_at 40 p1 σ) fun v2 =>
  (if v2 = (-3) then
  (if v1 = 0 then
  some 0
  else
  some ((gI σ 0) - 1))
  else
  (if v1 = 0 then
  some (v2 + 1)
  else
  some (v2 - 1)))
abbrev rm_X1_nextOf : Room := { frames := 1, cells := 0, slots := 0, locals := 21 }
set_option maxHeartbeats 4000000 in
set_option maxRecDepth 100000 in
theorem c_X1_nextOf {l : Launch} {E : EV} {X : va_W} {σ : St} {p1 : Int32} {rv : Int32} (h : x_X1_nextOf p1 σ = some rv) : CM l yX1_nextOf cX1_nextOf 4 (some .int) rm_X1_nextOf [.ref (eA E 73), .int p1] E (wC E σ ++ X) (wC E σ ++ X) (qI rv) := by
  refine CM.start (by decide) (Nat.le_of_ble_eq_true rfl) (fun p e s m a below meth c A ls cx hr hlk hV hl => ?_)
  have cx : CallFix p m c cX1_nextOf 4 s a TBL RX1 := cx
  have hx := cx.1
  have hb := cx.2.1
  have hl : lv_has ls 4 [(0, .ref (eA E 73)), (1, .int p1)] := hl
  generalize hQ : EQ E (wC E σ ++ X) (qI rv) A s a below = QQ
  obtain ⟨H, hH⟩ : ∃ H, H = s.heap := ⟨_, rfl⟩
  obtain ⟨locs, hlocs⟩ : ∃ z, z = ([] : List Loc) := ⟨_, rfl⟩
  have hV : AtW E (wC E σ ++ X) A s H locs := by rw [hH, hlocs]; exact hV
  have goal : W p l e rm_X1_nextOf s m a below meth c H locs 0 0 QQ (F0 m 0 ls []) := by
    unfold x_X1_nextOf at h
    refine lv_aload_n hx hb dX1_nextOf_0 rfl (lv_at hl 0 rfl) ?_
    refine G_X1_lefts cx hV mk_1_207 dX1_nextOf_1 ?_
    refine lv_iload_n hx hb dX1_nextOf_4 rfl (lv_at hl 1 rfl) ?_
    refine bd_e h (fun v1 hq h => ?_)
    refine k_X9_hasBitN (host := RX9) hq cx hV (List.mem_of_getElem? (i := 5) rfl) ⟨Nat.le_of_ble_eq_true rfl, Nat.le_of_ble_eq_true rfl⟩ ⟨Nat.zero_le _, Nat.zero_le _⟩ hl.1 (Nat.le_of_ble_eq_true rfl) dX1_nextOf_5 (fun H locs hV => ?_)
    refine lv_istore_n (lv' := [(2, .int v1), (0, .ref (eA E 73)), (1, .int p1)]) hx hb dX1_nextOf_8 rfl hl (by decide) rfl (fun ls hl => ?_)
    refine lv_aload_n hx hb dX1_nextOf_9 rfl (lv_at hl 1 rfl) ?_
    refine G_X1_stands cx hV mk_1_204 dX1_nextOf_10 ?_
    refine lv_iload_n hx hb dX1_nextOf_13 rfl (lv_at hl 2 rfl) ?_
    refine bd_e h (fun v2 hq h => ?_)
    refine k_X2_at (by decide) hq cx hV mk_2_226 ⟨Nat.le_of_ble_eq_true rfl, Nat.le_of_ble_eq_true rfl⟩ ⟨Nat.zero_le _, Nat.zero_le _⟩ hl.1 (Nat.le_of_ble_eq_true rfl) dX1_nextOf_14 (fun H locs hV => ?_)
    refine lv_istore_n (lv' := [(3, .int v2), (2, .int v1), (0, .ref (eA E 73)), (1, .int p1)]) hx hb dX1_nextOf_17 rfl hl (by decide) rfl (fun ls hl => ?_)
    refine lv_iload_n hx hb dX1_nextOf_18 rfl (lv_at hl 0 rfl) ?_
    refine lv_bipush (v := (-3)) hx hb dX1_nextOf_19 (by decide) ?_
    refine lv_icmp_ne (tgt := 42) hx hb dX1_nextOf_21 (by decide) (fun hc => ?_) (fun hc => ?_)
    · have h := ifn hc h
      refine lv_iload_n hx hb dX1_nextOf_42 rfl (lv_at hl 1 rfl) ?_
      refine lv_if_eq (tgt := 52) hx hb dX1_nextOf_43 (by decide) (fun hc => ?_) (fun hc => ?_)
      · have h := ifp hc h
        refine lv_iload_n hx hb dX1_nextOf_52 rfl (lv_at hl 0 rfl) ?_
        refine lv_iconst (v := 1) hx hb dX1_nextOf_53 (by decide) ?_
        refine lv_iadd hx hb dX1_nextOf_54 ?_
        have h1 := Option.some.inj h
        subst h1
        subst hQ
        exact r_ireti cx hr hlk hV dX1_nextOf_55
      · have h := ifn hc h
        refine lv_iload_n hx hb dX1_nextOf_46 rfl (lv_at hl 0 rfl) ?_
        refine lv_iconst (v := 1) hx hb dX1_nextOf_47 (by decide) ?_
        refine lv_isub hx hb dX1_nextOf_48 ?_
        refine lv_goto (tgt := 55) hx hb dX1_nextOf_49 (by decide) ?_
        have h1 := Option.some.inj h
        subst h1
        subst hQ
        exact r_ireti cx hr hlk hV dX1_nextOf_55
    · have h := ifp hc h
      refine lv_iload_n hx hb dX1_nextOf_24 rfl (lv_at hl 1 rfl) ?_
      refine lv_if_eq (tgt := 40) hx hb dX1_nextOf_25 (by decide) (fun hc => ?_) (fun hc => ?_)
      · have h := ifp hc h
        refine lv_iconst (v := 0) hx hb dX1_nextOf_40 (by decide) ?_
        have h1 := Option.some.inj h
        subst h1
        subst hQ
        exact r_ireti cx hr hlk hV dX1_nextOf_41
      · have h := ifn hc h
        refine lv_aload_n hx hb dX1_nextOf_28 rfl (lv_at hl 2 rfl) ?_
        refine G_X1_told cx hV mk_1_202 dX1_nextOf_29 ?_
        refine G_X7_crates cx hV (by decide) mk_1_56 dX1_nextOf_32 ?_
        refine lv_iconst (v := 1) hx hb dX1_nextOf_35 (by decide) ?_
        refine lv_isub hx hb dX1_nextOf_36 ?_
        refine lv_goto (tgt := 41) hx hb dX1_nextOf_37 (by decide) ?_
        have h1 := Option.some.inj h
        subst h1
        subst hQ
        exact r_ireti cx hr hlk hV dX1_nextOf_41
  rw [hH, hlocs] at goal
  exact goal
theorem k_X1_nextOf {p : Program} {l : Launch} {e : Env} {R : Room} {s : State} {m : MethodId} {a : Array Value} {below : List Frame} {meth : Method} {c : Code} {H : Heap} {locs : List Loc} {cells slots : Nat} {Q : State → Prop} {cc : ByteArray} {own : String} {nL pc : Nat} {ls : Array Slot} {rest : List Value} {A : Nat → Prop} {E : EV} {X : va_W} {σ : St} {p1 : Int32} {rv : Int32} (h : x_X1_nextOf p1 σ = some rv) (cx : CallFix p m c cc nL s a TBL own) (hV : AtW E (wC E σ ++ X) A s H locs) {idx : Nat} (w1 : Cond.methodLink own idx yX1_nextOf ∈ TBL) (hR : (rm_X1_nextOf).frames + 1 ≤ R.frames ∧ 8 + (4 + 11) + (rm_X1_nextOf).locals ≤ R.locals) (hcs : cells ≤ R.cells ∧ slots ≤ R.slots) (hls : ls.size = nL) (hcat : (rest.map fun v => v.category).sum ≤ 8) (d : decode cc pc = .ok (.invokevirtual idx, 3)) (kk : ∀ (H1 : Heap) (locs1 : List Loc), AtW E (wC E σ ++ X) A s H1 locs1 → W p l e R s m a below meth c H1 locs1 cells slots Q (F0 m (pc + 3) ls (.int rv :: rest))) : W p l e R s m a below meth c H locs cells slots Q (F0 m pc ls (.int p1 :: .ref (eA E 73) :: rest)) :=
  r_calli (n := 1) (As := [.int p1]) (q0 := 73) (ci := 1) (qq := (RX1, TX1, 16)) (c_X1_nextOf h) rfl rfl rfl mk_2_229 mk_P_3 mk_1_6 mk_2_230 (by decide +kernel) rfl ⟨rfl, rfl⟩ cx hV w1 hR hcs hls rfl hcat d kk
def x_X1_leave (p1 : Int32) (p2 : Int32) (σ : St) : Option St :=
  bd (x_X2_put 40 p1 (-2) σ) fun σ1 =>
  bd (x_X2_put 39 p1 p2 σ1) fun σ2 =>
  bd (some (sI σ2 20 ((gI σ2 20) - 1))) fun σ3 =>
  bd (some (sI σ3 23 1)) fun σ4 =>
  some σ4
abbrev rm_X1_leave : Room := { frames := 1, cells := 0, slots := 0, locals := 22 }
set_option maxHeartbeats 4000000 in
set_option maxRecDepth 100000 in
theorem c_X1_leave {l : Launch} {E : EV} {X : va_W} {σ : St} {p1 : Int32} {p2 : Int32} {σf : St} (h : x_X1_leave p1 p2 σ = some σf) : CM l yX1_leave cX1_leave 3 none rm_X1_leave [.ref (eA E 73), .int p1, .int p2] E (wC E σ ++ X) (wC E σf ++ X) qV := by
  refine CM.start (by decide) (Nat.le_of_ble_eq_true rfl) (fun p e s m a below meth c A ls cx hr hlk hV hl => ?_)
  have cx : CallFix p m c cX1_leave 3 s a TBL RX1 := cx
  have hx := cx.1
  have hb := cx.2.1
  have hl : lv_has ls 3 [(0, .ref (eA E 73)), (1, .int p1), (2, .int p2)] := hl
  generalize hQ : EQ E (wC E σf ++ X) qV A s a below = QQ
  obtain ⟨H, hH⟩ : ∃ H, H = s.heap := ⟨_, rfl⟩
  obtain ⟨locs, hlocs⟩ : ∃ z, z = ([] : List Loc) := ⟨_, rfl⟩
  have hV : AtW E (wC E σ ++ X) A s H locs := by rw [hH, hlocs]; exact hV
  have goal : W p l e rm_X1_leave s m a below meth c H locs 0 0 QQ (F0 m 0 ls []) := by
    unfold x_X1_leave at h
    refine lv_aload_n hx hb dX1_leave_0 rfl (lv_at hl 0 rfl) ?_
    refine G_X1_stands cx hV mk_1_204 dX1_leave_1 ?_
    refine lv_iload_n hx hb dX1_leave_4 rfl (lv_at hl 1 rfl) ?_
    refine lv_bipush (v := (-2)) hx hb dX1_leave_5 (by decide) ?_
    refine bd_e h (fun σ1 hq h => ?_)
    refine k_X2_put (by decide) hq cx hV mk_2_221 ⟨Nat.le_of_ble_eq_true rfl, Nat.le_of_ble_eq_true rfl⟩ ⟨Nat.zero_le _, Nat.zero_le _⟩ hl.1 (Nat.le_of_ble_eq_true rfl) dX1_leave_7 (fun H locs hV => ?_)
    refine lv_aload_n hx hb dX1_leave_10 rfl (lv_at hl 0 rfl) ?_
    refine G_X1_gone cx hV mk_1_198 dX1_leave_11 ?_
    refine lv_iload_n hx hb dX1_leave_14 rfl (lv_at hl 1 rfl) ?_
    refine lv_iload_n hx hb dX1_leave_15 rfl (lv_at hl 2 rfl) ?_
    refine bd_e h (fun σ2 hq h => ?_)
    refine k_X2_put (by decide) hq cx hV mk_2_221 ⟨Nat.le_of_ble_eq_true rfl, Nat.le_of_ble_eq_true rfl⟩ ⟨Nat.zero_le _, Nat.zero_le _⟩ hl.1 (Nat.le_of_ble_eq_true rfl) dX1_leave_16 (fun H locs hV => ?_)
    refine lv_aload_n hx hb dX1_leave_19 rfl (lv_at hl 0 rfl) ?_
    refine lv_dup hx hb dX1_leave_20 rfl ?_
    refine G_X1_staying cx hV mk_1_208 dX1_leave_21 ?_
    refine lv_iconst (v := 1) hx hb dX1_leave_24 (by decide) ?_
    refine lv_isub hx hb dX1_leave_25 ?_
    refine bd_e h (fun σ3 hq h => ?_)
    refine P_X1_staying cx hV hq mk_1_208 dX1_leave_26 (fun H locs hV => ?_)
    refine lv_aload_n hx hb dX1_leave_29 rfl (lv_at hl 0 rfl) ?_
    refine lv_iconst (v := 1) hx hb dX1_leave_30 (by decide) ?_
    refine bd_e h (fun σ4 hq h => ?_)
    refine P_X1_moved cx hV (Or.inr rfl) hq mk_1_211 dX1_leave_31 (fun H locs hV => ?_)
    have h1 := Option.some.inj h
    subst h1
    subst hQ
    exact r_vret cx hr hlk hV dX1_leave_34
  rw [hH, hlocs] at goal
  exact goal
theorem k_X1_leave {p : Program} {l : Launch} {e : Env} {R : Room} {s : State} {m : MethodId} {a : Array Value} {below : List Frame} {meth : Method} {c : Code} {H : Heap} {locs : List Loc} {cells slots : Nat} {Q : State → Prop} {cc : ByteArray} {own : String} {nL pc : Nat} {ls : Array Slot} {rest : List Value} {A : Nat → Prop} {E : EV} {X : va_W} {σ : St} {p1 : Int32} {p2 : Int32} {σf : St} (h : x_X1_leave p1 p2 σ = some σf) (cx : CallFix p m c cc nL s a TBL own) (hV : AtW E (wC E σ ++ X) A s H locs) {idx : Nat} (w1 : Cond.methodLink own idx yX1_leave ∈ TBL) (hR : (rm_X1_leave).frames + 1 ≤ R.frames ∧ 8 + (3 + 11) + (rm_X1_leave).locals ≤ R.locals) (hcs : cells ≤ R.cells ∧ slots ≤ R.slots) (hls : ls.size = nL) (hcat : (rest.map fun v => v.category).sum ≤ 8) (d : decode cc pc = .ok (.invokevirtual idx, 3)) (kk : ∀ (H1 : Heap) (locs1 : List Loc), AtW E (wC E σf ++ X) A s H1 locs1 → W p l e R s m a below meth c H1 locs1 cells slots Q (F0 m (pc + 3) ls (rest))) : W p l e R s m a below meth c H locs cells slots Q (F0 m pc ls (.int p2 :: .int p1 :: .ref (eA E 73) :: rest)) :=
  r_callv (n := 2) (As := [.int p1, .int p2]) (q0 := 73) (ci := 1) (qq := (RX1, TX1, 16)) (c_X1_leave h) wC_fst rfl rfl mk_3_0 mk_P_4 mk_1_6 mk_3_1 (by decide +kernel) rfl ⟨rfl, rfl⟩ cx hV w1 hR hcs hls rfl hcat d kk
def x_X1_whoStandsAt_L2 (p1 : Int32) (σ : St) (u1 : Int32) : Option ((Bool × Int32) ⊕ Int32) :=
  (if (gI σ 2) ≤ u1 then
  some (.inl (false, u1))
  else
  bd (x_X2_at 40 u1 σ) fun v2 =>
  (if v2 = p1 then
  some (.inr u1)
  else
  some (.inl (true, (u1 + 1)))))
def x_X1_whoStandsAt (p1 : Int32) (σ : St) : Option Int32 :=
  bs (lpr (fun v : Int32 => x_X1_whoStandsAt_L2 p1 σ v) FU 0) (fun z3 =>
  some (-1)) some
abbrev rm_X1_whoStandsAt : Room := { frames := 1, cells := 0, slots := 0, locals := 21 }
set_option maxHeartbeats 4000000 in
set_option maxRecDepth 100000 in
theorem c_X1_whoStandsAt {l : Launch} {E : EV} {X : va_W} {σ : St} {p1 : Int32} {rv : Int32} (h : x_X1_whoStandsAt p1 σ = some rv) : CM l yX1_whoStandsAt cX1_whoStandsAt 3 (some .int) rm_X1_whoStandsAt [.ref (eA E 73), .int p1] E (wC E σ ++ X) (wC E σ ++ X) (qI rv) := by
  refine CM.start (by decide) (Nat.le_of_ble_eq_true rfl) (fun p e s m a below meth c A ls cx hr hlk hV hl => ?_)
  have cx : CallFix p m c cX1_whoStandsAt 3 s a TBL RX1 := cx
  have hx := cx.1
  have hb := cx.2.1
  have hl : lv_has ls 3 [(0, .ref (eA E 73)), (1, .int p1)] := hl
  generalize hQ : EQ E (wC E σ ++ X) (qI rv) A s a below = QQ
  obtain ⟨H, hH⟩ : ∃ H, H = s.heap := ⟨_, rfl⟩
  obtain ⟨locs, hlocs⟩ : ∃ z, z = ([] : List Loc) := ⟨_, rfl⟩
  have hV : AtW E (wC E σ ++ X) A s H locs := by rw [hH, hlocs]; exact hV
  have goal : W p l e rm_X1_whoStandsAt s m a below meth c H locs 0 0 QQ (F0 m 0 ls []) := by
    unfold x_X1_whoStandsAt at h
    refine lv_iconst (v := 0) hx hb dX1_whoStandsAt_0 (by decide) ?_
    refine lv_istore_n (lv' := [(2, .int 0), (0, .ref (eA E 73)), (1, .int p1)]) hx hb dX1_whoStandsAt_1 rfl hl (by decide) rfl (fun ls hl => ?_)
    obtain ⟨o1, ho⟩ := bs_get h
    rw [ho] at h
    refine (lpr_rule (G := (fun v : Int32 => ∀ (H : Heap) (locs : List Loc) (ls : Array Slot), AtW E (wC E σ ++ X) A s H locs → lv_has ls 3 [(0, .ref (eA E 73)), (1, .int p1), (2, .int v)] → W p l e rm_X1_whoStandsAt s m a below meth c H locs 0 0 QQ (F0 m 2 ls []))) (K := (fun v : Int32 => ∀ (H : Heap) (locs : List Loc) (ls : Array Slot), AtW E (wC E σ ++ X) A s H locs → lv_has ls 3 [] → W p l e rm_X1_whoStandsAt s m a below meth c H locs 0 0 QQ (F0 m 33 ls []))) (KR := (fun r => some r = some rv)) (fun v e1 h hT1 hF1 hR1 => ?_) ho (fun v hv => ?_) (fun r hv => ?_)) _ _ _ hV (lv_sub hl [1, 2, 0] rfl)
    · obtain ⟨u1, rfl⟩ : ∃ z, z = v := ⟨_, rfl⟩
      have h : x_X1_whoStandsAt_L2 p1 σ u1 = some e1 := h
      intro H locs ls hV hl
      have hV : AtW E (wC E σ ++ X) A s H locs := hV
      have hl : lv_has ls 3 [(0, .ref (eA E 73)), (1, .int p1), (2, .int u1)] := hl
      unfold x_X1_whoStandsAt_L2 at h
      refine lv_iload_n hx hb dX1_whoStandsAt_2 rfl (lv_at hl 2 rfl) ?_
      refine lv_aload_n hx hb dX1_whoStandsAt_3 rfl (lv_at hl 0 rfl) ?_
      refine G_X1_told cx hV mk_1_202 dX1_whoStandsAt_4 ?_
      refine G_X7_lookers cx hV (by decide) mk_1_63 dX1_whoStandsAt_7 ?_
      refine lv_icmp_ge (tgt := 33) hx hb dX1_whoStandsAt_10 (by decide) (fun hc => ?_) (fun hc => ?_)
      · have h := ifp hc h
        cases h
        exact hF1 _ rfl _ _ _ hV (lv_sub hl [] rfl)
      · have h := ifn hc h
        refine lv_aload_n hx hb dX1_whoStandsAt_13 rfl (lv_at hl 0 rfl) ?_
        refine G_X1_stands cx hV mk_1_204 dX1_whoStandsAt_14 ?_
        refine lv_iload_n hx hb dX1_whoStandsAt_17 rfl (lv_at hl 2 rfl) ?_
        refine bd_e h (fun v2 hq h => ?_)
        refine k_X2_at (by decide) hq cx hV mk_2_226 ⟨Nat.le_of_ble_eq_true rfl, Nat.le_of_ble_eq_true rfl⟩ ⟨Nat.zero_le _, Nat.zero_le _⟩ hl.1 (Nat.le_of_ble_eq_true rfl) dX1_whoStandsAt_18 (fun H locs hV => ?_)
        refine lv_iload_n hx hb dX1_whoStandsAt_21 rfl (lv_at hl 1 rfl) ?_
        refine lv_icmp_ne (tgt := 27) hx hb dX1_whoStandsAt_22 (by decide) (fun hc => ?_) (fun hc => ?_)
        · have h := ifn hc h
          refine lv_iinc (v := (u1 + 1)) (lv' := [(2, .int (u1 + 1)), (0, .ref (eA E 73)), (1, .int p1)]) hx hb dX1_whoStandsAt_27 hl (k := 2) rfl rfl (by decide) rfl (fun ls hl => ?_)
          refine lv_goto (tgt := 2) hx hb dX1_whoStandsAt_30 (by decide) ?_
          cases h
          exact hT1 _ rfl _ _ _ hV (lv_sub hl [1, 2, 0] rfl)
        · have h := ifp hc h
          refine lv_iload_n hx hb dX1_whoStandsAt_25 rfl (lv_at hl 2 rfl) ?_
          cases h
          have h := hR1 _ rfl
          cases h
          subst hQ
          exact r_ireti cx hr hlk hV dX1_whoStandsAt_26
    · subst hv
      obtain ⟨z3, rfl⟩ : ∃ z, z = v := ⟨_, rfl⟩
      intro H locs ls hV hl
      have hV : AtW E (wC E σ ++ X) A s H locs := hV
      have hl : lv_has ls 3 [] := hl
      have h := bs_inl h
      refine lv_iconst (v := (-1)) hx hb dX1_whoStandsAt_33 (by decide) ?_
      have h1 := Option.some.inj h
      subst h1
      subst hQ
      exact r_ireti cx hr hlk hV dX1_whoStandsAt_34
    · subst hv
      exact bs_inr h
  rw [hH, hlocs] at goal
  exact goal
theorem k_X1_whoStandsAt {p : Program} {l : Launch} {e : Env} {R : Room} {s : State} {m : MethodId} {a : Array Value} {below : List Frame} {meth : Method} {c : Code} {H : Heap} {locs : List Loc} {cells slots : Nat} {Q : State → Prop} {cc : ByteArray} {own : String} {nL pc : Nat} {ls : Array Slot} {rest : List Value} {A : Nat → Prop} {E : EV} {X : va_W} {σ : St} {p1 : Int32} {rv : Int32} (h : x_X1_whoStandsAt p1 σ = some rv) (cx : CallFix p m c cc nL s a TBL own) (hV : AtW E (wC E σ ++ X) A s H locs) {idx : Nat} (w1 : Cond.methodLink own idx yX1_whoStandsAt ∈ TBL) (hR : (rm_X1_whoStandsAt).frames + 1 ≤ R.frames ∧ 8 + (3 + 11) + (rm_X1_whoStandsAt).locals ≤ R.locals) (hcs : cells ≤ R.cells ∧ slots ≤ R.slots) (hls : ls.size = nL) (hcat : (rest.map fun v => v.category).sum ≤ 8) (d : decode cc pc = .ok (.invokevirtual idx, 3)) (kk : ∀ (H1 : Heap) (locs1 : List Loc), AtW E (wC E σ ++ X) A s H1 locs1 → W p l e R s m a below meth c H1 locs1 cells slots Q (F0 m (pc + 3) ls (.int rv :: rest))) : W p l e R s m a below meth c H locs cells slots Q (F0 m pc ls (.int p1 :: .ref (eA E 73) :: rest)) :=
  r_calli (n := 1) (As := [.int p1]) (q0 := 73) (ci := 1) (qq := (RX1, TX1, 16)) (c_X1_whoStandsAt h) rfl rfl rfl mk_3_4 mk_P_5 mk_1_6 mk_3_5 (by decide +kernel) rfl ⟨rfl, rfl⟩ cx hV w1 hR hcs hls rfl hcat d kk
def x_X1_draw (p1 : Int32) (σ : St) : Option (Int32 × St) :=
  bd (some (sI σ 21 (((gI σ 21) * 1103515245) + 12345))) fun σ1 =>
  (if p1 ≤ 0 then
  some (0, σ1)
  else
  bd (rmI ((usI (gI σ1 21) 16) &&& 32767) p1) fun v2 =>
  some (v2, σ1))
abbrev rm_X1_draw : Room := { frames := 0, cells := 0, slots := 0, locals := 0 }
set_option maxHeartbeats 4000000 in
set_option maxRecDepth 100000 in
theorem c_X1_draw {l : Launch} {E : EV} {X : va_W} {σ : St} {p1 : Int32} {rv : Int32} {σf : St} (h : x_X1_draw p1 σ = some (rv, σf)) : CM l yX1_draw cX1_draw 3 (some .int) rm_X1_draw [.ref (eA E 73), .int p1] E (wC E σ ++ X) (wC E σf ++ X) (qI rv) := by
  refine CM.start (by decide) (Nat.le_of_ble_eq_true rfl) (fun p e s m a below meth c A ls cx hr hlk hV hl => ?_)
  have cx : CallFix p m c cX1_draw 3 s a TBL RX1 := cx
  have hx := cx.1
  have hb := cx.2.1
  have hl : lv_has ls 3 [(0, .ref (eA E 73)), (1, .int p1)] := hl
  generalize hQ : EQ E (wC E σf ++ X) (qI rv) A s a below = QQ
  obtain ⟨H, hH⟩ : ∃ H, H = s.heap := ⟨_, rfl⟩
  obtain ⟨locs, hlocs⟩ : ∃ z, z = ([] : List Loc) := ⟨_, rfl⟩
  have hV : AtW E (wC E σ ++ X) A s H locs := by rw [hH, hlocs]; exact hV
  have goal : W p l e rm_X1_draw s m a below meth c H locs 0 0 QQ (F0 m 0 ls []) := by
    unfold x_X1_draw at h
    refine lv_aload_n hx hb dX1_draw_0 rfl (lv_at hl 0 rfl) ?_
    refine lv_aload_n hx hb dX1_draw_1 rfl (lv_at hl 0 rfl) ?_
    refine G_X1_seed cx hV mk_1_209 dX1_draw_2 ?_
    refine lv_ldc (v := 1103515245) hx hb cx.2.2.2.1 (cx.2.2.2.2 _ mk_3_30) dX1_draw_5 ?_
    refine lv_imul hx hb dX1_draw_7 ?_
    refine lv_sipush (v := 12345) hx hb dX1_draw_8 (by decide) ?_
    refine lv_iadd hx hb dX1_draw_11 ?_
    refine bd_e h (fun σ1 hq h => ?_)
    refine P_X1_seed cx hV hq mk_1_209 dX1_draw_12 (fun H locs hV => ?_)
    refine lv_aload_n hx hb dX1_draw_15 rfl (lv_at hl 0 rfl) ?_
    refine G_X1_seed cx hV mk_1_209 dX1_draw_16 ?_
    refine lv_bipush (v := 16) hx hb dX1_draw_19 (by decide) ?_
    refine lv_iushr (v := (usI (gI σ1 21) 16)) hx hb dX1_draw_21 rfl ?_
    refine lv_sipush (v := 32767) hx hb dX1_draw_22 (by decide) ?_
    refine lv_iand hx hb dX1_draw_25 ?_
    refine lv_istore_n (lv' := [(2, .int ((usI (gI σ1 21) 16) &&& 32767)), (0, .ref (eA E 73)), (1, .int p1)]) hx hb dX1_draw_26 rfl hl (by decide) rfl (fun ls hl => ?_)
    refine lv_iload_n hx hb dX1_draw_27 rfl (lv_at hl 2 rfl) ?_
    refine lv_if_le (tgt := 37) hx hb dX1_draw_28 (by decide) (fun hc => ?_) (fun hc => ?_)
    · have h := ifp hc h
      refine lv_iconst (v := 0) hx hb dX1_draw_37 (by decide) ?_
      obtain ⟨h1, h2⟩ := Prod.mk.inj (Option.some.inj h)
      subst h1
      subst h2
      subst hQ
      exact r_ireti cx hr hlk hV dX1_draw_38
    · have h := ifn hc h
      refine lv_iload_n hx hb dX1_draw_31 rfl (lv_at hl 0 rfl) ?_
      refine lv_iload_n hx hb dX1_draw_32 rfl (lv_at hl 2 rfl) ?_
      refine bd_e h (fun v2 hq h => ?_)
      obtain ⟨hne, hq⟩ := rmI_e hq
      refine lv_irem hx hb dX1_draw_33 hne ?_
      rw [hq]
      refine lv_goto (tgt := 38) hx hb dX1_draw_34 (by decide) ?_
      obtain ⟨h1, h2⟩ := Prod.mk.inj (Option.some.inj h)
      subst h1
      subst h2
      subst hQ
      exact r_ireti cx hr hlk hV dX1_draw_38
  rw [hH, hlocs] at goal
  exact goal
theorem k_X1_draw {p : Program} {l : Launch} {e : Env} {R : Room} {s : State} {m : MethodId} {a : Array Value} {below : List Frame} {meth : Method} {c : Code} {H : Heap} {locs : List Loc} {cells slots : Nat} {Q : State → Prop} {cc : ByteArray} {own : String} {nL pc : Nat} {ls : Array Slot} {rest : List Value} {A : Nat → Prop} {E : EV} {X : va_W} {σ : St} {p1 : Int32} {rv : Int32} {σf : St} (h : x_X1_draw p1 σ = some (rv, σf)) (cx : CallFix p m c cc nL s a TBL own) (hV : AtW E (wC E σ ++ X) A s H locs) {idx : Nat} (w1 : Cond.methodLink own idx yX1_draw ∈ TBL) (hR : (rm_X1_draw).frames + 1 ≤ R.frames ∧ 8 + (3 + 11) + (rm_X1_draw).locals ≤ R.locals) (hcs : cells ≤ R.cells ∧ slots ≤ R.slots) (hls : ls.size = nL) (hcat : (rest.map fun v => v.category).sum ≤ 8) (d : decode cc pc = .ok (.invokevirtual idx, 3)) (kk : ∀ (H1 : Heap) (locs1 : List Loc), AtW E (wC E σf ++ X) A s H1 locs1 → W p l e R s m a below meth c H1 locs1 cells slots Q (F0 m (pc + 3) ls (.int rv :: rest))) : W p l e R s m a below meth c H locs cells slots Q (F0 m pc ls (.int p1 :: .ref (eA E 73) :: rest)) :=
  r_calli (n := 1) (As := [.int p1]) (q0 := 73) (ci := 1) (qq := (RX1, TX1, 16)) (c_X1_draw h) wC_fst rfl rfl mk_3_28 mk_P_9 mk_1_6 mk_3_29 (by decide +kernel) rfl ⟨rfl, rfl⟩ cx hV w1 hR hcs hls rfl hcat d kk
def x_X1_holdsUp_b33 (w1 : Int32) (w2 : Int32) (w3 : Int32) (σ4 : St) : Option (Int32 × St) :=
  (if w3 = 0 then
  some (0, σ4)
  else
  bd (x_X7_ofSleeve 0 w2 2 σ4) fun v5 =>
  bd (x_X7_ofLooker 0 w1 2 σ4) fun v6 =>
  (if v5 < v6 then
  some (0, σ4)
  else
  some (1, σ4)))
def x_X1_holdsUp (p1 : Int32) (p2 : Int32) (σ : St) : Option (Int32 × St) :=
  bd2 (x_X1_draw 8 σ) fun v7 σ8 =>
  bd (x_X7_ofLooker 0 p1 1 σ8) fun v9 =>
  bd (x_X2_at 6 v9 σ8) fun v10 =>
  (if v7 < v10 then
  x_X1_holdsUp_b33 p1 p2 0 σ8
  else
  x_X1_holdsUp_b33 p1 p2 1 σ8)
abbrev rm_X1_holdsUp : Room := { frames := 2, cells := 0, slots := 0, locals := 43 }
set_option maxHeartbeats 4000000 in
set_option maxRecDepth 100000 in
theorem c_X1_holdsUp {l : Launch} {E : EV} {X : va_W} {σ : St} {p1 : Int32} {p2 : Int32} {rv : Int32} {σf : St} (h : x_X1_holdsUp p1 p2 σ = some (rv, σf)) : CM l yX1_holdsUp cX1_holdsUp 4 (some .boolean) rm_X1_holdsUp [.ref (eA E 73), .int p1, .int p2] E (wC E σ ++ X) (wC E σf ++ X) (qI rv) := by
  refine CM.start (by decide) (Nat.le_of_ble_eq_true rfl) (fun p e s m a below meth c A ls cx hr hlk hV hl => ?_)
  have cx : CallFix p m c cX1_holdsUp 4 s a TBL RX1 := cx
  have hx := cx.1
  have hb := cx.2.1
  have hl : lv_has ls 4 [(0, .ref (eA E 73)), (1, .int p1), (2, .int p2)] := hl
  generalize hQ : EQ E (wC E σf ++ X) (qI rv) A s a below = QQ
  obtain ⟨H, hH⟩ : ∃ H, H = s.heap := ⟨_, rfl⟩
  obtain ⟨locs, hlocs⟩ : ∃ z, z = ([] : List Loc) := ⟨_, rfl⟩
  have hV : AtW E (wC E σ ++ X) A s H locs := by rw [hH, hlocs]; exact hV
  have goal : W p l e rm_X1_holdsUp s m a below meth c H locs 0 0 QQ (F0 m 0 ls []) := by
    unfold x_X1_holdsUp at h
    have hj33 : ∀ (w1 : Int32) (w2 : Int32) (w3 : Int32) (σ4 : St) (H : Heap) (locs : List Loc) (ls : Array Slot), x_X1_holdsUp_b33 w1 w2 w3 σ4 = some (rv, σf) → AtW E (wC E σ4 ++ X) A s H locs → lv_has ls 4 [(0, .ref (eA E 73)), (1, .int w1), (2, .int w2)] → W p l e rm_X1_holdsUp s m a below meth c H locs 0 0 QQ (F0 m 33 ls [.int w3]) := by
      intro w1 w2 w3 σ4 H locs ls h hV hl
      unfold x_X1_holdsUp_b33 at h
      refine lv_istore_n (lv' := [(3, .int w3), (0, .ref (eA E 73)), (1, .int w1), (2, .int w2)]) hx hb dX1_holdsUp_33 rfl hl (by decide) rfl (fun ls hl => ?_)
      refine lv_iload_n hx hb dX1_holdsUp_34 rfl (lv_at hl 0 rfl) ?_
      refine lv_if_eq (tgt := 63) hx hb dX1_holdsUp_35 (by decide) (fun hc => ?_) (fun hc => ?_)
      · have h := ifp hc h
        refine lv_iconst (v := 0) hx hb dX1_holdsUp_63 (by decide) ?_
        obtain ⟨h1, h2⟩ := Prod.mk.inj (Option.some.inj h)
        subst h1
        subst h2
        subst hQ
        exact r_zreti cx hr hlk hV (Or.inl rfl) dX1_holdsUp_64
      · have h := ifn hc h
        refine lv_aload_n hx hb dX1_holdsUp_38 rfl (lv_at hl 1 rfl) ?_
        refine G_X1_told cx hV mk_1_202 dX1_holdsUp_39 ?_
        refine lv_iload_n hx hb dX1_holdsUp_42 rfl (lv_at hl 3 rfl) ?_
        refine lv_iconst (v := 2) hx hb dX1_holdsUp_43 (by decide) ?_
        refine bd_e h (fun v5 hq h => ?_)
        refine k_X7_ofSleeve (by decide) hq cx hV mk_3_31 ⟨Nat.le_of_ble_eq_true rfl, Nat.le_of_ble_eq_true rfl⟩ ⟨Nat.zero_le _, Nat.zero_le _⟩ hl.1 (Nat.le_of_ble_eq_true rfl) dX1_holdsUp_44 (fun H locs hV => ?_)
        refine lv_aload_n hx hb dX1_holdsUp_47 rfl (lv_at hl 1 rfl) ?_
        refine G_X1_told cx hV mk_1_202 dX1_holdsUp_48 ?_
        refine lv_iload_n hx hb dX1_holdsUp_51 rfl (lv_at hl 2 rfl) ?_
        refine lv_iconst (v := 2) hx hb dX1_holdsUp_52 (by decide) ?_
        refine bd_e h (fun v6 hq h => ?_)
        refine k_X7_ofLooker (by decide) hq cx hV mk_2_220 ⟨Nat.le_of_ble_eq_true rfl, Nat.le_of_ble_eq_true rfl⟩ ⟨Nat.zero_le _, Nat.zero_le _⟩ hl.1 (Nat.le_of_ble_eq_true rfl) dX1_holdsUp_53 (fun H locs hV => ?_)
        refine lv_icmp_lt (tgt := 63) hx hb dX1_holdsUp_56 (by decide) (fun hc => ?_) (fun hc => ?_)
        · have h := ifp hc h
          refine lv_iconst (v := 0) hx hb dX1_holdsUp_63 (by decide) ?_
          obtain ⟨h1, h2⟩ := Prod.mk.inj (Option.some.inj h)
          subst h1
          subst h2
          subst hQ
          exact r_zreti cx hr hlk hV (Or.inl rfl) dX1_holdsUp_64
        · have h := ifn hc h
          refine lv_iconst (v := 1) hx hb dX1_holdsUp_59 (by decide) ?_
          refine lv_goto (tgt := 64) hx hb dX1_holdsUp_60 (by decide) ?_
          obtain ⟨h1, h2⟩ := Prod.mk.inj (Option.some.inj h)
          subst h1
          subst h2
          subst hQ
          exact r_zreti cx hr hlk hV (Or.inr rfl) dX1_holdsUp_64
    refine lv_aload_n hx hb dX1_holdsUp_0 rfl (lv_at hl 0 rfl) ?_
    refine lv_bipush (v := 8) hx hb dX1_holdsUp_1 (by decide) ?_
    refine bd2_e h (fun v7 σ8 hq h => ?_)
    refine k_X1_draw hq cx hV mk_3_26 ⟨Nat.le_of_ble_eq_true rfl, Nat.le_of_ble_eq_true rfl⟩ ⟨Nat.zero_le _, Nat.zero_le _⟩ hl.1 (Nat.le_of_ble_eq_true rfl) dX1_holdsUp_3 (fun H locs hV => ?_)
    refine lv_aload_n hx hb dX1_holdsUp_6 rfl (lv_at hl 0 rfl) ?_
    refine G_X1_told cx hV mk_1_202 dX1_holdsUp_7 ?_
    refine G_X7_misses cx hV (by decide) mk_1_84 dX1_holdsUp_10 ?_
    refine lv_aload_n hx hb dX1_holdsUp_13 rfl (lv_at hl 0 rfl) ?_
    refine G_X1_told cx hV mk_1_202 dX1_holdsUp_14 ?_
    refine lv_iload_n hx hb dX1_holdsUp_17 rfl (lv_at hl 1 rfl) ?_
    refine lv_iconst (v := 1) hx hb dX1_holdsUp_18 (by decide) ?_
    refine bd_e h (fun v9 hq h => ?_)
    refine k_X7_ofLooker (by decide) hq cx hV mk_2_220 ⟨Nat.le_of_ble_eq_true rfl, Nat.le_of_ble_eq_true rfl⟩ ⟨Nat.zero_le _, Nat.zero_le _⟩ hl.1 (Nat.le_of_ble_eq_true rfl) dX1_holdsUp_19 (fun H locs hV => ?_)
    refine bd_e h (fun v10 hq h => ?_)
    refine k_X2_at (by decide) hq cx hV mk_2_226 ⟨Nat.le_of_ble_eq_true rfl, Nat.le_of_ble_eq_true rfl⟩ ⟨Nat.zero_le _, Nat.zero_le _⟩ hl.1 (Nat.le_of_ble_eq_true rfl) dX1_holdsUp_22 (fun H locs hV => ?_)
    refine lv_icmp_lt (tgt := 32) hx hb dX1_holdsUp_25 (by decide) (fun hc => ?_) (fun hc => ?_)
    · have h := ifp hc h
      refine lv_iconst (v := 0) hx hb dX1_holdsUp_32 (by decide) ?_
      exact hj33 p1 p2 0 σ8 _ _ _ h hV (lv_sub hl [0, 1, 2] rfl)
    · have h := ifn hc h
      refine lv_iconst (v := 1) hx hb dX1_holdsUp_28 (by decide) ?_
      refine lv_goto (tgt := 33) hx hb dX1_holdsUp_29 (by decide) ?_
      exact hj33 p1 p2 1 σ8 _ _ _ h hV (lv_sub hl [0, 1, 2] rfl)
  rw [hH, hlocs] at goal
  exact goal
theorem k_X1_holdsUp {p : Program} {l : Launch} {e : Env} {R : Room} {s : State} {m : MethodId} {a : Array Value} {below : List Frame} {meth : Method} {c : Code} {H : Heap} {locs : List Loc} {cells slots : Nat} {Q : State → Prop} {cc : ByteArray} {own : String} {nL pc : Nat} {ls : Array Slot} {rest : List Value} {A : Nat → Prop} {E : EV} {X : va_W} {σ : St} {p1 : Int32} {p2 : Int32} {rv : Int32} {σf : St} (h : x_X1_holdsUp p1 p2 σ = some (rv, σf)) (cx : CallFix p m c cc nL s a TBL own) (hV : AtW E (wC E σ ++ X) A s H locs) {idx : Nat} (w1 : Cond.methodLink own idx yX1_holdsUp ∈ TBL) (hR : (rm_X1_holdsUp).frames + 1 ≤ R.frames ∧ 8 + (4 + 11) + (rm_X1_holdsUp).locals ≤ R.locals) (hcs : cells ≤ R.cells ∧ slots ≤ R.slots) (hls : ls.size = nL) (hcat : (rest.map fun v => v.category).sum ≤ 8) (d : decode cc pc = .ok (.invokevirtual idx, 3)) (kk : ∀ (H1 : Heap) (locs1 : List Loc), AtW E (wC E σf ++ X) A s H1 locs1 → W p l e R s m a below meth c H1 locs1 cells slots Q (F0 m (pc + 3) ls (.int rv :: rest))) : W p l e R s m a below meth c H locs cells slots Q (F0 m pc ls (.int p2 :: .int p1 :: .ref (eA E 73) :: rest)) :=
  r_calli (n := 2) (As := [.int p1, .int p2]) (q0 := 73) (ci := 1) (qq := (RX1, TX1, 16)) (c_X1_holdsUp h) wC_fst rfl rfl mk_3_24 mk_P_8 mk_1_6 mk_3_25 (by decide +kernel) rfl ⟨rfl, rfl⟩ cx hV w1 hR hcs hls rfl hcat d kk
def x_X1_buysIt (p1 : Int32) (p2 : Int32) (σ : St) : Option (Int32 × St) :=
  bd (x_X7_ofSleeve 0 p2 1 σ) fun v1 =>
  bd (x_X7_ofLooker 0 p1 4 σ) fun v2 =>
  bd (x_X2_at 37 p1 σ) fun v3 =>
  bd (x_X7_ofLooker 0 p1 3 σ) fun v4 =>
  (if v4 < v1 then
  some (0, σ)
  else
  (if v1 ≤ (v2 - v3) then
  bd (x_X5_sell 4 p2 σ) fun σ5 =>
  bd (x_X2_add 36 p1 1 σ5) fun σ6 =>
  bd (x_X2_add 37 p1 v1 σ6) fun σ7 =>
  some (1, σ7)
  else
  some (0, σ)))
abbrev rm_X1_buysIt : Room := { frames := 2, cells := 0, slots := 0, locals := 44 }
set_option maxHeartbeats 4000000 in
set_option maxRecDepth 100000 in
theorem c_X1_buysIt {l : Launch} {E : EV} {X : va_W} {σ : St} {p1 : Int32} {p2 : Int32} {rv : Int32} {σf : St} (h : x_X1_buysIt p1 p2 σ = some (rv, σf)) : CM l yX1_buysIt cX1_buysIt 5 (some .boolean) rm_X1_buysIt [.ref (eA E 73), .int p1, .int p2] E (wC E σ ++ X) (wC E σf ++ X) (qI rv) := by
  refine CM.start (by decide) (Nat.le_of_ble_eq_true rfl) (fun p e s m a below meth c A ls cx hr hlk hV hl => ?_)
  have cx : CallFix p m c cX1_buysIt 5 s a TBL RX1 := cx
  have hx := cx.1
  have hb := cx.2.1
  have hl : lv_has ls 5 [(0, .ref (eA E 73)), (1, .int p1), (2, .int p2)] := hl
  generalize hQ : EQ E (wC E σf ++ X) (qI rv) A s a below = QQ
  obtain ⟨H, hH⟩ : ∃ H, H = s.heap := ⟨_, rfl⟩
  obtain ⟨locs, hlocs⟩ : ∃ z, z = ([] : List Loc) := ⟨_, rfl⟩
  have hV : AtW E (wC E σ ++ X) A s H locs := by rw [hH, hlocs]; exact hV
  have goal : W p l e rm_X1_buysIt s m a below meth c H locs 0 0 QQ (F0 m 0 ls []) := by
    unfold x_X1_buysIt at h
    refine lv_aload_n hx hb dX1_buysIt_0 rfl (lv_at hl 0 rfl) ?_
    refine G_X1_told cx hV mk_1_202 dX1_buysIt_1 ?_
    refine lv_iload_n hx hb dX1_buysIt_4 rfl (lv_at hl 2 rfl) ?_
    refine lv_iconst (v := 1) hx hb dX1_buysIt_5 (by decide) ?_
    refine bd_e h (fun v1 hq h => ?_)
    refine k_X7_ofSleeve (by decide) hq cx hV mk_3_31 ⟨Nat.le_of_ble_eq_true rfl, Nat.le_of_ble_eq_true rfl⟩ ⟨Nat.zero_le _, Nat.zero_le _⟩ hl.1 (Nat.le_of_ble_eq_true rfl) dX1_buysIt_6 (fun H locs hV => ?_)
    refine lv_istore_n (lv' := [(3, .int v1), (0, .ref (eA E 73)), (1, .int p1), (2, .int p2)]) hx hb dX1_buysIt_9 rfl hl (by decide) rfl (fun ls hl => ?_)
    refine lv_aload_n hx hb dX1_buysIt_10 rfl (lv_at hl 1 rfl) ?_
    refine G_X1_told cx hV mk_1_202 dX1_buysIt_11 ?_
    refine lv_iload_n hx hb dX1_buysIt_14 rfl (lv_at hl 2 rfl) ?_
    refine lv_iconst (v := 4) hx hb dX1_buysIt_15 (by decide) ?_
    refine bd_e h (fun v2 hq h => ?_)
    refine k_X7_ofLooker (by decide) hq cx hV mk_2_220 ⟨Nat.le_of_ble_eq_true rfl, Nat.le_of_ble_eq_true rfl⟩ ⟨Nat.zero_le _, Nat.zero_le _⟩ hl.1 (Nat.le_of_ble_eq_true rfl) dX1_buysIt_16 (fun H locs hV => ?_)
    refine lv_aload_n hx hb dX1_buysIt_19 rfl (lv_at hl 1 rfl) ?_
    refine G_X1_spent cx hV mk_1_194 dX1_buysIt_20 ?_
    refine lv_iload_n hx hb dX1_buysIt_23 rfl (lv_at hl 2 rfl) ?_
    refine bd_e h (fun v3 hq h => ?_)
    refine k_X2_at (by decide) hq cx hV mk_2_226 ⟨Nat.le_of_ble_eq_true rfl, Nat.le_of_ble_eq_true rfl⟩ ⟨Nat.zero_le _, Nat.zero_le _⟩ hl.1 (Nat.le_of_ble_eq_true rfl) dX1_buysIt_24 (fun H locs hV => ?_)
    refine lv_isub hx hb dX1_buysIt_27 ?_
    refine lv_istore (lv' := [(4, .int (v2 - v3)), (3, .int v1), (0, .ref (eA E 73)), (1, .int p1), (2, .int p2)]) hx hb dX1_buysIt_28 hl (by decide) rfl (fun ls hl => ?_)
    refine lv_iload_n hx hb dX1_buysIt_30 rfl (lv_at hl 1 rfl) ?_
    refine lv_aload_n hx hb dX1_buysIt_31 rfl (lv_at hl 2 rfl) ?_
    refine G_X1_told cx hV mk_1_202 dX1_buysIt_32 ?_
    refine lv_iload_n hx hb dX1_buysIt_35 rfl (lv_at hl 3 rfl) ?_
    refine lv_iconst (v := 3) hx hb dX1_buysIt_36 (by decide) ?_
    refine bd_e h (fun v4 hq h => ?_)
    refine k_X7_ofLooker (by decide) hq cx hV mk_2_220 ⟨Nat.le_of_ble_eq_true rfl, Nat.le_of_ble_eq_true rfl⟩ ⟨Nat.zero_le _, Nat.zero_le _⟩ hl.1 (Nat.le_of_ble_eq_true rfl) dX1_buysIt_37 (fun H locs hV => ?_)
    refine lv_icmp_gt (tgt := 49) hx hb dX1_buysIt_40 (by decide) (fun hc => ?_) (fun hc => ?_)
    · have h := ifp hc h
      refine lv_iconst (v := 0) hx hb dX1_buysIt_49 (by decide) ?_
      obtain ⟨h1, h2⟩ := Prod.mk.inj (Option.some.inj h)
      subst h1
      subst h2
      subst hQ
      exact r_zreti cx hr hlk hV (Or.inl rfl) dX1_buysIt_50
    · have h := ifn hc h
      refine lv_iload_n hx hb dX1_buysIt_43 rfl (lv_at hl 1 rfl) ?_
      refine lv_iload hx hb dX1_buysIt_44 (lv_at hl 0 rfl) ?_
      refine lv_icmp_le (tgt := 51) hx hb dX1_buysIt_46 (by decide) (fun hc => ?_) (fun hc => ?_)
      · have h := ifp hc h
        refine lv_aload_n hx hb dX1_buysIt_51 rfl (lv_at hl 2 rfl) ?_
        refine G_X1_stock cx hV mk_1_190 dX1_buysIt_52 ?_
        refine lv_iload_n hx hb dX1_buysIt_55 rfl (lv_at hl 4 rfl) ?_
        refine bd_e h (fun σ5 hq h => ?_)
        refine k_X5_sell (by decide) hq cx hV mk_3_39 ⟨Nat.le_of_ble_eq_true rfl, Nat.le_of_ble_eq_true rfl⟩ ⟨Nat.zero_le _, Nat.zero_le _⟩ hl.1 (Nat.le_of_ble_eq_true rfl) dX1_buysIt_56 (fun H locs hV => ?_)
        refine lv_aload_n hx hb dX1_buysIt_59 rfl (lv_at hl 2 rfl) ?_
        refine G_X1_bought cx hV mk_1_192 dX1_buysIt_60 ?_
        refine lv_iload_n hx hb dX1_buysIt_63 rfl (lv_at hl 3 rfl) ?_
        refine lv_iconst (v := 1) hx hb dX1_buysIt_64 (by decide) ?_
        refine bd_e h (fun σ6 hq h => ?_)
        refine k_X2_add (by decide) hq cx hV mk_3_44 ⟨Nat.le_of_ble_eq_true rfl, Nat.le_of_ble_eq_true rfl⟩ ⟨Nat.zero_le _, Nat.zero_le _⟩ hl.1 (Nat.le_of_ble_eq_true rfl) dX1_buysIt_65 (fun H locs hV => ?_)
        refine lv_aload_n hx hb dX1_buysIt_68 rfl (lv_at hl 2 rfl) ?_
        refine G_X1_spent cx hV mk_1_194 dX1_buysIt_69 ?_
        refine lv_iload_n hx hb dX1_buysIt_72 rfl (lv_at hl 3 rfl) ?_
        refine lv_iload_n hx hb dX1_buysIt_73 rfl (lv_at hl 1 rfl) ?_
        refine bd_e h (fun σ7 hq h => ?_)
        refine k_X2_add (by decide) hq cx hV mk_3_44 ⟨Nat.le_of_ble_eq_true rfl, Nat.le_of_ble_eq_true rfl⟩ ⟨Nat.zero_le _, Nat.zero_le _⟩ hl.1 (Nat.le_of_ble_eq_true rfl) dX1_buysIt_74 (fun H locs hV => ?_)
        refine lv_iconst (v := 1) hx hb dX1_buysIt_77 (by decide) ?_
        obtain ⟨h1, h2⟩ := Prod.mk.inj (Option.some.inj h)
        subst h1
        subst h2
        subst hQ
        exact r_zreti cx hr hlk hV (Or.inr rfl) dX1_buysIt_78
      · have h := ifn hc h
        refine lv_iconst (v := 0) hx hb dX1_buysIt_49 (by decide) ?_
        obtain ⟨h1, h2⟩ := Prod.mk.inj (Option.some.inj h)
        subst h1
        subst h2
        subst hQ
        exact r_zreti cx hr hlk hV (Or.inl rfl) dX1_buysIt_50
  rw [hH, hlocs] at goal
  exact goal
theorem k_X1_buysIt {p : Program} {l : Launch} {e : Env} {R : Room} {s : State} {m : MethodId} {a : Array Value} {below : List Frame} {meth : Method} {c : Code} {H : Heap} {locs : List Loc} {cells slots : Nat} {Q : State → Prop} {cc : ByteArray} {own : String} {nL pc : Nat} {ls : Array Slot} {rest : List Value} {A : Nat → Prop} {E : EV} {X : va_W} {σ : St} {p1 : Int32} {p2 : Int32} {rv : Int32} {σf : St} (h : x_X1_buysIt p1 p2 σ = some (rv, σf)) (cx : CallFix p m c cc nL s a TBL own) (hV : AtW E (wC E σ ++ X) A s H locs) {idx : Nat} (w1 : Cond.methodLink own idx yX1_buysIt ∈ TBL) (hR : (rm_X1_buysIt).frames + 1 ≤ R.frames ∧ 8 + (5 + 11) + (rm_X1_buysIt).locals ≤ R.locals) (hcs : cells ≤ R.cells ∧ slots ≤ R.slots) (hls : ls.size = nL) (hcat : (rest.map fun v => v.category).sum ≤ 8) (d : decode cc pc = .ok (.invokevirtual idx, 3)) (kk : ∀ (H1 : Heap) (locs1 : List Loc), AtW E (wC E σf ++ X) A s H1 locs1 → W p l e R s m a below meth c H1 locs1 cells slots Q (F0 m (pc + 3) ls (.int rv :: rest))) : W p l e R s m a below meth c H locs cells slots Q (F0 m pc ls (.int p2 :: .int p1 :: .ref (eA E 73) :: rest)) :=
  r_calli (n := 2) (As := [.int p1, .int p2]) (q0 := 73) (ci := 1) (qq := (RX1, TX1, 16)) (c_X1_buysIt h) wC_fst rfl rfl mk_3_37 mk_P_10 mk_1_6 mk_3_38 (by decide +kernel) rfl ⟨rfl, rfl⟩ cx hV w1 hR hcs hls rfl hcat d kk
def x_X1_drawnCrate_b83 (w1 : Int32) (w2 : Int32) (σ3 : St) : Option (Int32 × St) :=
  bd (x_X7_hasCrate 0 w2 σ3) fun v4 =>
  (if v4 = 0 then
  some (w1, σ3)
  else
  some (w2, σ3))
def x_X1_drawnCrate (p1 : Int32) (p2 : Int32) (σ : St) : Option (Int32 × St) :=
  bd (x_X2_sum 7 σ) fun v5 =>
  bd2 (x_X1_draw v5 σ) fun v6 σ7 =>
  bd (x_X2_at 7 0 σ7) fun v8 =>
  (if v8 ≤ v6 then
  bd (x_X2_at 7 1 σ7) fun v9 =>
  (if (v8 + v9) ≤ v6 then
  bd (x_X2_at 7 2 σ7) fun v10 =>
  (if ((v8 + v9) + v10) ≤ v6 then
  bd2 (x_X1_draw (gI σ7 0) σ7) fun v11 σ12 =>
  some (v11, σ12)
  else
  some (p2, σ7))
  else
  bd2 (x_X1_draw 2 σ7) fun v13 σ14 =>
  (if v13 = 0 then
  x_X1_drawnCrate_b83 p2 (p2 - 1) σ14
  else
  x_X1_drawnCrate_b83 p2 (p2 + 1) σ14))
  else
  bd (x_X7_ofSleeve 0 p1 3 σ7) fun v15 =>
  some (v15, σ7))
abbrev rm_X1_drawnCrate : Room := { frames := 2, cells := 0, slots := 0, locals := 43 }
set_option maxHeartbeats 4000000 in
set_option maxRecDepth 100000 in
theorem c_X1_drawnCrate {l : Launch} {E : EV} {X : va_W} {σ : St} {p1 : Int32} {p2 : Int32} {rv : Int32} {σf : St} (h : x_X1_drawnCrate p1 p2 σ = some (rv, σf)) : CM l yX1_drawnCrate cX1_drawnCrate 6 (some .int) rm_X1_drawnCrate [.ref (eA E 73), .int p1, .int p2] E (wC E σ ++ X) (wC E σf ++ X) (qI rv) := by
  refine CM.start (by decide) (Nat.le_of_ble_eq_true rfl) (fun p e s m a below meth c A ls cx hr hlk hV hl => ?_)
  have cx : CallFix p m c cX1_drawnCrate 6 s a TBL RX1 := cx
  have hx := cx.1
  have hb := cx.2.1
  have hl : lv_has ls 6 [(0, .ref (eA E 73)), (1, .int p1), (2, .int p2)] := hl
  generalize hQ : EQ E (wC E σf ++ X) (qI rv) A s a below = QQ
  obtain ⟨H, hH⟩ : ∃ H, H = s.heap := ⟨_, rfl⟩
  obtain ⟨locs, hlocs⟩ : ∃ z, z = ([] : List Loc) := ⟨_, rfl⟩
  have hV : AtW E (wC E σ ++ X) A s H locs := by rw [hH, hlocs]; exact hV
  have goal : W p l e rm_X1_drawnCrate s m a below meth c H locs 0 0 QQ (F0 m 0 ls []) := by
    unfold x_X1_drawnCrate at h
    have hj83 : ∀ (w1 : Int32) (w2 : Int32) (σ3 : St) (H : Heap) (locs : List Loc) (ls : Array Slot), x_X1_drawnCrate_b83 w1 w2 σ3 = some (rv, σf) → AtW E (wC E σ3 ++ X) A s H locs → lv_has ls 6 [(0, .ref (eA E 73)), (2, .int w1)] → W p l e rm_X1_drawnCrate s m a below meth c H locs 0 0 QQ (F0 m 83 ls [.int w2]) := by
      intro w1 w2 σ3 H locs ls h hV hl
      unfold x_X1_drawnCrate_b83 at h
      refine lv_istore (lv' := [(5, .int w2), (0, .ref (eA E 73)), (2, .int w1)]) hx hb dX1_drawnCrate_83 hl (by decide) rfl (fun ls hl => ?_)
      refine lv_aload_n hx hb dX1_drawnCrate_85 rfl (lv_at hl 1 rfl) ?_
      refine G_X1_told cx hV mk_1_202 dX1_drawnCrate_86 ?_
      refine lv_iload hx hb dX1_drawnCrate_89 (lv_at hl 0 rfl) ?_
      refine bd_e h (fun v4 hq h => ?_)
      refine k_X7_hasCrate (by decide) hq cx hV mk_2_234 ⟨Nat.le_of_ble_eq_true rfl, Nat.le_of_ble_eq_true rfl⟩ ⟨Nat.zero_le _, Nat.zero_le _⟩ hl.1 (Nat.le_of_ble_eq_true rfl) dX1_drawnCrate_91 (fun H locs hV => ?_)
      refine lv_if_eq (tgt := 102) hx hb dX1_drawnCrate_94 (by decide) (fun hc => ?_) (fun hc => ?_)
      · have h := ifp hc h
        refine lv_iload_n hx hb dX1_drawnCrate_102 rfl (lv_at hl 2 rfl) ?_
        obtain ⟨h1, h2⟩ := Prod.mk.inj (Option.some.inj h)
        subst h1
        subst h2
        subst hQ
        exact r_ireti cx hr hlk hV dX1_drawnCrate_103
      · have h := ifn hc h
        refine lv_iload hx hb dX1_drawnCrate_97 (lv_at hl 0 rfl) ?_
        refine lv_goto (tgt := 103) hx hb dX1_drawnCrate_99 (by decide) ?_
        obtain ⟨h1, h2⟩ := Prod.mk.inj (Option.some.inj h)
        subst h1
        subst h2
        subst hQ
        exact r_ireti cx hr hlk hV dX1_drawnCrate_103
    refine lv_aload_n hx hb dX1_drawnCrate_0 rfl (lv_at hl 0 rfl) ?_
    refine lv_aload_n hx hb dX1_drawnCrate_1 rfl (lv_at hl 0 rfl) ?_
    refine G_X1_told cx hV mk_1_202 dX1_drawnCrate_2 ?_
    refine G_X7_weights cx hV (by decide) mk_1_89 dX1_drawnCrate_5 ?_
    refine bd_e h (fun v5 hq h => ?_)
    refine k_X2_sum (by decide) hq cx hV mk_3_53 ⟨Nat.le_of_ble_eq_true rfl, Nat.le_of_ble_eq_true rfl⟩ ⟨Nat.zero_le _, Nat.zero_le _⟩ hl.1 (Nat.le_of_ble_eq_true rfl) dX1_drawnCrate_8 (fun H locs hV => ?_)
    refine bd2_e h (fun v6 σ7 hq h => ?_)
    refine k_X1_draw hq cx hV mk_3_26 ⟨Nat.le_of_ble_eq_true rfl, Nat.le_of_ble_eq_true rfl⟩ ⟨Nat.zero_le _, Nat.zero_le _⟩ hl.1 (Nat.le_of_ble_eq_true rfl) dX1_drawnCrate_11 (fun H locs hV => ?_)
    refine lv_istore_n (lv' := [(3, .int v6), (0, .ref (eA E 73)), (1, .int p1), (2, .int p2)]) hx hb dX1_drawnCrate_14 rfl hl (by decide) rfl (fun ls hl => ?_)
    refine lv_aload_n hx hb dX1_drawnCrate_15 rfl (lv_at hl 1 rfl) ?_
    refine G_X1_told cx hV mk_1_202 dX1_drawnCrate_16 ?_
    refine G_X7_weights cx hV (by decide) mk_1_89 dX1_drawnCrate_19 ?_
    refine lv_iconst (v := 0) hx hb dX1_drawnCrate_22 (by decide) ?_
    refine bd_e h (fun v8 hq h => ?_)
    refine k_X2_at (by decide) hq cx hV mk_2_226 ⟨Nat.le_of_ble_eq_true rfl, Nat.le_of_ble_eq_true rfl⟩ ⟨Nat.zero_le _, Nat.zero_le _⟩ hl.1 (Nat.le_of_ble_eq_true rfl) dX1_drawnCrate_23 (fun H locs hV => ?_)
    refine lv_istore (lv' := [(4, .int v8), (3, .int v6), (0, .ref (eA E 73)), (1, .int p1), (2, .int p2)]) hx hb dX1_drawnCrate_26 hl (by decide) rfl (fun ls hl => ?_)
    refine lv_iload_n hx hb dX1_drawnCrate_28 rfl (lv_at hl 1 rfl) ?_
    refine lv_iload hx hb dX1_drawnCrate_29 (lv_at hl 0 rfl) ?_
    refine lv_icmp_ge (tgt := 44) hx hb dX1_drawnCrate_31 (by decide) (fun hc => ?_) (fun hc => ?_)
    · have h := ifp hc h
      refine lv_iload hx hb dX1_drawnCrate_44 (lv_at hl 0 rfl) ?_
      refine lv_aload_n hx hb dX1_drawnCrate_46 rfl (lv_at hl 2 rfl) ?_
      refine G_X1_told cx hV mk_1_202 dX1_drawnCrate_47 ?_
      refine G_X7_weights cx hV (by decide) mk_1_89 dX1_drawnCrate_50 ?_
      refine lv_iconst (v := 1) hx hb dX1_drawnCrate_53 (by decide) ?_
      refine bd_e h (fun v9 hq h => ?_)
      refine k_X2_at (by decide) hq cx hV mk_2_226 ⟨Nat.le_of_ble_eq_true rfl, Nat.le_of_ble_eq_true rfl⟩ ⟨Nat.zero_le _, Nat.zero_le _⟩ hl.1 (Nat.le_of_ble_eq_true rfl) dX1_drawnCrate_54 (fun H locs hV => ?_)
      refine lv_iadd hx hb dX1_drawnCrate_57 ?_
      refine lv_istore (lv' := [(4, .int (v8 + v9)), (3, .int v6), (0, .ref (eA E 73)), (1, .int p1), (2, .int p2)]) hx hb dX1_drawnCrate_58 hl (by decide) rfl (fun ls hl => ?_)
      refine lv_iload_n hx hb dX1_drawnCrate_60 rfl (lv_at hl 1 rfl) ?_
      refine lv_iload hx hb dX1_drawnCrate_61 (lv_at hl 0 rfl) ?_
      refine lv_icmp_ge (tgt := 104) hx hb dX1_drawnCrate_63 (by decide) (fun hc => ?_) (fun hc => ?_)
      · have h := ifp hc h
        refine lv_iload hx hb dX1_drawnCrate_104 (lv_at hl 0 rfl) ?_
        refine lv_aload_n hx hb dX1_drawnCrate_106 rfl (lv_at hl 2 rfl) ?_
        refine G_X1_told cx hV mk_1_202 dX1_drawnCrate_107 ?_
        refine G_X7_weights cx hV (by decide) mk_1_89 dX1_drawnCrate_110 ?_
        refine lv_iconst (v := 2) hx hb dX1_drawnCrate_113 (by decide) ?_
        refine bd_e h (fun v10 hq h => ?_)
        refine k_X2_at (by decide) hq cx hV mk_2_226 ⟨Nat.le_of_ble_eq_true rfl, Nat.le_of_ble_eq_true rfl⟩ ⟨Nat.zero_le _, Nat.zero_le _⟩ hl.1 (Nat.le_of_ble_eq_true rfl) dX1_drawnCrate_114 (fun H locs hV => ?_)
        refine lv_iadd hx hb dX1_drawnCrate_117 ?_
        refine lv_istore (lv' := [(4, .int ((v8 + v9) + v10)), (3, .int v6), (0, .ref (eA E 73)), (1, .int p1), (2, .int p2)]) hx hb dX1_drawnCrate_118 hl (by decide) rfl (fun ls hl => ?_)
        refine lv_iload_n hx hb dX1_drawnCrate_120 rfl (lv_at hl 1 rfl) ?_
        refine lv_iload hx hb dX1_drawnCrate_121 (lv_at hl 0 rfl) ?_
        refine lv_icmp_ge (tgt := 130) hx hb dX1_drawnCrate_123 (by decide) (fun hc => ?_) (fun hc => ?_)
        · have h := ifp hc h
          refine lv_aload_n hx hb dX1_drawnCrate_130 rfl (lv_at hl 2 rfl) ?_
          refine lv_aload_n hx hb dX1_drawnCrate_131 rfl (lv_at hl 2 rfl) ?_
          refine G_X1_told cx hV mk_1_202 dX1_drawnCrate_132 ?_
          refine G_X7_crates cx hV (by decide) mk_1_56 dX1_drawnCrate_135 ?_
          refine bd2_e h (fun v11 σ12 hq h => ?_)
          refine k_X1_draw hq cx hV mk_3_26 ⟨Nat.le_of_ble_eq_true rfl, Nat.le_of_ble_eq_true rfl⟩ ⟨Nat.zero_le _, Nat.zero_le _⟩ hl.1 (Nat.le_of_ble_eq_true rfl) dX1_drawnCrate_138 (fun H locs hV => ?_)
          obtain ⟨h1, h2⟩ := Prod.mk.inj (Option.some.inj h)
          subst h1
          subst h2
          subst hQ
          exact r_ireti cx hr hlk hV dX1_drawnCrate_141
        · have h := ifn hc h
          refine lv_iload_n hx hb dX1_drawnCrate_126 rfl (lv_at hl 4 rfl) ?_
          refine lv_goto (tgt := 141) hx hb dX1_drawnCrate_127 (by decide) ?_
          obtain ⟨h1, h2⟩ := Prod.mk.inj (Option.some.inj h)
          subst h1
          subst h2
          subst hQ
          exact r_ireti cx hr hlk hV dX1_drawnCrate_141
      · have h := ifn hc h
        refine lv_aload_n hx hb dX1_drawnCrate_66 rfl (lv_at hl 2 rfl) ?_
        refine lv_iconst (v := 2) hx hb dX1_drawnCrate_67 (by decide) ?_
        refine bd2_e h (fun v13 σ14 hq h => ?_)
        refine k_X1_draw hq cx hV mk_3_26 ⟨Nat.le_of_ble_eq_true rfl, Nat.le_of_ble_eq_true rfl⟩ ⟨Nat.zero_le _, Nat.zero_le _⟩ hl.1 (Nat.le_of_ble_eq_true rfl) dX1_drawnCrate_68 (fun H locs hV => ?_)
        refine lv_if_ne (tgt := 80) hx hb dX1_drawnCrate_71 (by decide) (fun hc => ?_) (fun hc => ?_)
        · have h := ifn hc h
          refine lv_iload_n hx hb dX1_drawnCrate_80 rfl (lv_at hl 4 rfl) ?_
          refine lv_iconst (v := 1) hx hb dX1_drawnCrate_81 (by decide) ?_
          refine lv_iadd hx hb dX1_drawnCrate_82 ?_
          exact hj83 p2 (p2 + 1) σ14 _ _ _ h hV (lv_sub hl [2, 4] rfl)
        · have h := ifp hc h
          refine lv_iload_n hx hb dX1_drawnCrate_74 rfl (lv_at hl 4 rfl) ?_
          refine lv_iconst (v := 1) hx hb dX1_drawnCrate_75 (by decide) ?_
          refine lv_isub hx hb dX1_drawnCrate_76 ?_
          refine lv_goto (tgt := 83) hx hb dX1_drawnCrate_77 (by decide) ?_
          exact hj83 p2 (p2 - 1) σ14 _ _ _ h hV (lv_sub hl [2, 4] rfl)
    · have h := ifn hc h
      refine lv_aload_n hx hb dX1_drawnCrate_34 rfl (lv_at hl 2 rfl) ?_
      refine G_X1_told cx hV mk_1_202 dX1_drawnCrate_35 ?_
      refine lv_iload_n hx hb dX1_drawnCrate_38 rfl (lv_at hl 3 rfl) ?_
      refine lv_iconst (v := 3) hx hb dX1_drawnCrate_39 (by decide) ?_
      refine bd_e h (fun v15 hq h => ?_)
      refine k_X7_ofSleeve (by decide) hq cx hV mk_3_31 ⟨Nat.le_of_ble_eq_true rfl, Nat.le_of_ble_eq_true rfl⟩ ⟨Nat.zero_le _, Nat.zero_le _⟩ hl.1 (Nat.le_of_ble_eq_true rfl) dX1_drawnCrate_40 (fun H locs hV => ?_)
      obtain ⟨h1, h2⟩ := Prod.mk.inj (Option.some.inj h)
      subst h1
      subst h2
      subst hQ
      exact r_ireti cx hr hlk hV dX1_drawnCrate_43
  rw [hH, hlocs] at goal
  exact goal
theorem k_X1_drawnCrate {p : Program} {l : Launch} {e : Env} {R : Room} {s : State} {m : MethodId} {a : Array Value} {below : List Frame} {meth : Method} {c : Code} {H : Heap} {locs : List Loc} {cells slots : Nat} {Q : State → Prop} {cc : ByteArray} {own : String} {nL pc : Nat} {ls : Array Slot} {rest : List Value} {A : Nat → Prop} {E : EV} {X : va_W} {σ : St} {p1 : Int32} {p2 : Int32} {rv : Int32} {σf : St} (h : x_X1_drawnCrate p1 p2 σ = some (rv, σf)) (cx : CallFix p m c cc nL s a TBL own) (hV : AtW E (wC E σ ++ X) A s H locs) {idx : Nat} (w1 : Cond.methodLink own idx yX1_drawnCrate ∈ TBL) (hR : (rm_X1_drawnCrate).frames + 1 ≤ R.frames ∧ 8 + (6 + 11) + (rm_X1_drawnCrate).locals ≤ R.locals) (hcs : cells ≤ R.cells ∧ slots ≤ R.slots) (hls : ls.size = nL) (hcat : (rest.map fun v => v.category).sum ≤ 8) (d : decode cc pc = .ok (.invokevirtual idx, 3)) (kk : ∀ (H1 : Heap) (locs1 : List Loc), AtW E (wC E σf ++ X) A s H1 locs1 → W p l e R s m a below meth c H1 locs1 cells slots Q (F0 m (pc + 3) ls (.int rv :: rest))) : W p l e R s m a below meth c H locs cells slots Q (F0 m pc ls (.int p2 :: .int p1 :: .ref (eA E 73) :: rest)) :=
  r_calli (n := 2) (As := [.int p1, .int p2]) (q0 := 73) (ci := 1) (qq := (RX1, TX1, 16)) (c_X1_drawnCrate h) wC_fst rfl rfl mk_3_51 mk_P_11 mk_1_6 mk_3_52 (by decide +kernel) rfl ⟨rfl, rfl⟩ cx hV w1 hR hcs hls rfl hcat d kk
def x_X1_goThrough_L8 (p1 : Int32) (p2 : Int32) (u1 : Int32) (u2 : Int32) (u3 : Int32) (σ4 : St) : Option (Bool × (Int32 × Int32 × Int32 × St)) :=
  (if 24 ≤ u3 then
  some (false, (u1, u2, u3, σ4))
  else
  bd (x_X2_at 32 u3 σ4) fun v5 =>
  bd (x_X2_at 31 v5 σ4) fun v6 =>
  (if v6 = p2 then
  bd2 (x_X1_holdsUp p1 v5 σ4) fun v7 σ8 =>
  (if v7 = 0 then
  some (true, (u1, u2, (u3 + 1), σ8))
  else
  bd2 (x_X1_buysIt p1 v5 σ8) fun v9 σ10 =>
  (if v9 = 0 then
  bd (x_X2_put 42 u2 v5 σ10) fun σ11 =>
  some (true, ((u1 + 1), (u2 + 1), (u3 + 1), σ11))
  else
  some (true, ((u1 + 1), u2, (u3 + 1), σ10))))
  else
  some (true, (u1, u2, (u3 + 1), σ4))))
def x_X1_goThrough_L91 (p2 : Int32) (z12 : Int32) (z13 : Int32) (u16 : Int32) (σ17 : St) : Option (Bool × (Int32 × St)) :=
  (if z13 ≤ u16 then
  some (false, (u16, σ17))
  else
  bd (x_X2_at 42 u16 σ17) fun v18 =>
  bd2 (x_X1_drawnCrate v18 p2 σ17) fun v19 σ20 =>
  bd (x_X5_putBehind 4 v18 v19 σ20) fun σ21 =>
  some (true, ((u16 + 1), σ21)))
def x_X1_goThrough (p1 : Int32) (p2 : Int32) (σ : St) : Option (Int32 × St) :=
  bd4 (lp (fun v : (Int32 × Int32 × Int32 × St) => x_X1_goThrough_L8 p1 p2 v.1 v.2.1 v.2.2.1 v.2.2.2) FU (0, 0, 0, σ)) fun z12 z13 z14 σ15 =>
  bd2 (lp (fun v : (Int32 × St) => x_X1_goThrough_L91 p2 z12 z13 v.1 v.2) FU (0, σ15)) fun z22 σ23 =>
  bd (some (sI σ23 18 ((gI σ23 18) + z12))) fun σ24 =>
  some (z12, σ24)
abbrev rm_X1_goThrough : Room := { frames := 3, cells := 0, slots := 0, locals := 68 }
set_option maxHeartbeats 4000000 in
set_option maxRecDepth 100000 in
theorem c_X1_goThrough {l : Launch} {E : EV} {X : va_W} {σ : St} {p1 : Int32} {p2 : Int32} {rv : Int32} {σf : St} (h : x_X1_goThrough p1 p2 σ = some (rv, σf)) : CM l yX1_goThrough cX1_goThrough 7 (some .int) rm_X1_goThrough [.ref (eA E 73), .int p1, .int p2] E (wC E σ ++ X) (wC E σf ++ X) (qI rv) := by
  refine CM.start (by decide) (Nat.le_of_ble_eq_true rfl) (fun p e s m a below meth c A ls cx hr hlk hV hl => ?_)
  have cx : CallFix p m c cX1_goThrough 7 s a TBL RX1 := cx
  have hx := cx.1
  have hb := cx.2.1
  have hl : lv_has ls 7 [(0, .ref (eA E 73)), (1, .int p1), (2, .int p2)] := hl
  generalize hQ : EQ E (wC E σf ++ X) (qI rv) A s a below = QQ
  obtain ⟨H, hH⟩ : ∃ H, H = s.heap := ⟨_, rfl⟩
  obtain ⟨locs, hlocs⟩ : ∃ z, z = ([] : List Loc) := ⟨_, rfl⟩
  have hV : AtW E (wC E σ ++ X) A s H locs := by rw [hH, hlocs]; exact hV
  have goal : W p l e rm_X1_goThrough s m a below meth c H locs 0 0 QQ (F0 m 0 ls []) := by
    unfold x_X1_goThrough at h
    refine lv_iconst (v := 0) hx hb dX1_goThrough_0 (by decide) ?_
    refine lv_istore_n (lv' := [(3, .int 0), (0, .ref (eA E 73)), (1, .int p1), (2, .int p2)]) hx hb dX1_goThrough_1 rfl hl (by decide) rfl (fun ls hl => ?_)
    refine lv_iconst (v := 0) hx hb dX1_goThrough_2 (by decide) ?_
    refine lv_istore (lv' := [(4, .int 0), (3, .int 0), (0, .ref (eA E 73)), (1, .int p1), (2, .int p2)]) hx hb dX1_goThrough_3 hl (by decide) rfl (fun ls hl => ?_)
    refine lv_iconst (v := 0) hx hb dX1_goThrough_5 (by decide) ?_
    refine lv_istore (lv' := [(5, .int 0), (4, .int 0), (3, .int 0), (0, .ref (eA E 73)), (1, .int p1), (2, .int p2)]) hx hb dX1_goThrough_6 hl (by decide) rfl (fun ls hl => ?_)
    refine bd4_e h (fun z12 z13 z14 σ15 ho h => ?_)
    refine (lp_rule (G := (fun v : (Int32 × Int32 × Int32 × St) => ∀ (H : Heap) (locs : List Loc) (ls : Array Slot), AtW E (wC E v.2.2.2 ++ X) A s H locs → lv_has ls 7 [(0, .ref (eA E 73)), (1, .int p1), (2, .int p2), (3, .int v.1), (4, .int v.2.1), (5, .int v.2.2.1)] → W p l e rm_X1_goThrough s m a below meth c H locs 0 0 QQ (F0 m 8 ls []))) (K := (fun v : (Int32 × Int32 × Int32 × St) => ∀ (H : Heap) (locs : List Loc) (ls : Array Slot), AtW E (wC E v.2.2.2 ++ X) A s H locs → lv_has ls 7 [(0, .ref (eA E 73)), (2, .int p2), (3, .int v.1), (4, .int v.2.1)] → W p l e rm_X1_goThrough s m a below meth c H locs 0 0 QQ (F0 m 88 ls []))) (fun v b1 y1 h hT1 hF1 => ?_) ho (fun H locs ls hV hl => ?_)) _ _ _ hV (lv_sub hl [3, 4, 5, 2, 1, 0] rfl)
    · obtain ⟨u1, u2, u3, σ4⟩ := v
      have h : x_X1_goThrough_L8 p1 p2 u1 u2 u3 σ4 = some (b1, y1) := h
      intro H locs ls hV hl
      have hV : AtW E (wC E σ4 ++ X) A s H locs := hV
      have hl : lv_has ls 7 [(0, .ref (eA E 73)), (1, .int p1), (2, .int p2), (3, .int u1), (4, .int u2), (5, .int u3)] := hl
      unfold x_X1_goThrough_L8 at h
      refine lv_iload hx hb dX1_goThrough_8 (lv_at hl 5 rfl) ?_
      refine lv_bipush (v := 24) hx hb dX1_goThrough_10 (by decide) ?_
      refine lv_icmp_ge (tgt := 88) hx hb dX1_goThrough_12 (by decide) (fun hc => ?_) (fun hc => ?_)
      · have h := ifp hc h
        cases h
        exact hF1 rfl _ _ _ hV (lv_sub hl [0, 2, 3, 4] rfl)
      · have h := ifn hc h
        refine lv_aload_n hx hb dX1_goThrough_15 rfl (lv_at hl 0 rfl) ?_
        refine G_X1_stock cx hV mk_1_190 dX1_goThrough_16 ?_
        refine G_X5_line cx hV (by decide) mk_1_126 dX1_goThrough_19 ?_
        refine lv_iload hx hb dX1_goThrough_22 (lv_at hl 5 rfl) ?_
        refine bd_e h (fun v5 hq h => ?_)
        refine k_X2_at (by decide) hq cx hV mk_2_226 ⟨Nat.le_of_ble_eq_true rfl, Nat.le_of_ble_eq_true rfl⟩ ⟨Nat.zero_le _, Nat.zero_le _⟩ hl.1 (Nat.le_of_ble_eq_true rfl) dX1_goThrough_24 (fun H locs hV => ?_)
        refine lv_istore (lv' := [(6, .int v5), (0, .ref (eA E 73)), (1, .int p1), (2, .int p2), (3, .int u1), (4, .int u2), (5, .int u3)]) hx hb dX1_goThrough_27 hl (by decide) rfl (fun ls hl => ?_)
        refine lv_aload_n hx hb dX1_goThrough_29 rfl (lv_at hl 1 rfl) ?_
        refine G_X1_stock cx hV mk_1_190 dX1_goThrough_30 ?_
        refine G_X5_where cx hV (by decide) mk_1_124 dX1_goThrough_33 ?_
        refine lv_iload hx hb dX1_goThrough_36 (lv_at hl 0 rfl) ?_
        refine bd_e h (fun v6 hq h => ?_)
        refine k_X2_at (by decide) hq cx hV mk_2_226 ⟨Nat.le_of_ble_eq_true rfl, Nat.le_of_ble_eq_true rfl⟩ ⟨Nat.zero_le _, Nat.zero_le _⟩ hl.1 (Nat.le_of_ble_eq_true rfl) dX1_goThrough_38 (fun H locs hV => ?_)
        refine lv_iload_n hx hb dX1_goThrough_41 rfl (lv_at hl 3 rfl) ?_
        refine lv_icmp_ne (tgt := 82) hx hb dX1_goThrough_42 (by decide) (fun hc => ?_) (fun hc => ?_)
        · have h := ifn hc h
          refine lv_iinc (v := (u3 + 1)) (lv' := [(5, .int (u3 + 1)), (6, .int v5), (0, .ref (eA E 73)), (1, .int p1), (2, .int p2), (3, .int u1), (4, .int u2)]) hx hb dX1_goThrough_82 hl (k := 6) rfl rfl (by decide) rfl (fun ls hl => ?_)
          refine lv_goto (tgt := 8) hx hb dX1_goThrough_85 (by decide) ?_
          cases h
          exact hT1 rfl _ _ _ hV (lv_sub hl [2, 3, 4, 5, 6, 0] rfl)
        · have h := ifp hc h
          refine lv_aload_n hx hb dX1_goThrough_45 rfl (lv_at hl 1 rfl) ?_
          refine lv_iload_n hx hb dX1_goThrough_46 rfl (lv_at hl 2 rfl) ?_
          refine lv_iload hx hb dX1_goThrough_47 (lv_at hl 0 rfl) ?_
          refine bd2_e h (fun v7 σ8 hq h => ?_)
          refine k_X1_holdsUp hq cx hV mk_3_22 ⟨Nat.le_of_ble_eq_true rfl, Nat.le_of_ble_eq_true rfl⟩ ⟨Nat.zero_le _, Nat.zero_le _⟩ hl.1 (Nat.le_of_ble_eq_true rfl) dX1_goThrough_49 (fun H locs hV => ?_)
          refine lv_if_eq (tgt := 82) hx hb dX1_goThrough_52 (by decide) (fun hc => ?_) (fun hc => ?_)
          · have h := ifp hc h
            refine lv_iinc (v := (u3 + 1)) (lv' := [(5, .int (u3 + 1)), (6, .int v5), (0, .ref (eA E 73)), (1, .int p1), (2, .int p2), (3, .int u1), (4, .int u2)]) hx hb dX1_goThrough_82 hl (k := 6) rfl rfl (by decide) rfl (fun ls hl => ?_)
            refine lv_goto (tgt := 8) hx hb dX1_goThrough_85 (by decide) ?_
            cases h
            exact hT1 rfl _ _ _ hV (lv_sub hl [2, 3, 4, 5, 6, 0] rfl)
          · have h := ifn hc h
            refine lv_iinc (v := (u1 + 1)) (lv' := [(3, .int (u1 + 1)), (6, .int v5), (0, .ref (eA E 73)), (1, .int p1), (2, .int p2), (4, .int u2), (5, .int u3)]) hx hb dX1_goThrough_55 hl (k := 4) rfl rfl (by decide) rfl (fun ls hl => ?_)
            refine lv_aload_n hx hb dX1_goThrough_58 rfl (lv_at hl 2 rfl) ?_
            refine lv_iload_n hx hb dX1_goThrough_59 rfl (lv_at hl 3 rfl) ?_
            refine lv_iload hx hb dX1_goThrough_60 (lv_at hl 1 rfl) ?_
            refine bd2_e h (fun v9 σ10 hq h => ?_)
            refine k_X1_buysIt hq cx hV mk_3_35 ⟨Nat.le_of_ble_eq_true rfl, Nat.le_of_ble_eq_true rfl⟩ ⟨Nat.zero_le _, Nat.zero_le _⟩ hl.1 (Nat.le_of_ble_eq_true rfl) dX1_goThrough_62 (fun H locs hV => ?_)
            refine lv_if_ne (tgt := 82) hx hb dX1_goThrough_65 (by decide) (fun hc => ?_) (fun hc => ?_)
            · have h := ifn hc h
              refine lv_iinc (v := (u3 + 1)) (lv' := [(5, .int (u3 + 1)), (3, .int (u1 + 1)), (6, .int v5), (0, .ref (eA E 73)), (1, .int p1), (2, .int p2), (4, .int u2)]) hx hb dX1_goThrough_82 hl (k := 6) rfl rfl (by decide) rfl (fun ls hl => ?_)
              refine lv_goto (tgt := 8) hx hb dX1_goThrough_85 (by decide) ?_
              cases h
              exact hT1 rfl _ _ _ hV (lv_sub hl [3, 4, 5, 1, 6, 0] rfl)
            · have h := ifp hc h
              refine lv_aload_n hx hb dX1_goThrough_68 rfl (lv_at hl 2 rfl) ?_
              refine G_X1_held cx hV mk_1_206 dX1_goThrough_69 ?_
              refine lv_iload hx hb dX1_goThrough_72 (lv_at hl 5 rfl) ?_
              refine lv_iload hx hb dX1_goThrough_74 (lv_at hl 1 rfl) ?_
              refine bd_e h (fun σ11 hq h => ?_)
              refine k_X2_put (by decide) hq cx hV mk_2_221 ⟨Nat.le_of_ble_eq_true rfl, Nat.le_of_ble_eq_true rfl⟩ ⟨Nat.zero_le _, Nat.zero_le _⟩ hl.1 (Nat.le_of_ble_eq_true rfl) dX1_goThrough_76 (fun H locs hV => ?_)
              refine lv_iinc (v := (u2 + 1)) (lv' := [(4, .int (u2 + 1)), (3, .int (u1 + 1)), (6, .int v5), (0, .ref (eA E 73)), (1, .int p1), (2, .int p2), (5, .int u3)]) hx hb dX1_goThrough_79 hl (k := 5) rfl rfl (by decide) rfl (fun ls hl => ?_)
              refine lv_iinc (v := (u3 + 1)) (lv' := [(5, .int (u3 + 1)), (4, .int (u2 + 1)), (3, .int (u1 + 1)), (6, .int v5), (0, .ref (eA E 73)), (1, .int p1), (2, .int p2)]) hx hb dX1_goThrough_82 hl (k := 6) rfl rfl (by decide) rfl (fun ls hl => ?_)
              refine lv_goto (tgt := 8) hx hb dX1_goThrough_85 (by decide) ?_
              cases h
              exact hT1 rfl _ _ _ hV (lv_sub hl [4, 5, 6, 2, 1, 0] rfl)
    · have hV : AtW E (wC E σ15 ++ X) A s H locs := hV
      have hl : lv_has ls 7 [(0, .ref (eA E 73)), (2, .int p2), (3, .int z12), (4, .int z13)] := hl
      refine lv_iconst (v := 0) hx hb dX1_goThrough_88 (by decide) ?_
      refine lv_istore (lv' := [(5, .int 0), (0, .ref (eA E 73)), (2, .int p2), (3, .int z12), (4, .int z13)]) hx hb dX1_goThrough_89 hl (by decide) rfl (fun ls hl => ?_)
      refine bd2_e h (fun z22 σ23 ho h => ?_)
      refine (lp_rule (G := (fun v : (Int32 × St) => ∀ (H : Heap) (locs : List Loc) (ls : Array Slot), AtW E (wC E v.2 ++ X) A s H locs → lv_has ls 7 [(0, .ref (eA E 73)), (2, .int p2), (3, .int z12), (4, .int z13), (5, .int v.1)] → W p l e rm_X1_goThrough s m a below meth c H locs 0 0 QQ (F0 m 91 ls []))) (K := (fun v : (Int32 × St) => ∀ (H : Heap) (locs : List Loc) (ls : Array Slot), AtW E (wC E v.2 ++ X) A s H locs → lv_has ls 7 [(0, .ref (eA E 73)), (3, .int z12)] → W p l e rm_X1_goThrough s m a below meth c H locs 0 0 QQ (F0 m 131 ls []))) (fun v b1 y1 h hT1 hF1 => ?_) ho (fun H locs ls hV hl => ?_)) _ _ _ hV (lv_sub hl [1, 2, 3, 4, 0] rfl)
      · obtain ⟨u16, σ17⟩ := v
        have h : x_X1_goThrough_L91 p2 z12 z13 u16 σ17 = some (b1, y1) := h
        intro H locs ls hV hl
        have hV : AtW E (wC E σ17 ++ X) A s H locs := hV
        have hl : lv_has ls 7 [(0, .ref (eA E 73)), (2, .int p2), (3, .int z12), (4, .int z13), (5, .int u16)] := hl
        unfold x_X1_goThrough_L91 at h
        refine lv_iload hx hb dX1_goThrough_91 (lv_at hl 4 rfl) ?_
        refine lv_iload hx hb dX1_goThrough_93 (lv_at hl 3 rfl) ?_
        refine lv_icmp_ge (tgt := 131) hx hb dX1_goThrough_95 (by decide) (fun hc => ?_) (fun hc => ?_)
        · have h := ifp hc h
          cases h
          exact hF1 rfl _ _ _ hV (lv_sub hl [0, 2] rfl)
        · have h := ifn hc h
          refine lv_aload_n hx hb dX1_goThrough_98 rfl (lv_at hl 0 rfl) ?_
          refine G_X1_held cx hV mk_1_206 dX1_goThrough_99 ?_
          refine lv_iload hx hb dX1_goThrough_102 (lv_at hl 4 rfl) ?_
          refine bd_e h (fun v18 hq h => ?_)
          refine k_X2_at (by decide) hq cx hV mk_2_226 ⟨Nat.le_of_ble_eq_true rfl, Nat.le_of_ble_eq_true rfl⟩ ⟨Nat.zero_le _, Nat.zero_le _⟩ hl.1 (Nat.le_of_ble_eq_true rfl) dX1_goThrough_104 (fun H locs hV => ?_)
          refine lv_istore (lv' := [(6, .int v18), (0, .ref (eA E 73)), (2, .int p2), (3, .int z12), (4, .int z13), (5, .int u16)]) hx hb dX1_goThrough_107 hl (by decide) rfl (fun ls hl => ?_)
          refine lv_aload_n hx hb dX1_goThrough_109 rfl (lv_at hl 1 rfl) ?_
          refine G_X1_stock cx hV mk_1_190 dX1_goThrough_110 ?_
          refine lv_iload hx hb dX1_goThrough_113 (lv_at hl 0 rfl) ?_
          refine lv_aload_n hx hb dX1_goThrough_115 rfl (lv_at hl 1 rfl) ?_
          refine lv_iload hx hb dX1_goThrough_116 (lv_at hl 0 rfl) ?_
          refine lv_iload_n hx hb dX1_goThrough_118 rfl (lv_at hl 2 rfl) ?_
          refine bd2_e h (fun v19 σ20 hq h => ?_)
          refine k_X1_drawnCrate hq cx hV mk_3_49 ⟨Nat.le_of_ble_eq_true rfl, Nat.le_of_ble_eq_true rfl⟩ ⟨Nat.zero_le _, Nat.zero_le _⟩ hl.1 (Nat.le_of_ble_eq_true rfl) dX1_goThrough_119 (fun H locs hV => ?_)
          refine bd_e h (fun σ21 hq h => ?_)
          refine k_X5_putBehind (by decide) hq cx hV mk_3_57 ⟨Nat.le_of_ble_eq_true rfl, Nat.le_of_ble_eq_true rfl⟩ ⟨Nat.zero_le _, Nat.zero_le _⟩ hl.1 (Nat.le_of_ble_eq_true rfl) dX1_goThrough_122 (fun H locs hV => ?_)
          refine lv_iinc (v := (u16 + 1)) (lv' := [(5, .int (u16 + 1)), (6, .int v18), (0, .ref (eA E 73)), (2, .int p2), (3, .int z12), (4, .int z13)]) hx hb dX1_goThrough_125 hl (k := 5) rfl rfl (by decide) rfl (fun ls hl => ?_)
          refine lv_goto (tgt := 91) hx hb dX1_goThrough_128 (by decide) ?_
          cases h
          exact hT1 rfl _ _ _ hV (lv_sub hl [2, 3, 4, 5, 0] rfl)
      · have hV : AtW E (wC E σ23 ++ X) A s H locs := hV
        have hl : lv_has ls 7 [(0, .ref (eA E 73)), (3, .int z12)] := hl
        refine lv_aload_n hx hb dX1_goThrough_131 rfl (lv_at hl 0 rfl) ?_
        refine lv_dup hx hb dX1_goThrough_132 rfl ?_
        refine G_X1_heldUp cx hV mk_1_200 dX1_goThrough_133 ?_
        refine lv_iload_n hx hb dX1_goThrough_136 rfl (lv_at hl 1 rfl) ?_
        refine lv_iadd hx hb dX1_goThrough_137 ?_
        refine bd_e h (fun σ24 hq h => ?_)
        refine P_X1_heldUp cx hV hq mk_1_200 dX1_goThrough_138 (fun H locs hV => ?_)
        refine lv_iload_n hx hb dX1_goThrough_141 rfl (lv_at hl 1 rfl) ?_
        obtain ⟨h1, h2⟩ := Prod.mk.inj (Option.some.inj h)
        subst h1
        subst h2
        subst hQ
        exact r_ireti cx hr hlk hV dX1_goThrough_142
  rw [hH, hlocs] at goal
  exact goal
theorem k_X1_goThrough {p : Program} {l : Launch} {e : Env} {R : Room} {s : State} {m : MethodId} {a : Array Value} {below : List Frame} {meth : Method} {c : Code} {H : Heap} {locs : List Loc} {cells slots : Nat} {Q : State → Prop} {cc : ByteArray} {own : String} {nL pc : Nat} {ls : Array Slot} {rest : List Value} {A : Nat → Prop} {E : EV} {X : va_W} {σ : St} {p1 : Int32} {p2 : Int32} {rv : Int32} {σf : St} (h : x_X1_goThrough p1 p2 σ = some (rv, σf)) (cx : CallFix p m c cc nL s a TBL own) (hV : AtW E (wC E σ ++ X) A s H locs) {idx : Nat} (w1 : Cond.methodLink own idx yX1_goThrough ∈ TBL) (hR : (rm_X1_goThrough).frames + 1 ≤ R.frames ∧ 8 + (7 + 11) + (rm_X1_goThrough).locals ≤ R.locals) (hcs : cells ≤ R.cells ∧ slots ≤ R.slots) (hls : ls.size = nL) (hcat : (rest.map fun v => v.category).sum ≤ 8) (d : decode cc pc = .ok (.invokevirtual idx, 3)) (kk : ∀ (H1 : Heap) (locs1 : List Loc), AtW E (wC E σf ++ X) A s H1 locs1 → W p l e R s m a below meth c H1 locs1 cells slots Q (F0 m (pc + 3) ls (.int rv :: rest))) : W p l e R s m a below meth c H locs cells slots Q (F0 m pc ls (.int p2 :: .int p1 :: .ref (eA E 73) :: rest)) :=
  r_calli (n := 2) (As := [.int p1, .int p2]) (q0 := 73) (ci := 1) (qq := (RX1, TX1, 16)) (c_X1_goThrough h) wC_fst rfl rfl mk_3_20 mk_P_7 mk_1_6 mk_3_21 (by decide +kernel) rfl ⟨rfl, rfl⟩ cx hV w1 hR hcs hls rfl hcat d kk
def x_X1_come_b62 (w1 : Int32) (w2 : Int32) (w3 : Int32) (σ4 : St) : Option St :=
  bd (x_X2_put 41 w1 (w2 + w3) σ4) fun σ5 =>
  some σ5
def x_X1_come (p1 : Int32) (p2 : Int32) (p3 : Int32) (σ : St) : Option St :=
  bd (x_X2_put 40 p1 p2 σ) fun σ6 =>
  bd (some (sI σ6 23 1)) fun σ7 =>
  bd (x_X5_size 4 p2 σ7) fun v8 =>
  bd (x_X7_ofLooker 0 p1 1 σ7) fun v9 =>
  bd (x_X9_roundedUp v8 v9) fun v10 =>
  (if (gI σ7 22) = 0 then
  bd2 (x_X1_goThrough p1 p2 σ7) fun v11 σ12 =>
  x_X1_come_b62 p1 p3 (v10 + ((gI σ7 3) * v11)) σ12
  else
  x_X1_come_b62 p1 p3 v10 σ7)
abbrev rm_X1_come : Room := { frames := 4, cells := 0, slots := 0, locals := 94 }
set_option maxHeartbeats 4000000 in
set_option maxRecDepth 100000 in
theorem c_X1_come {l : Launch} {E : EV} {X : va_W} {σ : St} {p1 : Int32} {p2 : Int32} {p3 : Int32} {σf : St} (h : x_X1_come p1 p2 p3 σ = some σf) : CM l yX1_come cX1_come 5 none rm_X1_come [.ref (eA E 73), .int p1, .int p2, .int p3] E (wC E σ ++ X) (wC E σf ++ X) qV := by
  refine CM.start (by decide) (Nat.le_of_ble_eq_true rfl) (fun p e s m a below meth c A ls cx hr hlk hV hl => ?_)
  have cx : CallFix p m c cX1_come 5 s a TBL RX1 := cx
  have hx := cx.1
  have hb := cx.2.1
  have hl : lv_has ls 5 [(0, .ref (eA E 73)), (1, .int p1), (2, .int p2), (3, .int p3)] := hl
  generalize hQ : EQ E (wC E σf ++ X) qV A s a below = QQ
  obtain ⟨H, hH⟩ : ∃ H, H = s.heap := ⟨_, rfl⟩
  obtain ⟨locs, hlocs⟩ : ∃ z, z = ([] : List Loc) := ⟨_, rfl⟩
  have hV : AtW E (wC E σ ++ X) A s H locs := by rw [hH, hlocs]; exact hV
  have goal : W p l e rm_X1_come s m a below meth c H locs 0 0 QQ (F0 m 0 ls []) := by
    unfold x_X1_come at h
    have hj62 : ∀ (w1 : Int32) (w2 : Int32) (w3 : Int32) (σ4 : St) (H : Heap) (locs : List Loc) (ls : Array Slot), x_X1_come_b62 w1 w2 w3 σ4 = some σf → AtW E (wC E σ4 ++ X) A s H locs → lv_has ls 5 [(0, .ref (eA E 73)), (1, .int w1), (3, .int w2), (4, .int w3)] → W p l e rm_X1_come s m a below meth c H locs 0 0 QQ (F0 m 62 ls []) := by
      intro w1 w2 w3 σ4 H locs ls h hV hl
      unfold x_X1_come_b62 at h
      refine lv_aload_n hx hb dX1_come_62 rfl (lv_at hl 0 rfl) ?_
      refine G_X1_done cx hV mk_1_205 dX1_come_63 ?_
      refine lv_iload_n hx hb dX1_come_66 rfl (lv_at hl 1 rfl) ?_
      refine lv_iload_n hx hb dX1_come_67 rfl (lv_at hl 2 rfl) ?_
      refine lv_iload hx hb dX1_come_68 (lv_at hl 3 rfl) ?_
      refine lv_iadd hx hb dX1_come_70 ?_
      refine bd_e h (fun σ5 hq h => ?_)
      refine k_X2_put (by decide) hq cx hV mk_2_221 ⟨Nat.le_of_ble_eq_true rfl, Nat.le_of_ble_eq_true rfl⟩ ⟨Nat.zero_le _, Nat.zero_le _⟩ hl.1 (Nat.le_of_ble_eq_true rfl) dX1_come_71 (fun H locs hV => ?_)
      have h1 := Option.some.inj h
      subst h1
      subst hQ
      exact r_vret cx hr hlk hV dX1_come_74
    refine lv_aload_n hx hb dX1_come_0 rfl (lv_at hl 0 rfl) ?_
    refine G_X1_stands cx hV mk_1_204 dX1_come_1 ?_
    refine lv_iload_n hx hb dX1_come_4 rfl (lv_at hl 1 rfl) ?_
    refine lv_iload_n hx hb dX1_come_5 rfl (lv_at hl 2 rfl) ?_
    refine bd_e h (fun σ6 hq h => ?_)
    refine k_X2_put (by decide) hq cx hV mk_2_221 ⟨Nat.le_of_ble_eq_true rfl, Nat.le_of_ble_eq_true rfl⟩ ⟨Nat.zero_le _, Nat.zero_le _⟩ hl.1 (Nat.le_of_ble_eq_true rfl) dX1_come_6 (fun H locs hV => ?_)
    refine lv_aload_n hx hb dX1_come_9 rfl (lv_at hl 0 rfl) ?_
    refine lv_iconst (v := 1) hx hb dX1_come_10 (by decide) ?_
    refine bd_e h (fun σ7 hq h => ?_)
    refine P_X1_moved cx hV (Or.inr rfl) hq mk_1_211 dX1_come_11 (fun H locs hV => ?_)
    refine lv_aload_n hx hb dX1_come_14 rfl (lv_at hl 0 rfl) ?_
    refine G_X1_stock cx hV mk_1_190 dX1_come_15 ?_
    refine lv_iload_n hx hb dX1_come_18 rfl (lv_at hl 2 rfl) ?_
    refine bd_e h (fun v8 hq h => ?_)
    refine k_X5_size (by decide) hq cx hV mk_3_10 ⟨Nat.le_of_ble_eq_true rfl, Nat.le_of_ble_eq_true rfl⟩ ⟨Nat.zero_le _, Nat.zero_le _⟩ hl.1 (Nat.le_of_ble_eq_true rfl) dX1_come_19 (fun H locs hV => ?_)
    refine lv_aload_n hx hb dX1_come_22 rfl (lv_at hl 0 rfl) ?_
    refine G_X1_told cx hV mk_1_202 dX1_come_23 ?_
    refine lv_iload_n hx hb dX1_come_26 rfl (lv_at hl 1 rfl) ?_
    refine lv_iconst (v := 1) hx hb dX1_come_27 (by decide) ?_
    refine bd_e h (fun v9 hq h => ?_)
    refine k_X7_ofLooker (by decide) hq cx hV mk_2_220 ⟨Nat.le_of_ble_eq_true rfl, Nat.le_of_ble_eq_true rfl⟩ ⟨Nat.zero_le _, Nat.zero_le _⟩ hl.1 (Nat.le_of_ble_eq_true rfl) dX1_come_28 (fun H locs hV => ?_)
    refine bd_e h (fun v10 hq h => ?_)
    refine k_X9_roundedUpN (host := RX9) hq cx hV (List.mem_of_getElem? (i := 6) rfl) ⟨Nat.le_of_ble_eq_true rfl, Nat.le_of_ble_eq_true rfl⟩ ⟨Nat.zero_le _, Nat.zero_le _⟩ hl.1 (Nat.le_of_ble_eq_true rfl) dX1_come_31 (fun H locs hV => ?_)
    refine lv_istore (lv' := [(4, .int v10), (0, .ref (eA E 73)), (1, .int p1), (2, .int p2), (3, .int p3)]) hx hb dX1_come_34 hl (by decide) rfl (fun ls hl => ?_)
    refine lv_aload_n hx hb dX1_come_36 rfl (lv_at hl 1 rfl) ?_
    refine G_X1_unseeing cx hV mk_1_210 dX1_come_37 ?_
    refine lv_if_ne (tgt := 62) hx hb dX1_come_40 (by decide) (fun hc => ?_) (fun hc => ?_)
    · have h := ifn hc h
      exact hj62 p1 p3 v10 σ7 _ _ _ h hV (lv_sub hl [1, 2, 4, 0] rfl)
    · have h := ifp hc h
      refine lv_iload hx hb dX1_come_43 (lv_at hl 0 rfl) ?_
      refine lv_aload_n hx hb dX1_come_45 rfl (lv_at hl 1 rfl) ?_
      refine G_X1_told cx hV mk_1_202 dX1_come_46 ?_
      refine G_X7_stop cx hV (by decide) mk_1_68 dX1_come_49 ?_
      refine lv_aload_n hx hb dX1_come_52 rfl (lv_at hl 1 rfl) ?_
      refine lv_iload_n hx hb dX1_come_53 rfl (lv_at hl 2 rfl) ?_
      refine lv_iload_n hx hb dX1_come_54 rfl (lv_at hl 3 rfl) ?_
      refine bd2_e h (fun v11 σ12 hq h => ?_)
      refine k_X1_goThrough hq cx hV mk_3_18 ⟨Nat.le_of_ble_eq_true rfl, Nat.le_of_ble_eq_true rfl⟩ ⟨Nat.zero_le _, Nat.zero_le _⟩ hl.1 (Nat.le_of_ble_eq_true rfl) dX1_come_55 (fun H locs hV => ?_)
      refine lv_imul hx hb dX1_come_58 ?_
      refine lv_iadd hx hb dX1_come_59 ?_
      refine lv_istore (lv' := [(4, .int (v10 + ((gI σ7 3) * v11))), (0, .ref (eA E 73)), (1, .int p1), (2, .int p2), (3, .int p3)]) hx hb dX1_come_60 hl (by decide) rfl (fun ls hl => ?_)
      exact hj62 p1 p3 (v10 + ((gI σ7 3) * v11)) σ12 _ _ _ h hV (lv_sub hl [1, 2, 4, 0] rfl)
  rw [hH, hlocs] at goal
  exact goal
theorem k_X1_come {p : Program} {l : Launch} {e : Env} {R : Room} {s : State} {m : MethodId} {a : Array Value} {below : List Frame} {meth : Method} {c : Code} {H : Heap} {locs : List Loc} {cells slots : Nat} {Q : State → Prop} {cc : ByteArray} {own : String} {nL pc : Nat} {ls : Array Slot} {rest : List Value} {A : Nat → Prop} {E : EV} {X : va_W} {σ : St} {p1 : Int32} {p2 : Int32} {p3 : Int32} {σf : St} (h : x_X1_come p1 p2 p3 σ = some σf) (cx : CallFix p m c cc nL s a TBL own) (hV : AtW E (wC E σ ++ X) A s H locs) {idx : Nat} (w1 : Cond.methodLink own idx yX1_come ∈ TBL) (hR : (rm_X1_come).frames + 1 ≤ R.frames ∧ 8 + (5 + 11) + (rm_X1_come).locals ≤ R.locals) (hcs : cells ≤ R.cells ∧ slots ≤ R.slots) (hls : ls.size = nL) (hcat : (rest.map fun v => v.category).sum ≤ 8) (d : decode cc pc = .ok (.invokevirtual idx, 3)) (kk : ∀ (H1 : Heap) (locs1 : List Loc), AtW E (wC E σf ++ X) A s H1 locs1 → W p l e R s m a below meth c H1 locs1 cells slots Q (F0 m (pc + 3) ls (rest))) : W p l e R s m a below meth c H locs cells slots Q (F0 m pc ls (.int p3 :: .int p2 :: .int p1 :: .ref (eA E 73) :: rest)) :=
  r_callv (n := 3) (As := [.int p1, .int p2, .int p3]) (q0 := 73) (ci := 1) (qq := (RX1, TX1, 16)) (c_X1_come h) wC_fst rfl rfl mk_3_8 mk_P_6 mk_1_6 mk_3_9 (by decide +kernel) rfl ⟨rfl, rfl⟩ cx hV w1 hR hcs hls rfl hcat d kk
def x_X1_turn_b121 (w1 : Int32) (σ2 : St) : Option St :=
  bd (x_X2_add 38 w1 1 σ2) fun σ3 =>
  some σ3
def x_X1_turn (p1 : Int32) (p2 : Int32) (σ : St) : Option St :=
  bd (x_X2_at 40 p1 σ) fun v4 =>
  (if v4 = (-2) then
  some σ
  else
  bd (x_X2_at 41 p1 σ) fun v5 =>
  (if v5 ≤ p2 then
  bd (x_X1_nextOf p1 σ) fun v6 =>
  bd (x_X7_hasCrate 0 v6 σ) fun v7 =>
  (if v7 = 0 then
  bd (x_X1_leave p1 p2 σ) fun σ14 =>
  some σ14
  else
  bd (x_X1_whoStandsAt v6 σ) fun v8 =>
  (if v8 = (-1) then
  bd (x_X1_come p1 v6 p2 σ) fun σ13 =>
  some σ13
  else
  bd (x_X2_at 41 v8 σ) fun v9 =>
  (if p2 < v9 then
  x_X1_turn_b121 p1 σ
  else
  bd (x_X1_nextOf v8 σ) fun v10 =>
  (if v10 = v4 then
  bd (x_X1_come p1 v6 p2 σ) fun σ11 =>
  bd (x_X1_come v8 v4 p2 σ11) fun σ12 =>
  some σ12
  else
  x_X1_turn_b121 p1 σ))))
  else
  some σ))
abbrev rm_X1_turn : Room := { frames := 5, cells := 0, slots := 0, locals := 118 }
set_option maxHeartbeats 4000000 in
set_option maxRecDepth 100000 in
theorem c_X1_turn {l : Launch} {E : EV} {X : va_W} {σ : St} {p1 : Int32} {p2 : Int32} {σf : St} (h : x_X1_turn p1 p2 σ = some σf) : CM l yX1_turn cX1_turn 6 none rm_X1_turn [.ref (eA E 73), .int p1, .int p2] E (wC E σ ++ X) (wC E σf ++ X) qV := by
  refine CM.start (by decide) (Nat.le_of_ble_eq_true rfl) (fun p e s m a below meth c A ls cx hr hlk hV hl => ?_)
  have cx : CallFix p m c cX1_turn 6 s a TBL RX1 := cx
  have hx := cx.1
  have hb := cx.2.1
  have hl : lv_has ls 6 [(0, .ref (eA E 73)), (1, .int p1), (2, .int p2)] := hl
  generalize hQ : EQ E (wC E σf ++ X) qV A s a below = QQ
  obtain ⟨H, hH⟩ : ∃ H, H = s.heap := ⟨_, rfl⟩
  obtain ⟨locs, hlocs⟩ : ∃ z, z = ([] : List Loc) := ⟨_, rfl⟩
  have hV : AtW E (wC E σ ++ X) A s H locs := by rw [hH, hlocs]; exact hV
  have goal : W p l e rm_X1_turn s m a below meth c H locs 0 0 QQ (F0 m 0 ls []) := by
    unfold x_X1_turn at h
    have hj121 : ∀ (w1 : Int32) (σ2 : St) (H : Heap) (locs : List Loc) (ls : Array Slot), x_X1_turn_b121 w1 σ2 = some σf → AtW E (wC E σ2 ++ X) A s H locs → lv_has ls 6 [(0, .ref (eA E 73)), (1, .int w1)] → W p l e rm_X1_turn s m a below meth c H locs 0 0 QQ (F0 m 121 ls []) := by
      intro w1 σ2 H locs ls h hV hl
      unfold x_X1_turn_b121 at h
      refine lv_aload_n hx hb dX1_turn_121 rfl (lv_at hl 0 rfl) ?_
      refine G_X1_waited cx hV mk_1_196 dX1_turn_122 ?_
      refine lv_iload_n hx hb dX1_turn_125 rfl (lv_at hl 1 rfl) ?_
      refine lv_iconst (v := 1) hx hb dX1_turn_126 (by decide) ?_
      refine bd_e h (fun σ3 hq h => ?_)
      refine k_X2_add (by decide) hq cx hV mk_3_44 ⟨Nat.le_of_ble_eq_true rfl, Nat.le_of_ble_eq_true rfl⟩ ⟨Nat.zero_le _, Nat.zero_le _⟩ hl.1 (Nat.le_of_ble_eq_true rfl) dX1_turn_127 (fun H locs hV => ?_)
      have h1 := Option.some.inj h
      subst h1
      subst hQ
      exact r_vret cx hr hlk hV dX1_turn_130
    refine lv_aload_n hx hb dX1_turn_0 rfl (lv_at hl 0 rfl) ?_
    refine G_X1_stands cx hV mk_1_204 dX1_turn_1 ?_
    refine lv_iload_n hx hb dX1_turn_4 rfl (lv_at hl 1 rfl) ?_
    refine bd_e h (fun v4 hq h => ?_)
    refine k_X2_at (by decide) hq cx hV mk_2_226 ⟨Nat.le_of_ble_eq_true rfl, Nat.le_of_ble_eq_true rfl⟩ ⟨Nat.zero_le _, Nat.zero_le _⟩ hl.1 (Nat.le_of_ble_eq_true rfl) dX1_turn_5 (fun H locs hV => ?_)
    refine lv_istore_n (lv' := [(3, .int v4), (0, .ref (eA E 73)), (1, .int p1), (2, .int p2)]) hx hb dX1_turn_8 rfl hl (by decide) rfl (fun ls hl => ?_)
    refine lv_iload_n hx hb dX1_turn_9 rfl (lv_at hl 0 rfl) ?_
    refine lv_bipush (v := (-2)) hx hb dX1_turn_10 (by decide) ?_
    refine lv_icmp_eq (tgt := 27) hx hb dX1_turn_12 (by decide) (fun hc => ?_) (fun hc => ?_)
    · have h := ifp hc h
      have h1 := Option.some.inj h
      subst h1
      subst hQ
      exact r_vret cx hr hlk hV dX1_turn_27
    · have h := ifn hc h
      refine lv_aload_n hx hb dX1_turn_15 rfl (lv_at hl 1 rfl) ?_
      refine G_X1_done cx hV mk_1_205 dX1_turn_16 ?_
      refine lv_iload_n hx hb dX1_turn_19 rfl (lv_at hl 2 rfl) ?_
      refine bd_e h (fun v5 hq h => ?_)
      refine k_X2_at (by decide) hq cx hV mk_2_226 ⟨Nat.le_of_ble_eq_true rfl, Nat.le_of_ble_eq_true rfl⟩ ⟨Nat.zero_le _, Nat.zero_le _⟩ hl.1 (Nat.le_of_ble_eq_true rfl) dX1_turn_20 (fun H locs hV => ?_)
      refine lv_iload_n hx hb dX1_turn_23 rfl (lv_at hl 3 rfl) ?_
      refine lv_icmp_le (tgt := 28) hx hb dX1_turn_24 (by decide) (fun hc => ?_) (fun hc => ?_)
      · have h := ifp hc h
        refine lv_aload_n hx hb dX1_turn_28 rfl (lv_at hl 1 rfl) ?_
        refine lv_iload_n hx hb dX1_turn_29 rfl (lv_at hl 2 rfl) ?_
        refine bd_e h (fun v6 hq h => ?_)
        refine k_X1_nextOf hq cx hV mk_2_227 ⟨Nat.le_of_ble_eq_true rfl, Nat.le_of_ble_eq_true rfl⟩ ⟨Nat.zero_le _, Nat.zero_le _⟩ hl.1 (Nat.le_of_ble_eq_true rfl) dX1_turn_30 (fun H locs hV => ?_)
        refine lv_istore (lv' := [(4, .int v6), (3, .int v4), (0, .ref (eA E 73)), (1, .int p1), (2, .int p2)]) hx hb dX1_turn_33 hl (by decide) rfl (fun ls hl => ?_)
        refine lv_aload_n hx hb dX1_turn_35 rfl (lv_at hl 2 rfl) ?_
        refine G_X1_told cx hV mk_1_202 dX1_turn_36 ?_
        refine lv_iload hx hb dX1_turn_39 (lv_at hl 0 rfl) ?_
        refine bd_e h (fun v7 hq h => ?_)
        refine k_X7_hasCrate (by decide) hq cx hV mk_2_234 ⟨Nat.le_of_ble_eq_true rfl, Nat.le_of_ble_eq_true rfl⟩ ⟨Nat.zero_le _, Nat.zero_le _⟩ hl.1 (Nat.le_of_ble_eq_true rfl) dX1_turn_41 (fun H locs hV => ?_)
        refine lv_if_ne (tgt := 54) hx hb dX1_turn_44 (by decide) (fun hc => ?_) (fun hc => ?_)
        · have h := ifn hc h
          refine lv_aload_n hx hb dX1_turn_54 rfl (lv_at hl 2 rfl) ?_
          refine lv_iload hx hb dX1_turn_55 (lv_at hl 0 rfl) ?_
          refine bd_e h (fun v8 hq h => ?_)
          refine k_X1_whoStandsAt hq cx hV mk_3_2 ⟨Nat.le_of_ble_eq_true rfl, Nat.le_of_ble_eq_true rfl⟩ ⟨Nat.zero_le _, Nat.zero_le _⟩ hl.1 (Nat.le_of_ble_eq_true rfl) dX1_turn_57 (fun H locs hV => ?_)
          refine lv_istore (lv' := [(5, .int v8), (4, .int v6), (3, .int v4), (0, .ref (eA E 73)), (1, .int p1), (2, .int p2)]) hx hb dX1_turn_60 hl (by decide) rfl (fun ls hl => ?_)
          refine lv_iload hx hb dX1_turn_62 (lv_at hl 0 rfl) ?_
          refine lv_iconst (v := (-1)) hx hb dX1_turn_64 (by decide) ?_
          refine lv_icmp_ne (tgt := 79) hx hb dX1_turn_65 (by decide) (fun hc => ?_) (fun hc => ?_)
          · have h := ifn hc h
            refine lv_aload_n hx hb dX1_turn_79 rfl (lv_at hl 3 rfl) ?_
            refine G_X1_done cx hV mk_1_205 dX1_turn_80 ?_
            refine lv_iload hx hb dX1_turn_83 (lv_at hl 0 rfl) ?_
            refine bd_e h (fun v9 hq h => ?_)
            refine k_X2_at (by decide) hq cx hV mk_2_226 ⟨Nat.le_of_ble_eq_true rfl, Nat.le_of_ble_eq_true rfl⟩ ⟨Nat.zero_le _, Nat.zero_le _⟩ hl.1 (Nat.le_of_ble_eq_true rfl) dX1_turn_85 (fun H locs hV => ?_)
            refine lv_iload_n hx hb dX1_turn_88 rfl (lv_at hl 5 rfl) ?_
            refine lv_icmp_gt (tgt := 121) hx hb dX1_turn_89 (by decide) (fun hc => ?_) (fun hc => ?_)
            · have h := ifp hc h
              exact hj121 p1 σ _ _ _ h hV (lv_sub hl [3, 4] rfl)
            · have h := ifn hc h
              refine lv_aload_n hx hb dX1_turn_92 rfl (lv_at hl 3 rfl) ?_
              refine lv_iload hx hb dX1_turn_93 (lv_at hl 0 rfl) ?_
              refine bd_e h (fun v10 hq h => ?_)
              refine k_X1_nextOf hq cx hV mk_2_227 ⟨Nat.le_of_ble_eq_true rfl, Nat.le_of_ble_eq_true rfl⟩ ⟨Nat.zero_le _, Nat.zero_le _⟩ hl.1 (Nat.le_of_ble_eq_true rfl) dX1_turn_95 (fun H locs hV => ?_)
              refine lv_iload_n hx hb dX1_turn_98 rfl (lv_at hl 2 rfl) ?_
              refine lv_icmp_ne (tgt := 121) hx hb dX1_turn_99 (by decide) (fun hc => ?_) (fun hc => ?_)
              · have h := ifn hc h
                exact hj121 p1 σ _ _ _ h hV (lv_sub hl [3, 4] rfl)
              · have h := ifp hc h
                refine lv_aload_n hx hb dX1_turn_102 rfl (lv_at hl 3 rfl) ?_
                refine lv_iload_n hx hb dX1_turn_103 rfl (lv_at hl 4 rfl) ?_
                refine lv_iload hx hb dX1_turn_104 (lv_at hl 1 rfl) ?_
                refine lv_iload_n hx hb dX1_turn_106 rfl (lv_at hl 5 rfl) ?_
                refine bd_e h (fun σ11 hq h => ?_)
                refine k_X1_come hq cx hV mk_3_6 ⟨Nat.le_of_ble_eq_true rfl, Nat.le_of_ble_eq_true rfl⟩ ⟨Nat.zero_le _, Nat.zero_le _⟩ hl.1 (Nat.le_of_ble_eq_true rfl) dX1_turn_107 (fun H locs hV => ?_)
                refine lv_aload_n hx hb dX1_turn_110 rfl (lv_at hl 3 rfl) ?_
                refine lv_iload hx hb dX1_turn_111 (lv_at hl 0 rfl) ?_
                refine lv_iload_n hx hb dX1_turn_113 rfl (lv_at hl 2 rfl) ?_
                refine lv_iload_n hx hb dX1_turn_114 rfl (lv_at hl 5 rfl) ?_
                refine bd_e h (fun σ12 hq h => ?_)
                refine k_X1_come hq cx hV mk_3_6 ⟨Nat.le_of_ble_eq_true rfl, Nat.le_of_ble_eq_true rfl⟩ ⟨Nat.zero_le _, Nat.zero_le _⟩ hl.1 (Nat.le_of_ble_eq_true rfl) dX1_turn_115 (fun H locs hV => ?_)
                refine lv_goto (tgt := 130) hx hb dX1_turn_118 (by decide) ?_
                have h1 := Option.some.inj h
                subst h1
                subst hQ
                exact r_vret cx hr hlk hV dX1_turn_130
          · have h := ifp hc h
            refine lv_aload_n hx hb dX1_turn_68 rfl (lv_at hl 3 rfl) ?_
            refine lv_iload_n hx hb dX1_turn_69 rfl (lv_at hl 4 rfl) ?_
            refine lv_iload hx hb dX1_turn_70 (lv_at hl 1 rfl) ?_
            refine lv_iload_n hx hb dX1_turn_72 rfl (lv_at hl 5 rfl) ?_
            refine bd_e h (fun σ13 hq h => ?_)
            refine k_X1_come hq cx hV mk_3_6 ⟨Nat.le_of_ble_eq_true rfl, Nat.le_of_ble_eq_true rfl⟩ ⟨Nat.zero_le _, Nat.zero_le _⟩ hl.1 (Nat.le_of_ble_eq_true rfl) dX1_turn_73 (fun H locs hV => ?_)
            refine lv_goto (tgt := 130) hx hb dX1_turn_76 (by decide) ?_
            have h1 := Option.some.inj h
            subst h1
            subst hQ
            exact r_vret cx hr hlk hV dX1_turn_130
        · have h := ifp hc h
          refine lv_aload_n hx hb dX1_turn_47 rfl (lv_at hl 2 rfl) ?_
          refine lv_iload_n hx hb dX1_turn_48 rfl (lv_at hl 3 rfl) ?_
          refine lv_iload_n hx hb dX1_turn_49 rfl (lv_at hl 4 rfl) ?_
          refine bd_e h (fun σ14 hq h => ?_)
          refine k_X1_leave hq cx hV mk_2_238 ⟨Nat.le_of_ble_eq_true rfl, Nat.le_of_ble_eq_true rfl⟩ ⟨Nat.zero_le _, Nat.zero_le _⟩ hl.1 (Nat.le_of_ble_eq_true rfl) dX1_turn_50 (fun H locs hV => ?_)
          have h1 := Option.some.inj h
          subst h1
          subst hQ
          exact r_vret cx hr hlk hV dX1_turn_53
      · have h := ifn hc h
        have h1 := Option.some.inj h
        subst h1
        subst hQ
        exact r_vret cx hr hlk hV dX1_turn_27
  rw [hH, hlocs] at goal
  exact goal
theorem k_X1_turn {p : Program} {l : Launch} {e : Env} {R : Room} {s : State} {m : MethodId} {a : Array Value} {below : List Frame} {meth : Method} {c : Code} {H : Heap} {locs : List Loc} {cells slots : Nat} {Q : State → Prop} {cc : ByteArray} {own : String} {nL pc : Nat} {ls : Array Slot} {rest : List Value} {A : Nat → Prop} {E : EV} {X : va_W} {σ : St} {p1 : Int32} {p2 : Int32} {σf : St} (h : x_X1_turn p1 p2 σ = some σf) (cx : CallFix p m c cc nL s a TBL own) (hV : AtW E (wC E σ ++ X) A s H locs) {idx : Nat} (w1 : Cond.methodLink own idx yX1_turn ∈ TBL) (hR : (rm_X1_turn).frames + 1 ≤ R.frames ∧ 8 + (6 + 11) + (rm_X1_turn).locals ≤ R.locals) (hcs : cells ≤ R.cells ∧ slots ≤ R.slots) (hls : ls.size = nL) (hcat : (rest.map fun v => v.category).sum ≤ 8) (d : decode cc pc = .ok (.invokevirtual idx, 3)) (kk : ∀ (H1 : Heap) (locs1 : List Loc), AtW E (wC E σf ++ X) A s H1 locs1 → W p l e R s m a below meth c H1 locs1 cells slots Q (F0 m (pc + 3) ls (rest))) : W p l e R s m a below meth c H locs cells slots Q (F0 m pc ls (.int p2 :: .int p1 :: .ref (eA E 73) :: rest)) :=
  r_callv (n := 2) (As := [.int p1, .int p2]) (q0 := 73) (ci := 1) (qq := (RX1, TX1, 16)) (c_X1_turn h) wC_fst rfl rfl mk_2_224 mk_P_2 mk_1_6 mk_2_225 (by decide +kernel) rfl ⟨rfl, rfl⟩ cx hV w1 hR hcs hls rfl hcat d kk
def x_X1_nextDone_L6 (p1 : Int32) (σ : St) (u1 : Int32) (u2 : Int32) : Option (Bool × (Int32 × Int32)) :=
  (if (gI σ 2) ≤ u2 then
  some (false, (u1, u2))
  else
  bd (x_X2_at 41 u2 σ) fun v3 =>
  bd (x_X2_at 40 u2 σ) fun v4 =>
  (if v4 = (-2) then
  some (true, (u1, (u2 + 1)))
  else
  (if v3 ≤ p1 then
  some (true, (u1, (u2 + 1)))
  else
  some (true, ((mnI u1 v3), (u2 + 1))))))
def x_X1_nextDone (p1 : Int32) (σ : St) : Option Int32 :=
  bd2 (lp (fun v : (Int32 × Int32) => x_X1_nextDone_L6 p1 σ v.1 v.2) FU (3600, 0)) fun z5 z6 =>
  some z5
abbrev rm_X1_nextDone : Room := { frames := 1, cells := 0, slots := 0, locals := 21 }
set_option maxHeartbeats 4000000 in
set_option maxRecDepth 100000 in
theorem c_X1_nextDone {l : Launch} {E : EV} {X : va_W} {σ : St} {p1 : Int32} {rv : Int32} (h : x_X1_nextDone p1 σ = some rv) : CM l yX1_nextDone cX1_nextDone 5 (some .int) rm_X1_nextDone [.ref (eA E 73), .int p1] E (wC E σ ++ X) (wC E σ ++ X) (qI rv) := by
  refine CM.start (by decide) (Nat.le_of_ble_eq_true rfl) (fun p e s m a below meth c A ls cx hr hlk hV hl => ?_)
  have cx : CallFix p m c cX1_nextDone 5 s a TBL RX1 := cx
  have hx := cx.1
  have hb := cx.2.1
  have hl : lv_has ls 5 [(0, .ref (eA E 73)), (1, .int p1)] := hl
  generalize hQ : EQ E (wC E σ ++ X) (qI rv) A s a below = QQ
  obtain ⟨H, hH⟩ : ∃ H, H = s.heap := ⟨_, rfl⟩
  obtain ⟨locs, hlocs⟩ : ∃ z, z = ([] : List Loc) := ⟨_, rfl⟩
  have hV : AtW E (wC E σ ++ X) A s H locs := by rw [hH, hlocs]; exact hV
  have goal : W p l e rm_X1_nextDone s m a below meth c H locs 0 0 QQ (F0 m 0 ls []) := by
    unfold x_X1_nextDone at h
    refine lv_sipush (v := 3600) hx hb dX1_nextDone_0 (by decide) ?_
    refine lv_istore_n (lv' := [(2, .int 3600), (0, .ref (eA E 73)), (1, .int p1)]) hx hb dX1_nextDone_3 rfl hl (by decide) rfl (fun ls hl => ?_)
    refine lv_iconst (v := 0) hx hb dX1_nextDone_4 (by decide) ?_
    refine lv_istore_n (lv' := [(3, .int 0), (2, .int 3600), (0, .ref (eA E 73)), (1, .int p1)]) hx hb dX1_nextDone_5 rfl hl (by decide) rfl (fun ls hl => ?_)
    refine bd2_e h (fun z5 z6 ho h => ?_)
    refine (lp_rule (G := (fun v : (Int32 × Int32) => ∀ (H : Heap) (locs : List Loc) (ls : Array Slot), AtW E (wC E σ ++ X) A s H locs → lv_has ls 5 [(0, .ref (eA E 73)), (1, .int p1), (2, .int v.1), (3, .int v.2)] → W p l e rm_X1_nextDone s m a below meth c H locs 0 0 QQ (F0 m 6 ls []))) (K := (fun v : (Int32 × Int32) => ∀ (H : Heap) (locs : List Loc) (ls : Array Slot), AtW E (wC E σ ++ X) A s H locs → lv_has ls 5 [(2, .int v.1)] → W p l e rm_X1_nextDone s m a below meth c H locs 0 0 QQ (F0 m 59 ls []))) (fun v b1 y1 h hT1 hF1 => ?_) ho (fun H locs ls hV hl => ?_)) _ _ _ hV (lv_sub hl [2, 3, 1, 0] rfl)
    · obtain ⟨u1, u2⟩ := v
      have h : x_X1_nextDone_L6 p1 σ u1 u2 = some (b1, y1) := h
      intro H locs ls hV hl
      have hV : AtW E (wC E σ ++ X) A s H locs := hV
      have hl : lv_has ls 5 [(0, .ref (eA E 73)), (1, .int p1), (2, .int u1), (3, .int u2)] := hl
      unfold x_X1_nextDone_L6 at h
      refine lv_iload_n hx hb dX1_nextDone_6 rfl (lv_at hl 3 rfl) ?_
      refine lv_aload_n hx hb dX1_nextDone_7 rfl (lv_at hl 0 rfl) ?_
      refine G_X1_told cx hV mk_1_202 dX1_nextDone_8 ?_
      refine G_X7_lookers cx hV (by decide) mk_1_63 dX1_nextDone_11 ?_
      refine lv_icmp_ge (tgt := 59) hx hb dX1_nextDone_14 (by decide) (fun hc => ?_) (fun hc => ?_)
      · have h := ifp hc h
        cases h
        exact hF1 rfl _ _ _ hV (lv_sub hl [2] rfl)
      · have h := ifn hc h
        refine lv_aload_n hx hb dX1_nextDone_17 rfl (lv_at hl 0 rfl) ?_
        refine G_X1_done cx hV mk_1_205 dX1_nextDone_18 ?_
        refine lv_iload_n hx hb dX1_nextDone_21 rfl (lv_at hl 3 rfl) ?_
        refine bd_e h (fun v3 hq h => ?_)
        refine k_X2_at (by decide) hq cx hV mk_2_226 ⟨Nat.le_of_ble_eq_true rfl, Nat.le_of_ble_eq_true rfl⟩ ⟨Nat.zero_le _, Nat.zero_le _⟩ hl.1 (Nat.le_of_ble_eq_true rfl) dX1_nextDone_22 (fun H locs hV => ?_)
        refine lv_istore (lv' := [(4, .int v3), (0, .ref (eA E 73)), (1, .int p1), (2, .int u1), (3, .int u2)]) hx hb dX1_nextDone_25 hl (by decide) rfl (fun ls hl => ?_)
        refine lv_aload_n hx hb dX1_nextDone_27 rfl (lv_at hl 1 rfl) ?_
        refine G_X1_stands cx hV mk_1_204 dX1_nextDone_28 ?_
        refine lv_iload_n hx hb dX1_nextDone_31 rfl (lv_at hl 4 rfl) ?_
        refine bd_e h (fun v4 hq h => ?_)
        refine k_X2_at (by decide) hq cx hV mk_2_226 ⟨Nat.le_of_ble_eq_true rfl, Nat.le_of_ble_eq_true rfl⟩ ⟨Nat.zero_le _, Nat.zero_le _⟩ hl.1 (Nat.le_of_ble_eq_true rfl) dX1_nextDone_32 (fun H locs hV => ?_)
        refine lv_bipush (v := (-2)) hx hb dX1_nextDone_35 (by decide) ?_
        refine lv_icmp_eq (tgt := 53) hx hb dX1_nextDone_37 (by decide) (fun hc => ?_) (fun hc => ?_)
        · have h := ifp hc h
          refine lv_iinc (v := (u2 + 1)) (lv' := [(3, .int (u2 + 1)), (4, .int v3), (0, .ref (eA E 73)), (1, .int p1), (2, .int u1)]) hx hb dX1_nextDone_53 hl (k := 4) rfl rfl (by decide) rfl (fun ls hl => ?_)
          refine lv_goto (tgt := 6) hx hb dX1_nextDone_56 (by decide) ?_
          cases h
          exact hT1 rfl _ _ _ hV (lv_sub hl [2, 3, 4, 0] rfl)
        · have h := ifn hc h
          refine lv_iload hx hb dX1_nextDone_40 (lv_at hl 0 rfl) ?_
          refine lv_iload_n hx hb dX1_nextDone_42 rfl (lv_at hl 2 rfl) ?_
          refine lv_icmp_le (tgt := 53) hx hb dX1_nextDone_43 (by decide) (fun hc => ?_) (fun hc => ?_)
          · have h := ifp hc h
            refine lv_iinc (v := (u2 + 1)) (lv' := [(3, .int (u2 + 1)), (4, .int v3), (0, .ref (eA E 73)), (1, .int p1), (2, .int u1)]) hx hb dX1_nextDone_53 hl (k := 4) rfl rfl (by decide) rfl (fun ls hl => ?_)
            refine lv_goto (tgt := 6) hx hb dX1_nextDone_56 (by decide) ?_
            cases h
            exact hT1 rfl _ _ _ hV (lv_sub hl [2, 3, 4, 0] rfl)
          · have h := ifn hc h
            refine lv_iload_n hx hb dX1_nextDone_46 rfl (lv_at hl 3 rfl) ?_
            refine lv_iload hx hb dX1_nextDone_47 (lv_at hl 0 rfl) ?_
            refine r_min cx hl.1 mk_3_77 mk_3_78 mk_1_20 mk_3_79 (Nat.le_of_ble_eq_true rfl) (Nat.le_of_ble_eq_true rfl) ⟨Nat.zero_le _, Nat.zero_le _⟩ dX1_nextDone_49 ?_
            refine lv_istore_n (lv' := [(2, .int (mnI u1 v3)), (4, .int v3), (0, .ref (eA E 73)), (1, .int p1), (3, .int u2)]) hx hb dX1_nextDone_52 rfl hl (by decide) rfl (fun ls hl => ?_)
            refine lv_iinc (v := (u2 + 1)) (lv' := [(3, .int (u2 + 1)), (2, .int (mnI u1 v3)), (4, .int v3), (0, .ref (eA E 73)), (1, .int p1)]) hx hb dX1_nextDone_53 hl (k := 4) rfl rfl (by decide) rfl (fun ls hl => ?_)
            refine lv_goto (tgt := 6) hx hb dX1_nextDone_56 (by decide) ?_
            cases h
            exact hT1 rfl _ _ _ hV (lv_sub hl [3, 4, 1, 0] rfl)
    · have hV : AtW E (wC E σ ++ X) A s H locs := hV
      have hl : lv_has ls 5 [(2, .int z5)] := hl
      refine lv_iload_n hx hb dX1_nextDone_59 rfl (lv_at hl 0 rfl) ?_
      have h1 := Option.some.inj h
      subst h1
      subst hQ
      exact r_ireti cx hr hlk hV dX1_nextDone_60
  rw [hH, hlocs] at goal
  exact goal
theorem k_X1_nextDone {p : Program} {l : Launch} {e : Env} {R : Room} {s : State} {m : MethodId} {a : Array Value} {below : List Frame} {meth : Method} {c : Code} {H : Heap} {locs : List Loc} {cells slots : Nat} {Q : State → Prop} {cc : ByteArray} {own : String} {nL pc : Nat} {ls : Array Slot} {rest : List Value} {A : Nat → Prop} {E : EV} {X : va_W} {σ : St} {p1 : Int32} {rv : Int32} (h : x_X1_nextDone p1 σ = some rv) (cx : CallFix p m c cc nL s a TBL own) (hV : AtW E (wC E σ ++ X) A s H locs) {idx : Nat} (w1 : Cond.methodLink own idx yX1_nextDone ∈ TBL) (hR : (rm_X1_nextDone).frames + 1 ≤ R.frames ∧ 8 + (5 + 11) + (rm_X1_nextDone).locals ≤ R.locals) (hcs : cells ≤ R.cells ∧ slots ≤ R.slots) (hls : ls.size = nL) (hcat : (rest.map fun v => v.category).sum ≤ 8) (d : decode cc pc = .ok (.invokevirtual idx, 3)) (kk : ∀ (H1 : Heap) (locs1 : List Loc), AtW E (wC E σ ++ X) A s H1 locs1 → W p l e R s m a below meth c H1 locs1 cells slots Q (F0 m (pc + 3) ls (.int rv :: rest))) : W p l e R s m a below meth c H locs cells slots Q (F0 m pc ls (.int p1 :: .ref (eA E 73) :: rest)) :=
  r_calli (n := 1) (As := [.int p1]) (q0 := 73) (ci := 1) (qq := (RX1, TX1, 16)) (c_X1_nextDone h) rfl rfl rfl mk_3_75 mk_P_12 mk_1_6 mk_3_76 (by decide +kernel) rfl ⟨rfl, rfl⟩ cx hV w1 hR hcs hls rfl hcat d kk
def x_X1_waitOn_L2 (p1 : Int32) (p2 : Int32) (u1 : Int32) (σ2 : St) : Option (Bool × (Int32 × St)) :=
  (if (gI σ2 2) ≤ u1 then
  some (false, (u1, σ2))
  else
  bd (x_X2_at 40 u1 σ2) fun v3 =>
  (if v3 = (-2) then
  some (true, ((u1 + 1), σ2))
  else
  bd (x_X2_at 41 u1 σ2) fun v4 =>
  (if p1 < v4 then
  some (true, ((u1 + 1), σ2))
  else
  bd (x_X2_add 38 u1 p2 σ2) fun σ5 =>
  some (true, ((u1 + 1), σ5)))))
def x_X1_waitOn (p1 : Int32) (p2 : Int32) (σ : St) : Option St :=
  bd2 (lp (fun v : (Int32 × St) => x_X1_waitOn_L2 p1 p2 v.1 v.2) FU (0, σ)) fun z6 σ7 =>
  some σ7
abbrev rm_X1_waitOn : Room := { frames := 2, cells := 0, slots := 0, locals := 44 }
set_option maxHeartbeats 4000000 in
set_option maxRecDepth 100000 in
theorem c_X1_waitOn {l : Launch} {E : EV} {X : va_W} {σ : St} {p1 : Int32} {p2 : Int32} {σf : St} (h : x_X1_waitOn p1 p2 σ = some σf) : CM l yX1_waitOn cX1_waitOn 4 none rm_X1_waitOn [.ref (eA E 73), .int p1, .int p2] E (wC E σ ++ X) (wC E σf ++ X) qV := by
  refine CM.start (by decide) (Nat.le_of_ble_eq_true rfl) (fun p e s m a below meth c A ls cx hr hlk hV hl => ?_)
  have cx : CallFix p m c cX1_waitOn 4 s a TBL RX1 := cx
  have hx := cx.1
  have hb := cx.2.1
  have hl : lv_has ls 4 [(0, .ref (eA E 73)), (1, .int p1), (2, .int p2)] := hl
  generalize hQ : EQ E (wC E σf ++ X) qV A s a below = QQ
  obtain ⟨H, hH⟩ : ∃ H, H = s.heap := ⟨_, rfl⟩
  obtain ⟨locs, hlocs⟩ : ∃ z, z = ([] : List Loc) := ⟨_, rfl⟩
  have hV : AtW E (wC E σ ++ X) A s H locs := by rw [hH, hlocs]; exact hV
  have goal : W p l e rm_X1_waitOn s m a below meth c H locs 0 0 QQ (F0 m 0 ls []) := by
    unfold x_X1_waitOn at h
    refine lv_iconst (v := 0) hx hb dX1_waitOn_0 (by decide) ?_
    refine lv_istore_n (lv' := [(3, .int 0), (0, .ref (eA E 73)), (1, .int p1), (2, .int p2)]) hx hb dX1_waitOn_1 rfl hl (by decide) rfl (fun ls hl => ?_)
    refine bd2_e h (fun z6 σ7 ho h => ?_)
    refine (lp_rule (G := (fun v : (Int32 × St) => ∀ (H : Heap) (locs : List Loc) (ls : Array Slot), AtW E (wC E v.2 ++ X) A s H locs → lv_has ls 4 [(0, .ref (eA E 73)), (1, .int p1), (2, .int p2), (3, .int v.1)] → W p l e rm_X1_waitOn s m a below meth c H locs 0 0 QQ (F0 m 2 ls []))) (K := (fun v : (Int32 × St) => ∀ (H : Heap) (locs : List Loc) (ls : Array Slot), AtW E (wC E v.2 ++ X) A s H locs → lv_has ls 4 [] → W p l e rm_X1_waitOn s m a below meth c H locs 0 0 QQ (F0 m 53 ls []))) (fun v b1 y1 h hT1 hF1 => ?_) ho (fun H locs ls hV hl => ?_)) _ _ _ hV (lv_sub hl [1, 2, 3, 0] rfl)
    · obtain ⟨u1, σ2⟩ := v
      have h : x_X1_waitOn_L2 p1 p2 u1 σ2 = some (b1, y1) := h
      intro H locs ls hV hl
      have hV : AtW E (wC E σ2 ++ X) A s H locs := hV
      have hl : lv_has ls 4 [(0, .ref (eA E 73)), (1, .int p1), (2, .int p2), (3, .int u1)] := hl
      unfold x_X1_waitOn_L2 at h
      refine lv_iload_n hx hb dX1_waitOn_2 rfl (lv_at hl 3 rfl) ?_
      refine lv_aload_n hx hb dX1_waitOn_3 rfl (lv_at hl 0 rfl) ?_
      refine G_X1_told cx hV mk_1_202 dX1_waitOn_4 ?_
      refine G_X7_lookers cx hV (by decide) mk_1_63 dX1_waitOn_7 ?_
      refine lv_icmp_ge (tgt := 53) hx hb dX1_waitOn_10 (by decide) (fun hc => ?_) (fun hc => ?_)
      · have h := ifp hc h
        cases h
        exact hF1 rfl _ _ _ hV (lv_sub hl [] rfl)
      · have h := ifn hc h
        refine lv_aload_n hx hb dX1_waitOn_13 rfl (lv_at hl 0 rfl) ?_
        refine G_X1_stands cx hV mk_1_204 dX1_waitOn_14 ?_
        refine lv_iload_n hx hb dX1_waitOn_17 rfl (lv_at hl 3 rfl) ?_
        refine bd_e h (fun v3 hq h => ?_)
        refine k_X2_at (by decide) hq cx hV mk_2_226 ⟨Nat.le_of_ble_eq_true rfl, Nat.le_of_ble_eq_true rfl⟩ ⟨Nat.zero_le _, Nat.zero_le _⟩ hl.1 (Nat.le_of_ble_eq_true rfl) dX1_waitOn_18 (fun H locs hV => ?_)
        refine lv_bipush (v := (-2)) hx hb dX1_waitOn_21 (by decide) ?_
        refine lv_icmp_eq (tgt := 47) hx hb dX1_waitOn_23 (by decide) (fun hc => ?_) (fun hc => ?_)
        · have h := ifp hc h
          refine lv_iinc (v := (u1 + 1)) (lv' := [(3, .int (u1 + 1)), (0, .ref (eA E 73)), (1, .int p1), (2, .int p2)]) hx hb dX1_waitOn_47 hl (k := 3) rfl rfl (by decide) rfl (fun ls hl => ?_)
          refine lv_goto (tgt := 2) hx hb dX1_waitOn_50 (by decide) ?_
          cases h
          exact hT1 rfl _ _ _ hV (lv_sub hl [1, 2, 3, 0] rfl)
        · have h := ifn hc h
          refine lv_aload_n hx hb dX1_waitOn_26 rfl (lv_at hl 0 rfl) ?_
          refine G_X1_done cx hV mk_1_205 dX1_waitOn_27 ?_
          refine lv_iload_n hx hb dX1_waitOn_30 rfl (lv_at hl 3 rfl) ?_
          refine bd_e h (fun v4 hq h => ?_)
          refine k_X2_at (by decide) hq cx hV mk_2_226 ⟨Nat.le_of_ble_eq_true rfl, Nat.le_of_ble_eq_true rfl⟩ ⟨Nat.zero_le _, Nat.zero_le _⟩ hl.1 (Nat.le_of_ble_eq_true rfl) dX1_waitOn_31 (fun H locs hV => ?_)
          refine lv_iload_n hx hb dX1_waitOn_34 rfl (lv_at hl 1 rfl) ?_
          refine lv_icmp_gt (tgt := 47) hx hb dX1_waitOn_35 (by decide) (fun hc => ?_) (fun hc => ?_)
          · have h := ifp hc h
            refine lv_iinc (v := (u1 + 1)) (lv' := [(3, .int (u1 + 1)), (0, .ref (eA E 73)), (1, .int p1), (2, .int p2)]) hx hb dX1_waitOn_47 hl (k := 3) rfl rfl (by decide) rfl (fun ls hl => ?_)
            refine lv_goto (tgt := 2) hx hb dX1_waitOn_50 (by decide) ?_
            cases h
            exact hT1 rfl _ _ _ hV (lv_sub hl [1, 2, 3, 0] rfl)
          · have h := ifn hc h
            refine lv_aload_n hx hb dX1_waitOn_38 rfl (lv_at hl 0 rfl) ?_
            refine G_X1_waited cx hV mk_1_196 dX1_waitOn_39 ?_
            refine lv_iload_n hx hb dX1_waitOn_42 rfl (lv_at hl 3 rfl) ?_
            refine lv_iload_n hx hb dX1_waitOn_43 rfl (lv_at hl 2 rfl) ?_
            refine bd_e h (fun σ5 hq h => ?_)
            refine k_X2_add (by decide) hq cx hV mk_3_44 ⟨Nat.le_of_ble_eq_true rfl, Nat.le_of_ble_eq_true rfl⟩ ⟨Nat.zero_le _, Nat.zero_le _⟩ hl.1 (Nat.le_of_ble_eq_true rfl) dX1_waitOn_44 (fun H locs hV => ?_)
            refine lv_iinc (v := (u1 + 1)) (lv' := [(3, .int (u1 + 1)), (0, .ref (eA E 73)), (1, .int p1), (2, .int p2)]) hx hb dX1_waitOn_47 hl (k := 3) rfl rfl (by decide) rfl (fun ls hl => ?_)
            refine lv_goto (tgt := 2) hx hb dX1_waitOn_50 (by decide) ?_
            cases h
            exact hT1 rfl _ _ _ hV (lv_sub hl [1, 2, 3, 0] rfl)
    · have hV : AtW E (wC E σ7 ++ X) A s H locs := hV
      have hl : lv_has ls 4 [] := hl
      have h1 := Option.some.inj h
      subst h1
      subst hQ
      exact r_vret cx hr hlk hV dX1_waitOn_53
  rw [hH, hlocs] at goal
  exact goal
theorem k_X1_waitOn {p : Program} {l : Launch} {e : Env} {R : Room} {s : State} {m : MethodId} {a : Array Value} {below : List Frame} {meth : Method} {c : Code} {H : Heap} {locs : List Loc} {cells slots : Nat} {Q : State → Prop} {cc : ByteArray} {own : String} {nL pc : Nat} {ls : Array Slot} {rest : List Value} {A : Nat → Prop} {E : EV} {X : va_W} {σ : St} {p1 : Int32} {p2 : Int32} {σf : St} (h : x_X1_waitOn p1 p2 σ = some σf) (cx : CallFix p m c cc nL s a TBL own) (hV : AtW E (wC E σ ++ X) A s H locs) {idx : Nat} (w1 : Cond.methodLink own idx yX1_waitOn ∈ TBL) (hR : (rm_X1_waitOn).frames + 1 ≤ R.frames ∧ 8 + (4 + 11) + (rm_X1_waitOn).locals ≤ R.locals) (hcs : cells ≤ R.cells ∧ slots ≤ R.slots) (hls : ls.size = nL) (hcat : (rest.map fun v => v.category).sum ≤ 8) (d : decode cc pc = .ok (.invokevirtual idx, 3)) (kk : ∀ (H1 : Heap) (locs1 : List Loc), AtW E (wC E σf ++ X) A s H1 locs1 → W p l e R s m a below meth c H1 locs1 cells slots Q (F0 m (pc + 3) ls (rest))) : W p l e R s m a below meth c H locs cells slots Q (F0 m pc ls (.int p2 :: .int p1 :: .ref (eA E 73) :: rest)) :=
  r_callv (n := 2) (As := [.int p1, .int p2]) (q0 := 73) (ci := 1) (qq := (RX1, TX1, 16)) (c_X1_waitOn h) wC_fst rfl rfl mk_3_85 mk_P_13 mk_1_6 mk_3_86 (by decide +kernel) rfl ⟨rfl, rfl⟩ cx hV w1 hR hcs hls rfl hcat d kk
def x_X1_go_L45 (u6 : Int32) (u9 : Int32) (σ10 : St) : Option (Bool × (Int32 × St)) :=
  (if (gI σ10 2) ≤ u9 then
  some (false, (u9, σ10))
  else
  bd (x_X1_turn u9 u6 σ10) fun σ11 =>
  some (true, ((u9 + 1), σ11)))
def x_X1_go_L22 (u6 : Int32) (σ7 : St) : Option (Bool × (Int32 × St)) :=
  (if 3600 ≤ u6 then
  some (false, (u6, σ7))
  else
  (if (gI σ7 20) ≤ 0 then
  some (false, (u6, σ7))
  else
  bd (some (sI σ7 23 0)) fun σ8 =>
  bd2 (lp (fun v : (Int32 × St) => x_X1_go_L45 u6 v.1 v.2) FU (0, σ8)) fun z12 σ13 =>
  (if (gI σ13 23) = 0 then
  bd (x_X1_nextDone u6 σ13) fun v14 =>
  bd (x_X1_waitOn u6 (((mxI (u6 + 1) v14) - u6) - 1) σ13) fun σ15 =>
  some (true, ((mxI (u6 + 1) v14), σ15))
  else
  some (true, ((u6 + 1), σ13)))))
def x_X1_go (p1 : Int32) (p2 : Int32) (p3 : Int32) (σ : St) : Option St :=
  bd (some (sI σ 21 p1)) fun σ1 =>
  bd (some (sI σ1 19 p2)) fun σ2 =>
  bd (bz p3) fun v3 =>
  bd (some (sI σ2 22 v3)) fun σ4 =>
  bd (x_X1_begin σ4) fun σ5 =>
  bd2 (lp (fun v : (Int32 × St) => x_X1_go_L22 v.1 v.2) FU (0, σ5)) fun z16 σ17 =>
  some σ17
abbrev rm_X1_go : Room := { frames := 6, cells := 0, slots := 0, locals := 143 }
set_option maxHeartbeats 4000000 in
set_option maxRecDepth 100000 in
theorem c_X1_go {l : Launch} {E : EV} {X : va_W} {σ : St} {p1 : Int32} {p2 : Int32} {p3 : Int32} {σf : St} (h : x_X1_go p1 p2 p3 σ = some σf) : CM l yX1_go cX1_go 6 none rm_X1_go [.ref (eA E 73), .int p1, .int p2, .int p3] E (wC E σ ++ X) (wC E σf ++ X) qV := by
  refine CM.start (by decide) (Nat.le_of_ble_eq_true rfl) (fun p e s m a below meth c A ls cx hr hlk hV hl => ?_)
  have cx : CallFix p m c cX1_go 6 s a TBL RX1 := cx
  have hx := cx.1
  have hb := cx.2.1
  have hl : lv_has ls 6 [(0, .ref (eA E 73)), (1, .int p1), (2, .int p2), (3, .int p3)] := hl
  generalize hQ : EQ E (wC E σf ++ X) qV A s a below = QQ
  obtain ⟨H, hH⟩ : ∃ H, H = s.heap := ⟨_, rfl⟩
  obtain ⟨locs, hlocs⟩ : ∃ z, z = ([] : List Loc) := ⟨_, rfl⟩
  have hV : AtW E (wC E σ ++ X) A s H locs := by rw [hH, hlocs]; exact hV
  have goal : W p l e rm_X1_go s m a below meth c H locs 0 0 QQ (F0 m 0 ls []) := by
    unfold x_X1_go at h
    refine lv_aload_n hx hb dX1_go_0 rfl (lv_at hl 0 rfl) ?_
    refine lv_iload_n hx hb dX1_go_1 rfl (lv_at hl 1 rfl) ?_
    refine bd_e h (fun σ1 hq h => ?_)
    refine P_X1_seed cx hV hq mk_1_209 dX1_go_2 (fun H locs hV => ?_)
    refine lv_aload_n hx hb dX1_go_5 rfl (lv_at hl 0 rfl) ?_
    refine lv_iload_n hx hb dX1_go_6 rfl (lv_at hl 2 rfl) ?_
    refine bd_e h (fun σ2 hq h => ?_)
    refine P_X1_lefts cx hV hq mk_1_207 dX1_go_7 (fun H locs hV => ?_)
    refine lv_aload_n hx hb dX1_go_10 rfl (lv_at hl 0 rfl) ?_
    refine lv_iload_n hx hb dX1_go_11 rfl (lv_at hl 3 rfl) ?_
    refine bd_e h (fun v3 hq h => ?_)
    obtain ⟨hq2, hz⟩ := bz_e hq
    rw [hq2]
    refine bd_e h (fun σ4 hq h => ?_)
    refine P_X1_unseeing cx hV hz hq mk_1_210 dX1_go_12 (fun H locs hV => ?_)
    refine lv_aload_n hx hb dX1_go_15 rfl (lv_at hl 0 rfl) ?_
    refine bd_e h (fun σ5 hq h => ?_)
    refine k_X1_begin hq cx hV mk_2_211 ⟨Nat.le_of_ble_eq_true rfl, Nat.le_of_ble_eq_true rfl⟩ ⟨Nat.zero_le _, Nat.zero_le _⟩ hl.1 (Nat.le_of_ble_eq_true rfl) dX1_go_16 (fun H locs hV => ?_)
    refine lv_iconst (v := 0) hx hb dX1_go_19 (by decide) ?_
    refine lv_istore (lv' := [(4, .int 0), (0, .ref (eA E 73)), (1, .int p1), (2, .int p2), (3, .int p3)]) hx hb dX1_go_20 hl (by decide) rfl (fun ls hl => ?_)
    refine bd2_e h (fun z16 σ17 ho h => ?_)
    refine (lp_rule (G := (fun v : (Int32 × St) => ∀ (H : Heap) (locs : List Loc) (ls : Array Slot), AtW E (wC E v.2 ++ X) A s H locs → lv_has ls 6 [(0, .ref (eA E 73)), (4, .int v.1)] → W p l e rm_X1_go s m a below meth c H locs 0 0 QQ (F0 m 22 ls []))) (K := (fun v : (Int32 × St) => ∀ (H : Heap) (locs : List Loc) (ls : Array Slot), AtW E (wC E v.2 ++ X) A s H locs → lv_has ls 6 [] → W p l e rm_X1_go s m a below meth c H locs 0 0 QQ (F0 m 117 ls []))) (fun v b1 y1 h hT1 hF1 => ?_) ho (fun H locs ls hV hl => ?_)) _ _ _ hV (lv_sub hl [1, 0] rfl)
    · obtain ⟨u6, σ7⟩ := v
      have h : x_X1_go_L22 u6 σ7 = some (b1, y1) := h
      intro H locs ls hV hl
      have hV : AtW E (wC E σ7 ++ X) A s H locs := hV
      have hl : lv_has ls 6 [(0, .ref (eA E 73)), (4, .int u6)] := hl
      unfold x_X1_go_L22 at h
      refine lv_iload hx hb dX1_go_22 (lv_at hl 1 rfl) ?_
      refine lv_sipush (v := 3600) hx hb dX1_go_24 (by decide) ?_
      refine lv_icmp_ge (tgt := 117) hx hb dX1_go_27 (by decide) (fun hc => ?_) (fun hc => ?_)
      · have h := ifp hc h
        cases h
        exact hF1 rfl _ _ _ hV (lv_sub hl [] rfl)
      · have h := ifn hc h
        refine lv_aload_n hx hb dX1_go_30 rfl (lv_at hl 0 rfl) ?_
        refine G_X1_staying cx hV mk_1_208 dX1_go_31 ?_
        refine lv_if_le (tgt := 117) hx hb dX1_go_34 (by decide) (fun hc => ?_) (fun hc => ?_)
        · have h := ifp hc h
          cases h
          exact hF1 rfl _ _ _ hV (lv_sub hl [] rfl)
        · have h := ifn hc h
          refine lv_aload_n hx hb dX1_go_37 rfl (lv_at hl 0 rfl) ?_
          refine lv_iconst (v := 0) hx hb dX1_go_38 (by decide) ?_
          refine bd_e h (fun σ8 hq h => ?_)
          refine P_X1_moved cx hV (Or.inl rfl) hq mk_1_211 dX1_go_39 (fun H locs hV => ?_)
          refine lv_iconst (v := 0) hx hb dX1_go_42 (by decide) ?_
          refine lv_istore (lv' := [(5, .int 0), (0, .ref (eA E 73)), (4, .int u6)]) hx hb dX1_go_43 hl (by decide) rfl (fun ls hl => ?_)
          refine bd2_e h (fun z12 σ13 ho h => ?_)
          refine (lp_rule (G := (fun v : (Int32 × St) => ∀ (H : Heap) (locs : List Loc) (ls : Array Slot), AtW E (wC E v.2 ++ X) A s H locs → lv_has ls 6 [(0, .ref (eA E 73)), (4, .int u6), (5, .int v.1)] → W p l e rm_X1_go s m a below meth c H locs 0 0 QQ (F0 m 45 ls []))) (K := (fun v : (Int32 × St) => ∀ (H : Heap) (locs : List Loc) (ls : Array Slot), AtW E (wC E v.2 ++ X) A s H locs → lv_has ls 6 [(0, .ref (eA E 73)), (4, .int u6)] → W p l e rm_X1_go s m a below meth c H locs 0 0 QQ (F0 m 71 ls []))) (fun v b2 y2 h hT2 hF2 => ?_) ho (fun H locs ls hV hl => ?_)) _ _ _ hV (lv_sub hl [1, 2, 0] rfl)
          · obtain ⟨u9, σ10⟩ := v
            have h : x_X1_go_L45 u6 u9 σ10 = some (b2, y2) := h
            intro H locs ls hV hl
            have hV : AtW E (wC E σ10 ++ X) A s H locs := hV
            have hl : lv_has ls 6 [(0, .ref (eA E 73)), (4, .int u6), (5, .int u9)] := hl
            unfold x_X1_go_L45 at h
            refine lv_iload hx hb dX1_go_45 (lv_at hl 2 rfl) ?_
            refine lv_aload_n hx hb dX1_go_47 rfl (lv_at hl 0 rfl) ?_
            refine G_X1_told cx hV mk_1_202 dX1_go_48 ?_
            refine G_X7_lookers cx hV (by decide) mk_1_63 dX1_go_51 ?_
            refine lv_icmp_ge (tgt := 71) hx hb dX1_go_54 (by decide) (fun hc => ?_) (fun hc => ?_)
            · have h := ifp hc h
              cases h
              exact hF2 rfl _ _ _ hV (lv_sub hl [0, 1] rfl)
            · have h := ifn hc h
              refine lv_aload_n hx hb dX1_go_57 rfl (lv_at hl 0 rfl) ?_
              refine lv_iload hx hb dX1_go_58 (lv_at hl 2 rfl) ?_
              refine lv_iload hx hb dX1_go_60 (lv_at hl 1 rfl) ?_
              refine bd_e h (fun σ11 hq h => ?_)
              refine k_X1_turn hq cx hV mk_2_222 ⟨Nat.le_of_ble_eq_true rfl, Nat.le_of_ble_eq_true rfl⟩ ⟨Nat.zero_le _, Nat.zero_le _⟩ hl.1 (Nat.le_of_ble_eq_true rfl) dX1_go_62 (fun H locs hV => ?_)
              refine lv_iinc (v := (u9 + 1)) (lv' := [(5, .int (u9 + 1)), (0, .ref (eA E 73)), (4, .int u6)]) hx hb dX1_go_65 hl (k := 2) rfl rfl (by decide) rfl (fun ls hl => ?_)
              refine lv_goto (tgt := 45) hx hb dX1_go_68 (by decide) ?_
              cases h
              exact hT2 rfl _ _ _ hV (lv_sub hl [1, 2, 0] rfl)
          · have hV : AtW E (wC E σ13 ++ X) A s H locs := hV
            have hl : lv_has ls 6 [(0, .ref (eA E 73)), (4, .int u6)] := hl
            refine lv_iload hx hb dX1_go_71 (lv_at hl 1 rfl) ?_
            refine lv_iconst (v := 1) hx hb dX1_go_73 (by decide) ?_
            refine lv_iadd hx hb dX1_go_74 ?_
            refine lv_istore (lv' := [(5, .int (u6 + 1)), (0, .ref (eA E 73)), (4, .int u6)]) hx hb dX1_go_75 hl (by decide) rfl (fun ls hl => ?_)
            refine lv_aload_n hx hb dX1_go_77 rfl (lv_at hl 1 rfl) ?_
            refine G_X1_moved cx hV mk_1_211 dX1_go_78 ?_
            refine lv_if_ne (tgt := 110) hx hb dX1_go_81 (by decide) (fun hc => ?_) (fun hc => ?_)
            · have h := ifn hc h
              refine lv_iload hx hb dX1_go_110 (lv_at hl 0 rfl) ?_
              refine lv_istore (lv' := [(4, .int (u6 + 1)), (5, .int (u6 + 1)), (0, .ref (eA E 73))]) hx hb dX1_go_112 hl (by decide) rfl (fun ls hl => ?_)
              refine lv_goto (tgt := 22) hx hb dX1_go_114 (by decide) ?_
              cases h
              exact hT1 rfl _ _ _ hV (lv_sub hl [2, 0] rfl)
            · have h := ifp hc h
              refine lv_iload hx hb dX1_go_84 (lv_at hl 0 rfl) ?_
              refine lv_aload_n hx hb dX1_go_86 rfl (lv_at hl 1 rfl) ?_
              refine lv_iload hx hb dX1_go_87 (lv_at hl 2 rfl) ?_
              refine bd_e h (fun v14 hq h => ?_)
              refine k_X1_nextDone hq cx hV mk_3_73 ⟨Nat.le_of_ble_eq_true rfl, Nat.le_of_ble_eq_true rfl⟩ ⟨Nat.zero_le _, Nat.zero_le _⟩ hl.1 (Nat.le_of_ble_eq_true rfl) dX1_go_89 (fun H locs hV => ?_)
              refine r_max cx hl.1 mk_3_80 mk_3_81 mk_1_20 mk_3_82 (Nat.le_of_ble_eq_true rfl) (Nat.le_of_ble_eq_true rfl) ⟨Nat.zero_le _, Nat.zero_le _⟩ dX1_go_92 ?_
              refine lv_istore (lv' := [(5, .int (mxI (u6 + 1) v14)), (0, .ref (eA E 73)), (4, .int u6)]) hx hb dX1_go_95 hl (by decide) rfl (fun ls hl => ?_)
              refine lv_aload_n hx hb dX1_go_97 rfl (lv_at hl 1 rfl) ?_
              refine lv_iload hx hb dX1_go_98 (lv_at hl 2 rfl) ?_
              refine lv_iload hx hb dX1_go_100 (lv_at hl 0 rfl) ?_
              refine lv_iload hx hb dX1_go_102 (lv_at hl 2 rfl) ?_
              refine lv_isub hx hb dX1_go_104 ?_
              refine lv_iconst (v := 1) hx hb dX1_go_105 (by decide) ?_
              refine lv_isub hx hb dX1_go_106 ?_
              refine bd_e h (fun σ15 hq h => ?_)
              refine k_X1_waitOn hq cx hV mk_3_83 ⟨Nat.le_of_ble_eq_true rfl, Nat.le_of_ble_eq_true rfl⟩ ⟨Nat.zero_le _, Nat.zero_le _⟩ hl.1 (Nat.le_of_ble_eq_true rfl) dX1_go_107 (fun H locs hV => ?_)
              refine lv_iload hx hb dX1_go_110 (lv_at hl 0 rfl) ?_
              refine lv_istore (lv' := [(4, .int (mxI (u6 + 1) v14)), (5, .int (mxI (u6 + 1) v14)), (0, .ref (eA E 73))]) hx hb dX1_go_112 hl (by decide) rfl (fun ls hl => ?_)
              refine lv_goto (tgt := 22) hx hb dX1_go_114 (by decide) ?_
              cases h
              exact hT1 rfl _ _ _ hV (lv_sub hl [2, 0] rfl)
    · have hV : AtW E (wC E σ17 ++ X) A s H locs := hV
      have hl : lv_has ls 6 [] := hl
      have h1 := Option.some.inj h
      subst h1
      subst hQ
      exact r_vret cx hr hlk hV dX1_go_117
  rw [hH, hlocs] at goal
  exact goal
theorem k_X1_go {p : Program} {l : Launch} {e : Env} {R : Room} {s : State} {m : MethodId} {a : Array Value} {below : List Frame} {meth : Method} {c : Code} {H : Heap} {locs : List Loc} {cells slots : Nat} {Q : State → Prop} {cc : ByteArray} {own : String} {nL pc : Nat} {ls : Array Slot} {rest : List Value} {A : Nat → Prop} {E : EV} {X : va_W} {σ : St} {p1 : Int32} {p2 : Int32} {p3 : Int32} {σf : St} (h : x_X1_go p1 p2 p3 σ = some σf) (cx : CallFix p m c cc nL s a TBL own) (hV : AtW E (wC E σ ++ X) A s H locs) {idx : Nat} (w1 : Cond.methodLink own idx yX1_go ∈ TBL) (hR : (rm_X1_go).frames + 1 ≤ R.frames ∧ 8 + (6 + 11) + (rm_X1_go).locals ≤ R.locals) (hcs : cells ≤ R.cells ∧ slots ≤ R.slots) (hls : ls.size = nL) (hcat : (rest.map fun v => v.category).sum ≤ 8) (d : decode cc pc = .ok (.invokevirtual idx, 3)) (kk : ∀ (H1 : Heap) (locs1 : List Loc), AtW E (wC E σf ++ X) A s H1 locs1 → W p l e R s m a below meth c H1 locs1 cells slots Q (F0 m (pc + 3) ls (rest))) : W p l e R s m a below meth c H locs cells slots Q (F0 m pc ls (.int p3 :: .int p2 :: .int p1 :: .ref (eA E 73) :: rest)) :=
  r_callv (n := 3) (As := [.int p1, .int p2, .int p3]) (q0 := 73) (ci := 1) (qq := (RX1, TX1, 16)) (c_X1_go h) wC_fst rfl rfl mk_2_208 mk_2_209 mk_1_6 mk_2_210 (by decide +kernel) rfl ⟨rfl, rfl⟩ cx hV w1 hR hcs hls rfl hcat d kk
def x_X1_lastGone_L13 (σ : St) (u1 : Int32) (u2 : Int32) : Option (Bool × (Int32 × Int32)) :=
  (if (gI σ 2) ≤ u2 then
  some (false, (u1, u2))
  else
  bd (x_X2_at 39 u2 σ) fun v3 =>
  some (true, ((mxI u1 v3), (u2 + 1))))
def x_X1_lastGone (σ : St) : Option Int32 :=
  (if (gI σ 20) ≤ 0 then
  bd2 (lp (fun v : (Int32 × Int32) => x_X1_lastGone_L13 σ v.1 v.2) FU (0, 0)) fun z4 z5 =>
  some z4
  else
  some (-1))
abbrev rm_X1_lastGone : Room := { frames := 1, cells := 0, slots := 0, locals := 21 }
set_option maxHeartbeats 4000000 in
set_option maxRecDepth 100000 in
theorem c_X1_lastGone {l : Launch} {E : EV} {X : va_W} {σ : St} {rv : Int32} (h : x_X1_lastGone σ = some rv) : CM l yX1_lastGone cX1_lastGone 3 (some .int) rm_X1_lastGone [.ref (eA E 73)] E (wC E σ ++ X) (wC E σ ++ X) (qI rv) := by
  refine CM.start (by decide) (Nat.le_of_ble_eq_true rfl) (fun p e s m a below meth c A ls cx hr hlk hV hl => ?_)
  have cx : CallFix p m c cX1_lastGone 3 s a TBL RX1 := cx
  have hx := cx.1
  have hb := cx.2.1
  have hl : lv_has ls 3 [(0, .ref (eA E 73))] := hl
  generalize hQ : EQ E (wC E σ ++ X) (qI rv) A s a below = QQ
  obtain ⟨H, hH⟩ : ∃ H, H = s.heap := ⟨_, rfl⟩
  obtain ⟨locs, hlocs⟩ : ∃ z, z = ([] : List Loc) := ⟨_, rfl⟩
  have hV : AtW E (wC E σ ++ X) A s H locs := by rw [hH, hlocs]; exact hV
  have goal : W p l e rm_X1_lastGone s m a below meth c H locs 0 0 QQ (F0 m 0 ls []) := by
    unfold x_X1_lastGone at h
    refine lv_aload_n hx hb dX1_lastGone_0 rfl (lv_at hl 0 rfl) ?_
    refine G_X1_staying cx hV mk_1_208 dX1_lastGone_1 ?_
    refine lv_if_le (tgt := 9) hx hb dX1_lastGone_4 (by decide) (fun hc => ?_) (fun hc => ?_)
    · have h := ifp hc h
      refine lv_iconst (v := 0) hx hb dX1_lastGone_9 (by decide) ?_
      refine lv_istore_n (lv' := [(1, .int 0), (0, .ref (eA E 73))]) hx hb dX1_lastGone_10 rfl hl (by decide) rfl (fun ls hl => ?_)
      refine lv_iconst (v := 0) hx hb dX1_lastGone_11 (by decide) ?_
      refine lv_istore_n (lv' := [(2, .int 0), (1, .int 0), (0, .ref (eA E 73))]) hx hb dX1_lastGone_12 rfl hl (by decide) rfl (fun ls hl => ?_)
      refine bd2_e h (fun z4 z5 ho h => ?_)
      refine (lp_rule (G := (fun v : (Int32 × Int32) => ∀ (H : Heap) (locs : List Loc) (ls : Array Slot), AtW E (wC E σ ++ X) A s H locs → lv_has ls 3 [(0, .ref (eA E 73)), (1, .int v.1), (2, .int v.2)] → W p l e rm_X1_lastGone s m a below meth c H locs 0 0 QQ (F0 m 13 ls []))) (K := (fun v : (Int32 × Int32) => ∀ (H : Heap) (locs : List Loc) (ls : Array Slot), AtW E (wC E σ ++ X) A s H locs → lv_has ls 3 [(1, .int v.1)] → W p l e rm_X1_lastGone s m a below meth c H locs 0 0 QQ (F0 m 43 ls []))) (fun v b1 y1 h hT1 hF1 => ?_) ho (fun H locs ls hV hl => ?_)) _ _ _ hV (lv_sub hl [2, 1, 0] rfl)
      · obtain ⟨u1, u2⟩ := v
        have h : x_X1_lastGone_L13 σ u1 u2 = some (b1, y1) := h
        intro H locs ls hV hl
        have hV : AtW E (wC E σ ++ X) A s H locs := hV
        have hl : lv_has ls 3 [(0, .ref (eA E 73)), (1, .int u1), (2, .int u2)] := hl
        unfold x_X1_lastGone_L13 at h
        refine lv_iload_n hx hb dX1_lastGone_13 rfl (lv_at hl 2 rfl) ?_
        refine lv_aload_n hx hb dX1_lastGone_14 rfl (lv_at hl 0 rfl) ?_
        refine G_X1_told cx hV mk_1_202 dX1_lastGone_15 ?_
        refine G_X7_lookers cx hV (by decide) mk_1_63 dX1_lastGone_18 ?_
        refine lv_icmp_ge (tgt := 43) hx hb dX1_lastGone_21 (by decide) (fun hc => ?_) (fun hc => ?_)
        · have h := ifp hc h
          cases h
          exact hF1 rfl _ _ _ hV (lv_sub hl [1] rfl)
        · have h := ifn hc h
          refine lv_iload_n hx hb dX1_lastGone_24 rfl (lv_at hl 1 rfl) ?_
          refine lv_aload_n hx hb dX1_lastGone_25 rfl (lv_at hl 0 rfl) ?_
          refine G_X1_gone cx hV mk_1_198 dX1_lastGone_26 ?_
          refine lv_iload_n hx hb dX1_lastGone_29 rfl (lv_at hl 2 rfl) ?_
          refine bd_e h (fun v3 hq h => ?_)
          refine k_X2_at (by decide) hq cx hV mk_2_226 ⟨Nat.le_of_ble_eq_true rfl, Nat.le_of_ble_eq_true rfl⟩ ⟨Nat.zero_le _, Nat.zero_le _⟩ hl.1 (Nat.le_of_ble_eq_true rfl) dX1_lastGone_30 (fun H locs hV => ?_)
          refine r_max cx hl.1 mk_3_80 mk_3_81 mk_1_20 mk_3_82 (Nat.le_of_ble_eq_true rfl) (Nat.le_of_ble_eq_true rfl) ⟨Nat.zero_le _, Nat.zero_le _⟩ dX1_lastGone_33 ?_
          refine lv_istore_n (lv' := [(1, .int (mxI u1 v3)), (0, .ref (eA E 73)), (2, .int u2)]) hx hb dX1_lastGone_36 rfl hl (by decide) rfl (fun ls hl => ?_)
          refine lv_iinc (v := (u2 + 1)) (lv' := [(2, .int (u2 + 1)), (1, .int (mxI u1 v3)), (0, .ref (eA E 73))]) hx hb dX1_lastGone_37 hl (k := 2) rfl rfl (by decide) rfl (fun ls hl => ?_)
          refine lv_goto (tgt := 13) hx hb dX1_lastGone_40 (by decide) ?_
          cases h
          exact hT1 rfl _ _ _ hV (lv_sub hl [2, 1, 0] rfl)
      · have hV : AtW E (wC E σ ++ X) A s H locs := hV
        have hl : lv_has ls 3 [(1, .int z4)] := hl
        refine lv_iload_n hx hb dX1_lastGone_43 rfl (lv_at hl 0 rfl) ?_
        have h1 := Option.some.inj h
        subst h1
        subst hQ
        exact r_ireti cx hr hlk hV dX1_lastGone_44
    · have h := ifn hc h
      refine lv_iconst (v := (-1)) hx hb dX1_lastGone_7 (by decide) ?_
      have h1 := Option.some.inj h
      subst h1
      subst hQ
      exact r_ireti cx hr hlk hV dX1_lastGone_8
  rw [hH, hlocs] at goal
  exact goal
theorem k_X1_lastGone {p : Program} {l : Launch} {e : Env} {R : Room} {s : State} {m : MethodId} {a : Array Value} {below : List Frame} {meth : Method} {c : Code} {H : Heap} {locs : List Loc} {cells slots : Nat} {Q : State → Prop} {cc : ByteArray} {own : String} {nL pc : Nat} {ls : Array Slot} {rest : List Value} {A : Nat → Prop} {E : EV} {X : va_W} {σ : St} {rv : Int32} (h : x_X1_lastGone σ = some rv) (cx : CallFix p m c cc nL s a TBL own) (hV : AtW E (wC E σ ++ X) A s H locs) {idx : Nat} (w1 : Cond.methodLink own idx yX1_lastGone ∈ TBL) (hR : (rm_X1_lastGone).frames + 1 ≤ R.frames ∧ 8 + (3 + 11) + (rm_X1_lastGone).locals ≤ R.locals) (hcs : cells ≤ R.cells ∧ slots ≤ R.slots) (hls : ls.size = nL) (hcat : (rest.map fun v => v.category).sum ≤ 8) (d : decode cc pc = .ok (.invokevirtual idx, 3)) (kk : ∀ (H1 : Heap) (locs1 : List Loc), AtW E (wC E σ ++ X) A s H1 locs1 → W p l e R s m a below meth c H1 locs1 cells slots Q (F0 m (pc + 3) ls (.int rv :: rest))) : W p l e R s m a below meth c H locs cells slots Q (F0 m pc ls (.ref (eA E 73) :: rest)) :=
  r_calli (n := 0) (As := []) (q0 := 73) (ci := 1) (qq := (RX1, TX1, 16)) (c_X1_lastGone h) rfl rfl rfl mk_5_99 mk_5_100 mk_1_6 mk_5_101 (by decide +kernel) rfl ⟨rfl, rfl⟩ cx hV w1 hR hcs hls rfl hcat d kk
