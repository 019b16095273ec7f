def x_X5_lies (t : Nat) (p1 : Int32) (σ : St) : Option Int32 :=
  bd (x_X2_at (15 + 4 * t) p1 σ) fun v1 =>
  (if v1 = (-1) then
  some 0
  else
  some 1)
abbrev rm_X5_lies : Room := { frames := 1, cells := 0, slots := 0, locals := 21 }
set_option maxHeartbeats 4000000 in
set_option maxRecDepth 100000 in
theorem c_X5_lies {l : Launch} {E : EV} {X : va_W} {σ : St} {t : Nat} {p1 : Int32} {rv : Int32} (ht : t < 5) (h : x_X5_lies t p1 σ = some rv) : CM l yX5_lies cX5_lies 2 (some .boolean) rm_X5_lies [.ref (eA E (pS t)), .int p1] E (wC E σ ++ X) (wC E σ ++ X) (qI rv) := by
  refine CM.start (by decide) (Nat.le_of_ble_eq_true rfl) (fun p e s m a below meth c A ls cx hr hlk hV hl => ?_)
  have cx : CallFix p m c cX5_lies 2 s a TBL RX5 := cx
  have hx := cx.1
  have hb := cx.2.1
  have hl : lv_has ls 2 [(0, .ref (eA E (pS t))), (1, .int p1)] := hl
  generalize hQ : EQ E (wC E σ ++ X) (qI rv) A s a below = QQ
  obtain ⟨H, hH⟩ : ∃ H, H = s.heap := ⟨_, rfl⟩
  obtain ⟨locs, hlocs⟩ : ∃ z, z = ([] : List Loc) := ⟨_, rfl⟩
  have hV : AtW E (wC E σ ++ X) A s H locs := by rw [hH, hlocs]; exact hV
  have goal : W p l e rm_X5_lies s m a below meth c H locs 0 0 QQ (F0 m 0 ls []) := by
    unfold x_X5_lies at h
    refine lv_aload_n hx hb dX5_lies_0 rfl (lv_at hl 0 rfl) ?_
    refine G_X5_where cx hV ht mk_1_121 dX5_lies_1 ?_
    refine lv_iload_n hx hb dX5_lies_4 rfl (lv_at hl 1 rfl) ?_
    refine bd_e h (fun v1 hq h => ?_)
    refine k_X2_at (by omega) hq cx hV mk_3_14 ⟨Nat.le_of_ble_eq_true rfl, Nat.le_of_ble_eq_true rfl⟩ ⟨Nat.zero_le _, Nat.zero_le _⟩ hl.1 (Nat.le_of_ble_eq_true rfl) dX5_lies_5 (fun H locs hV => ?_)
    refine lv_iconst (v := (-1)) hx hb dX5_lies_8 (by decide) ?_
    refine lv_icmp_eq (tgt := 16) hx hb dX5_lies_9 (by decide) (fun hc => ?_) (fun hc => ?_)
    · have h := ifp hc h
      refine lv_iconst (v := 0) hx hb dX5_lies_16 (by decide) ?_
      have h1 := Option.some.inj h
      subst h1
      subst hQ
      exact r_zreti cx hr hlk hV (Or.inl rfl) dX5_lies_17
    · have h := ifn hc h
      refine lv_iconst (v := 1) hx hb dX5_lies_12 (by decide) ?_
      refine lv_goto (tgt := 17) hx hb dX5_lies_13 (by decide) ?_
      have h1 := Option.some.inj h
      subst h1
      subst hQ
      exact r_zreti cx hr hlk hV (Or.inr rfl) dX5_lies_17
  rw [hH, hlocs] at goal
  exact goal
theorem k_X5_lies {p : Program} {l : Launch} {e : Env} {R : Room} {s : State} {m : MethodId} {a : Array Value} {below : List Frame} {meth : Method} {c : Code} {H : Heap} {locs : List Loc} {cells slots : Nat} {Q : State → Prop} {cc : ByteArray} {own : String} {nL pc : Nat} {ls : Array Slot} {rest : List Value} {A : Nat → Prop} {E : EV} {X : va_W} {σ : St} {t : Nat} {p1 : Int32} {rv : Int32} (ht : t < 5) (h : x_X5_lies t p1 σ = some rv) (cx : CallFix p m c cc nL s a TBL own) (hV : AtW E (wC E σ ++ X) A s H locs) {idx : Nat} (w1 : Cond.methodLink own idx yX5_lies ∈ TBL) (hR : (rm_X5_lies).frames + 1 ≤ R.frames ∧ 8 + (2 + 11) + (rm_X5_lies).locals ≤ R.locals) (hcs : cells ≤ R.cells ∧ slots ≤ R.slots) (hls : ls.size = nL) (hcat : (rest.map fun v => v.category).sum ≤ 8) (d : decode cc pc = .ok (.invokevirtual idx, 3)) (kk : ∀ (H1 : Heap) (locs1 : List Loc), AtW E (wC E σ ++ X) A s H1 locs1 → W p l e R s m a below meth c H1 locs1 cells slots Q (F0 m (pc + 3) ls (.int rv :: rest))) : W p l e R s m a below meth c H locs cells slots Q (F0 m pc ls (.int p1 :: .ref (eA E (pS t)) :: rest)) :=
  r_calli (n := 1) (As := [.int p1]) (q0 := (pS t)) (ci := 5) (qq := (RX5, TX5, 4)) (c_X5_lies ht h) rfl (wC_S ht) rfl mk_3_103 mk_3_104 mk_1_4 mk_3_105 (by decide +kernel) rfl ⟨rfl, rfl⟩ cx hV w1 hR hcs hls rfl hcat d kk
def x_X5_copy (t : Nat) (t1 : Nat) (σ : St) : Option St :=
  bd (x_X2_copy (15 + 4 * t) (15 + 4 * t1) σ) fun σ1 =>
  bd (x_X2_copy (15 + 4 * t + 1) (15 + 4 * t1 + 1) σ1) fun σ2 =>
  bd (x_X2_copy (15 + 4 * t + 2) (15 + 4 * t1 + 2) σ2) fun σ3 =>
  bd (x_X2_copy (15 + 4 * t + 3) (15 + 4 * t1 + 3) σ3) fun σ4 =>
  some σ4
abbrev rm_X5_copy : Room := { frames := 2, cells := 0, slots := 0, locals := 43 }
set_option maxHeartbeats 4000000 in
set_option maxRecDepth 100000 in
theorem c_X5_copy {l : Launch} {E : EV} {X : va_W} {σ : St} {t : Nat} {t1 : Nat} {σf : St} (ht : t < 5) (ht1 : t1 < 5) (h : x_X5_copy t t1 σ = some σf) : CM l yX5_copy cX5_copy 2 none rm_X5_copy [.ref (eA E (pS t)), .ref (eA E (pS t1))] E (wC E σ ++ X) (wC E σf ++ X) qV := by
  refine CM.start (by decide) (Nat.le_of_ble_eq_true rfl) (fun p e s m a below meth c A ls cx hr hlk hV hl => ?_)
  have cx : CallFix p m c cX5_copy 2 s a TBL RX5 := cx
  have hx := cx.1
  have hb := cx.2.1
  have hl : lv_has ls 2 [(0, .ref (eA E (pS t))), (1, .ref (eA E (pS t1)))] := hl
  generalize hQ : EQ E (wC E σf ++ X) qV A s a below = QQ
  obtain ⟨H, hH⟩ : ∃ H, H = s.heap := ⟨_, rfl⟩
  obtain ⟨locs, hlocs⟩ : ∃ z, z = ([] : List Loc) := ⟨_, rfl⟩
  have hV : AtW E (wC E σ ++ X) A s H locs := by rw [hH, hlocs]; exact hV
  have goal : W p l e rm_X5_copy s m a below meth c H locs 0 0 QQ (F0 m 0 ls []) := by
    unfold x_X5_copy at h
    refine lv_aload_n hx hb dX5_copy_0 rfl (lv_at hl 0 rfl) ?_
    refine G_X5_where cx hV ht mk_1_121 dX5_copy_1 ?_
    refine lv_aload_n hx hb dX5_copy_4 rfl (lv_at hl 1 rfl) ?_
    refine G_X5_where cx hV ht1 mk_1_121 dX5_copy_5 ?_
    refine bd_e h (fun σ1 hq h => ?_)
    refine k_X2_copy (by omega) (by omega) hq cx hV mk_2_129 ⟨Nat.le_of_ble_eq_true rfl, Nat.le_of_ble_eq_true rfl⟩ ⟨Nat.zero_le _, Nat.zero_le _⟩ hl.1 (Nat.le_of_ble_eq_true rfl) dX5_copy_8 (fun H locs hV => ?_)
    refine lv_aload_n hx hb dX5_copy_11 rfl (lv_at hl 0 rfl) ?_
    refine G_X5_line cx hV ht mk_1_125 dX5_copy_12 ?_
    refine lv_aload_n hx hb dX5_copy_15 rfl (lv_at hl 1 rfl) ?_
    refine G_X5_line cx hV ht1 mk_1_125 dX5_copy_16 ?_
    refine bd_e h (fun σ2 hq h => ?_)
    refine k_X2_copy (by omega) (by omega) hq cx hV mk_2_129 ⟨Nat.le_of_ble_eq_true rfl, Nat.le_of_ble_eq_true rfl⟩ ⟨Nat.zero_le _, Nat.zero_le _⟩ hl.1 (Nat.le_of_ble_eq_true rfl) dX5_copy_19 (fun H locs hV => ?_)
    refine lv_aload_n hx hb dX5_copy_22 rfl (lv_at hl 0 rfl) ?_
    refine G_X5_discs cx hV ht mk_1_127 dX5_copy_23 ?_
    refine lv_aload_n hx hb dX5_copy_26 rfl (lv_at hl 1 rfl) ?_
    refine G_X5_discs cx hV ht1 mk_1_127 dX5_copy_27 ?_
    refine bd_e h (fun σ3 hq h => ?_)
    refine k_X2_copy (by omega) (by omega) hq cx hV mk_2_129 ⟨Nat.le_of_ble_eq_true rfl, Nat.le_of_ble_eq_true rfl⟩ ⟨Nat.zero_le _, Nat.zero_le _⟩ hl.1 (Nat.le_of_ble_eq_true rfl) dX5_copy_30 (fun H locs hV => ?_)
    refine lv_aload_n hx hb dX5_copy_33 rfl (lv_at hl 0 rfl) ?_
    refine G_X5_dividers cx hV ht mk_1_130 dX5_copy_34 ?_
    refine lv_aload_n hx hb dX5_copy_37 rfl (lv_at hl 1 rfl) ?_
    refine G_X5_dividers cx hV ht1 mk_1_130 dX5_copy_38 ?_
    refine bd_e h (fun σ4 hq h => ?_)
    refine k_X2_copy (by omega) (by omega) hq cx hV mk_2_129 ⟨Nat.le_of_ble_eq_true rfl, Nat.le_of_ble_eq_true rfl⟩ ⟨Nat.zero_le _, Nat.zero_le _⟩ hl.1 (Nat.le_of_ble_eq_true rfl) dX5_copy_41 (fun H locs hV => ?_)
    have h1 := Option.some.inj h
    subst h1
    subst hQ
    exact r_vret cx hr hlk hV dX5_copy_44
  rw [hH, hlocs] at goal
  exact goal
theorem k_X5_copy {p : Program} {l : Launch} {e : Env} {R : Room} {s : State} {m : MethodId} {a : Array Value} {below : List Frame} {meth : Method} {c : Code} {H : Heap} {locs : List Loc} {cells slots : Nat} {Q : State → Prop} {cc : ByteArray} {own : String} {nL pc : Nat} {ls : Array Slot} {rest : List Value} {A : Nat → Prop} {E : EV} {X : va_W} {σ : St} {t : Nat} {t1 : Nat} {σf : St} (ht : t < 5) (ht1 : t1 < 5) (h : x_X5_copy t t1 σ = some σf) (cx : CallFix p m c cc nL s a TBL own) (hV : AtW E (wC E σ ++ X) A s H locs) {idx : Nat} (w1 : Cond.methodLink own idx yX5_copy ∈ TBL) (hR : (rm_X5_copy).frames + 1 ≤ R.frames ∧ 8 + (2 + 11) + (rm_X5_copy).locals ≤ R.locals) (hcs : cells ≤ R.cells ∧ slots ≤ R.slots) (hls : ls.size = nL) (hcat : (rest.map fun v => v.category).sum ≤ 8) (d : decode cc pc = .ok (.invokevirtual idx, 3)) (kk : ∀ (H1 : Heap) (locs1 : List Loc), AtW E (wC E σf ++ X) A s H1 locs1 → W p l e R s m a below meth c H1 locs1 cells slots Q (F0 m (pc + 3) ls (rest))) : W p l e R s m a below meth c H locs cells slots Q (F0 m pc ls (.ref (eA E (pS t1)) :: .ref (eA E (pS t)) :: rest)) :=
  r_callv (n := 1) (As := [.ref (eA E (pS t1))]) (q0 := (pS t)) (ci := 5) (qq := (RX5, TX5, 4)) (c_X5_copy ht ht1 h) wC_fst (wC_S ht) rfl mk_2_216 mk_2_217 mk_1_4 mk_2_218 (by decide +kernel) rfl ⟨rfl, rfl⟩ cx hV w1 hR hcs hls rfl hcat d kk
def x_X5_size_L4 (t : Nat) (p1 : Int32) (σ : St) (u1 : Int32) (u2 : Int32) : Option (Bool × (Int32 × Int32)) :=
  (if 24 ≤ u2 then
  some (false, (u1, u2))
  else
  bd (x_X2_at (15 + 4 * t) u2 σ) fun v3 =>
  (if v3 = p1 then
  some (true, ((u1 + 1), (u2 + 1)))
  else
  some (true, (u1, (u2 + 1)))))
def x_X5_size (t : Nat) (p1 : Int32) (σ : St) : Option Int32 :=
  bd2 (lp (fun v : (Int32 × Int32) => x_X5_size_L4 t p1 σ v.1 v.2) FU (0, 0)) fun z4 z5 =>
  some z4
abbrev rm_X5_size : Room := { frames := 1, cells := 0, slots := 0, locals := 21 }
set_option maxHeartbeats 4000000 in
set_option maxRecDepth 100000 in
theorem c_X5_size {l : Launch} {E : EV} {X : va_W} {σ : St} {t : Nat} {p1 : Int32} {rv : Int32} (ht : t < 5) (h : x_X5_size t p1 σ = some rv) : CM l yX5_size cX5_size 4 (some .int) rm_X5_size [.ref (eA E (pS t)), .int p1] E (wC E σ ++ X) (wC E σ ++ X) (qI rv) := by
  refine CM.start (by decide) (Nat.le_of_ble_eq_true rfl) (fun p e s m a below meth c A ls cx hr hlk hV hl => ?_)
  have cx : CallFix p m c cX5_size 4 s a TBL RX5 := cx
  have hx := cx.1
  have hb := cx.2.1
  have hl : lv_has ls 4 [(0, .ref (eA E (pS t))), (1, .int p1)] := hl
  generalize hQ : EQ E (wC E σ ++ X) (qI rv) A s a below = QQ
  obtain ⟨H, hH⟩ : ∃ H, H = s.heap := ⟨_, rfl⟩
  obtain ⟨locs, hlocs⟩ : ∃ z, z = ([] : List Loc) := ⟨_, rfl⟩
  have hV : AtW E (wC E σ ++ X) A s H locs := by rw [hH, hlocs]; exact hV
  have goal : W p l e rm_X5_size s m a below meth c H locs 0 0 QQ (F0 m 0 ls []) := by
    unfold x_X5_size at h
    refine lv_iconst (v := 0) hx hb dX5_size_0 (by decide) ?_
    refine lv_istore_n (lv' := [(2, .int 0), (0, .ref (eA E (pS t))), (1, .int p1)]) hx hb dX5_size_1 rfl hl (by decide) rfl (fun ls hl => ?_)
    refine lv_iconst (v := 0) hx hb dX5_size_2 (by decide) ?_
    refine lv_istore_n (lv' := [(3, .int 0), (2, .int 0), (0, .ref (eA E (pS t))), (1, .int p1)]) hx hb dX5_size_3 rfl hl (by decide) rfl (fun ls hl => ?_)
    refine bd2_e h (fun z4 z5 ho h => ?_)
    refine (lp_rule (G := (fun v : (Int32 × Int32) => ∀ (H : Heap) (locs : List Loc) (ls : Array Slot), AtW E (wC E σ ++ X) A s H locs → lv_has ls 4 [(0, .ref (eA E (pS t))), (1, .int p1), (2, .int v.1), (3, .int v.2)] → W p l e rm_X5_size s m a below meth c H locs 0 0 QQ (F0 m 4 ls []))) (K := (fun v : (Int32 × Int32) => ∀ (H : Heap) (locs : List Loc) (ls : Array Slot), AtW E (wC E σ ++ X) A s H locs → lv_has ls 4 [(2, .int v.1)] → W p l e rm_X5_size s m a below meth c H locs 0 0 QQ (F0 m 31 ls []))) (fun v b1 y1 h hT1 hF1 => ?_) ho (fun H locs ls hV hl => ?_)) _ _ _ hV (lv_sub hl [2, 3, 1, 0] rfl)
    · obtain ⟨u1, u2⟩ := v
      have h : x_X5_size_L4 t p1 σ u1 u2 = some (b1, y1) := h
      intro H locs ls hV hl
      have hV : AtW E (wC E σ ++ X) A s H locs := hV
      have hl : lv_has ls 4 [(0, .ref (eA E (pS t))), (1, .int p1), (2, .int u1), (3, .int u2)] := hl
      unfold x_X5_size_L4 at h
      refine lv_iload_n hx hb dX5_size_4 rfl (lv_at hl 3 rfl) ?_
      refine lv_bipush (v := 24) hx hb dX5_size_5 (by decide) ?_
      refine lv_icmp_ge (tgt := 31) hx hb dX5_size_7 (by decide) (fun hc => ?_) (fun hc => ?_)
      · have h := ifp hc h
        cases h
        exact hF1 rfl _ _ _ hV (lv_sub hl [2] rfl)
      · have h := ifn hc h
        refine lv_aload_n hx hb dX5_size_10 rfl (lv_at hl 0 rfl) ?_
        refine G_X5_where cx hV ht mk_1_121 dX5_size_11 ?_
        refine lv_iload_n hx hb dX5_size_14 rfl (lv_at hl 3 rfl) ?_
        refine bd_e h (fun v3 hq h => ?_)
        refine k_X2_at (by omega) hq cx hV mk_3_14 ⟨Nat.le_of_ble_eq_true rfl, Nat.le_of_ble_eq_true rfl⟩ ⟨Nat.zero_le _, Nat.zero_le _⟩ hl.1 (Nat.le_of_ble_eq_true rfl) dX5_size_15 (fun H locs hV => ?_)
        refine lv_iload_n hx hb dX5_size_18 rfl (lv_at hl 1 rfl) ?_
        refine lv_icmp_ne (tgt := 25) hx hb dX5_size_19 (by decide) (fun hc => ?_) (fun hc => ?_)
        · have h := ifn hc h
          refine lv_iinc (v := (u2 + 1)) (lv' := [(3, .int (u2 + 1)), (0, .ref (eA E (pS t))), (1, .int p1), (2, .int u1)]) hx hb dX5_size_25 hl (k := 3) rfl rfl (by decide) rfl (fun ls hl => ?_)
          refine lv_goto (tgt := 4) hx hb dX5_size_28 (by decide) ?_
          cases h
          exact hT1 rfl _ _ _ hV (lv_sub hl [1, 2, 3, 0] rfl)
        · have h := ifp hc h
          refine lv_iinc (v := (u1 + 1)) (lv' := [(2, .int (u1 + 1)), (0, .ref (eA E (pS t))), (1, .int p1), (3, .int u2)]) hx hb dX5_size_22 hl (k := 2) rfl rfl (by decide) rfl (fun ls hl => ?_)
          refine lv_iinc (v := (u2 + 1)) (lv' := [(3, .int (u2 + 1)), (2, .int (u1 + 1)), (0, .ref (eA E (pS t))), (1, .int p1)]) hx hb dX5_size_25 hl (k := 3) rfl rfl (by decide) rfl (fun ls hl => ?_)
          refine lv_goto (tgt := 4) hx hb dX5_size_28 (by decide) ?_
          cases h
          exact hT1 rfl _ _ _ hV (lv_sub hl [2, 3, 1, 0] rfl)
    · have hV : AtW E (wC E σ ++ X) A s H locs := hV
      have hl : lv_has ls 4 [(2, .int z4)] := hl
      refine lv_iload_n hx hb dX5_size_31 rfl (lv_at hl 0 rfl) ?_
      have h1 := Option.some.inj h
      subst h1
      subst hQ
      exact r_ireti cx hr hlk hV dX5_size_32
  rw [hH, hlocs] at goal
  exact goal
theorem k_X5_size {p : Program} {l : Launch} {e : Env} {R : Room} {s : State} {m : MethodId} {a : Array Value} {below : List Frame} {meth : Method} {c : Code} {H : Heap} {locs : List Loc} {cells slots : Nat} {Q : State → Prop} {cc : ByteArray} {own : String} {nL pc : Nat} {ls : Array Slot} {rest : List Value} {A : Nat → Prop} {E : EV} {X : va_W} {σ : St} {t : Nat} {p1 : Int32} {rv : Int32} (ht : t < 5) (h : x_X5_size t p1 σ = some rv) (cx : CallFix p m c cc nL s a TBL own) (hV : AtW E (wC E σ ++ X) A s H locs) {idx : Nat} (w1 : Cond.methodLink own idx yX5_size ∈ TBL) (hR : (rm_X5_size).frames + 1 ≤ R.frames ∧ 8 + (4 + 11) + (rm_X5_size).locals ≤ R.locals) (hcs : cells ≤ R.cells ∧ slots ≤ R.slots) (hls : ls.size = nL) (hcat : (rest.map fun v => v.category).sum ≤ 8) (d : decode cc pc = .ok (.invokevirtual idx, 3)) (kk : ∀ (H1 : Heap) (locs1 : List Loc), AtW E (wC E σ ++ X) A s H1 locs1 → W p l e R s m a below meth c H1 locs1 cells slots Q (F0 m (pc + 3) ls (.int rv :: rest))) : W p l e R s m a below meth c H locs cells slots Q (F0 m pc ls (.int p1 :: .ref (eA E (pS t)) :: rest)) :=
  r_calli (n := 1) (As := [.int p1]) (q0 := (pS t)) (ci := 5) (qq := (RX5, TX5, 4)) (c_X5_size ht h) rfl (wC_S ht) rfl mk_3_11 mk_3_12 mk_1_4 mk_3_13 (by decide +kernel) rfl ⟨rfl, rfl⟩ cx hV w1 hR hcs hls rfl hcat d kk
def x_X5_sell (t : Nat) (p1 : Int32) (σ : St) : Option St :=
  bd (x_X2_put (15 + 4 * t) p1 (-1) σ) fun σ1 =>
  some σ1
abbrev rm_X5_sell : Room := { frames := 1, cells := 0, slots := 0, locals := 22 }
set_option maxHeartbeats 4000000 in
set_option maxRecDepth 100000 in
theorem c_X5_sell {l : Launch} {E : EV} {X : va_W} {σ : St} {t : Nat} {p1 : Int32} {σf : St} (ht : t < 5) (h : x_X5_sell t p1 σ = some σf) : CM l yX5_sell cX5_sell 2 none rm_X5_sell [.ref (eA E (pS t)), .int p1] E (wC E σ ++ X) (wC E σf ++ X) qV := by
  refine CM.start (by decide) (Nat.le_of_ble_eq_true rfl) (fun p e s m a below meth c A ls cx hr hlk hV hl => ?_)
  have cx : CallFix p m c cX5_sell 2 s a TBL RX5 := cx
  have hx := cx.1
  have hb := cx.2.1
  have hl : lv_has ls 2 [(0, .ref (eA E (pS t))), (1, .int p1)] := hl
  generalize hQ : EQ E (wC E σf ++ X) qV A s a below = QQ
  obtain ⟨H, hH⟩ : ∃ H, H = s.heap := ⟨_, rfl⟩
  obtain ⟨locs, hlocs⟩ : ∃ z, z = ([] : List Loc) := ⟨_, rfl⟩
  have hV : AtW E (wC E σ ++ X) A s H locs := by rw [hH, hlocs]; exact hV
  have goal : W p l e rm_X5_sell s m a below meth c H locs 0 0 QQ (F0 m 0 ls []) := by
    unfold x_X5_sell at h
    refine lv_aload_n hx hb dX5_sell_0 rfl (lv_at hl 0 rfl) ?_
    refine G_X5_where cx hV ht mk_1_121 dX5_sell_1 ?_
    refine lv_iload_n hx hb dX5_sell_4 rfl (lv_at hl 1 rfl) ?_
    refine lv_iconst (v := (-1)) hx hb dX5_sell_5 (by decide) ?_
    refine bd_e h (fun σ1 hq h => ?_)
    refine k_X2_put (by omega) hq cx hV mk_3_43 ⟨Nat.le_of_ble_eq_true rfl, Nat.le_of_ble_eq_true rfl⟩ ⟨Nat.zero_le _, Nat.zero_le _⟩ hl.1 (Nat.le_of_ble_eq_true rfl) dX5_sell_6 (fun H locs hV => ?_)
    have h1 := Option.some.inj h
    subst h1
    subst hQ
    exact r_vret cx hr hlk hV dX5_sell_9
  rw [hH, hlocs] at goal
  exact goal
theorem k_X5_sell {p : Program} {l : Launch} {e : Env} {R : Room} {s : State} {m : MethodId} {a : Array Value} {below : List Frame} {meth : Method} {c : Code} {H : Heap} {locs : List Loc} {cells slots : Nat} {Q : State → Prop} {cc : ByteArray} {own : String} {nL pc : Nat} {ls : Array Slot} {rest : List Value} {A : Nat → Prop} {E : EV} {X : va_W} {σ : St} {t : Nat} {p1 : Int32} {σf : St} (ht : t < 5) (h : x_X5_sell t p1 σ = some σf) (cx : CallFix p m c cc nL s a TBL own) (hV : AtW E (wC E σ ++ X) A s H locs) {idx : Nat} (w1 : Cond.methodLink own idx yX5_sell ∈ TBL) (hR : (rm_X5_sell).frames + 1 ≤ R.frames ∧ 8 + (2 + 11) + (rm_X5_sell).locals ≤ R.locals) (hcs : cells ≤ R.cells ∧ slots ≤ R.slots) (hls : ls.size = nL) (hcat : (rest.map fun v => v.category).sum ≤ 8) (d : decode cc pc = .ok (.invokevirtual idx, 3)) (kk : ∀ (H1 : Heap) (locs1 : List Loc), AtW E (wC E σf ++ X) A s H1 locs1 → W p l e R s m a below meth c H1 locs1 cells slots Q (F0 m (pc + 3) ls (rest))) : W p l e R s m a below meth c H locs cells slots Q (F0 m pc ls (.int p1 :: .ref (eA E (pS t)) :: rest)) :=
  r_callv (n := 1) (As := [.int p1]) (q0 := (pS t)) (ci := 5) (qq := (RX5, TX5, 4)) (c_X5_sell ht h) wC_fst (wC_S ht) rfl mk_3_40 mk_3_41 mk_1_4 mk_3_42 (by decide +kernel) rfl ⟨rfl, rfl⟩ cx hV w1 hR hcs hls rfl hcat d kk
def x_X5_putBehind (t : Nat) (p1 : Int32) (p2 : Int32) (σ : St) : Option St :=
  bd (x_X2_placeOf (15 + 4 * t + 1) p1 σ) fun v1 =>
  bd (x_X2_shift (15 + 4 * t + 1) v1 23 σ) fun σ2 =>
  bd (x_X2_put (15 + 4 * t) p1 p2 σ2) fun σ3 =>
  some σ3
abbrev rm_X5_putBehind : Room := { frames := 2, cells := 0, slots := 0, locals := 46 }
set_option maxHeartbeats 4000000 in
set_option maxRecDepth 100000 in
theorem c_X5_putBehind {l : Launch} {E : EV} {X : va_W} {σ : St} {t : Nat} {p1 : Int32} {p2 : Int32} {σf : St} (ht : t < 5) (h : x_X5_putBehind t p1 p2 σ = some σf) : CM l yX5_putBehind cX5_putBehind 3 none rm_X5_putBehind [.ref (eA E (pS t)), .int p1, .int p2] E (wC E σ ++ X) (wC E σf ++ X) qV := by
  refine CM.start (by decide) (Nat.le_of_ble_eq_true rfl) (fun p e s m a below meth c A ls cx hr hlk hV hl => ?_)
  have cx : CallFix p m c cX5_putBehind 3 s a TBL RX5 := cx
  have hx := cx.1
  have hb := cx.2.1
  have hl : lv_has ls 3 [(0, .ref (eA E (pS t))), (1, .int p1), (2, .int p2)] := hl
  generalize hQ : EQ E (wC E σf ++ X) qV A s a below = QQ
  obtain ⟨H, hH⟩ : ∃ H, H = s.heap := ⟨_, rfl⟩
  obtain ⟨locs, hlocs⟩ : ∃ z, z = ([] : List Loc) := ⟨_, rfl⟩
  have hV : AtW E (wC E σ ++ X) A s H locs := by rw [hH, hlocs]; exact hV
  have goal : W p l e rm_X5_putBehind s m a below meth c H locs 0 0 QQ (F0 m 0 ls []) := by
    unfold x_X5_putBehind at h
    refine lv_aload_n hx hb dX5_putBehind_0 rfl (lv_at hl 0 rfl) ?_
    refine G_X5_line cx hV ht mk_1_125 dX5_putBehind_1 ?_
    refine lv_aload_n hx hb dX5_putBehind_4 rfl (lv_at hl 0 rfl) ?_
    refine G_X5_line cx hV ht mk_1_125 dX5_putBehind_5 ?_
    refine lv_iload_n hx hb dX5_putBehind_8 rfl (lv_at hl 1 rfl) ?_
    refine bd_e h (fun v1 hq h => ?_)
    refine k_X2_placeOf (by omega) hq cx hV mk_3_61 ⟨Nat.le_of_ble_eq_true rfl, Nat.le_of_ble_eq_true rfl⟩ ⟨Nat.zero_le _, Nat.zero_le _⟩ hl.1 (Nat.le_of_ble_eq_true rfl) dX5_putBehind_9 (fun H locs hV => ?_)
    refine lv_bipush (v := 23) hx hb dX5_putBehind_12 (by decide) ?_
    refine bd_e h (fun σ2 hq h => ?_)
    refine k_X2_shift (by omega) hq cx hV mk_3_65 ⟨Nat.le_of_ble_eq_true rfl, Nat.le_of_ble_eq_true rfl⟩ ⟨Nat.zero_le _, Nat.zero_le _⟩ hl.1 (Nat.le_of_ble_eq_true rfl) dX5_putBehind_14 (fun H locs hV => ?_)
    refine lv_aload_n hx hb dX5_putBehind_17 rfl (lv_at hl 0 rfl) ?_
    refine G_X5_where cx hV ht mk_1_121 dX5_putBehind_18 ?_
    refine lv_iload_n hx hb dX5_putBehind_21 rfl (lv_at hl 1 rfl) ?_
    refine lv_iload_n hx hb dX5_putBehind_22 rfl (lv_at hl 2 rfl) ?_
    refine bd_e h (fun σ3 hq h => ?_)
    refine k_X2_put (by omega) hq cx hV mk_3_43 ⟨Nat.le_of_ble_eq_true rfl, Nat.le_of_ble_eq_true rfl⟩ ⟨Nat.zero_le _, Nat.zero_le _⟩ hl.1 (Nat.le_of_ble_eq_true rfl) dX5_putBehind_23 (fun H locs hV => ?_)
    have h1 := Option.some.inj h
    subst h1
    subst hQ
    exact r_vret cx hr hlk hV dX5_putBehind_26
  rw [hH, hlocs] at goal
  exact goal
theorem k_X5_putBehind {p : Program} {l : Launch} {e : Env} {R : Room} {s : State} {m : MethodId} {a : Array Value} {below : List Frame} {meth : Method} {c : Code} {H : Heap} {locs : List Loc} {cells slots : Nat} {Q : State → Prop} {cc : ByteArray} {own : String} {nL pc : Nat} {ls : Array Slot} {rest : List Value} {A : Nat → Prop} {E : EV} {X : va_W} {σ : St} {t : Nat} {p1 : Int32} {p2 : Int32} {σf : St} (ht : t < 5) (h : x_X5_putBehind t p1 p2 σ = some σf) (cx : CallFix p m c cc nL s a TBL own) (hV : AtW E (wC E σ ++ X) A s H locs) {idx : Nat} (w1 : Cond.methodLink own idx yX5_putBehind ∈ TBL) (hR : (rm_X5_putBehind).frames + 1 ≤ R.frames ∧ 8 + (3 + 11) + (rm_X5_putBehind).locals ≤ R.locals) (hcs : cells ≤ R.cells ∧ slots ≤ R.slots) (hls : ls.size = nL) (hcat : (rest.map fun v => v.category).sum ≤ 8) (d : decode cc pc = .ok (.invokevirtual idx, 3)) (kk : ∀ (H1 : Heap) (locs1 : List Loc), AtW E (wC E σf ++ X) A s H1 locs1 → W p l e R s m a below meth c H1 locs1 cells slots Q (F0 m (pc + 3) ls (rest))) : W p l e R s m a below meth c H locs cells slots Q (F0 m pc ls (.int p2 :: .int p1 :: .ref (eA E (pS t)) :: rest)) :=
  r_callv (n := 2) (As := [.int p1, .int p2]) (q0 := (pS t)) (ci := 5) (qq := (RX5, TX5, 4)) (c_X5_putBehind ht h) wC_fst (wC_S ht) rfl mk_3_58 mk_3_59 mk_1_4 mk_3_60 (by decide +kernel) rfl ⟨rfl, rfl⟩ cx hV w1 hR hcs hls rfl hcat d kk
def x_X5_begin (t : Nat) (t1 : Nat) (σ : St) : Option St :=
  bd (x_X2_copy (15 + 4 * t) (1 + 7 * t1 + 2) σ) fun σ1 =>
  bd (x_X2_fillByNumber (15 + 4 * t + 1) σ1) fun σ2 =>
  bd (x_X2_copy (15 + 4 * t + 2) (1 + 7 * t1 + 3) σ2) fun σ3 =>
  bd (x_X2_fillByNumber (15 + 4 * t + 3) σ3) fun σ4 =>
  some σ4
abbrev rm_X5_begin : Room := { frames := 2, cells := 0, slots := 0, locals := 43 }
set_option maxHeartbeats 4000000 in
set_option maxRecDepth 100000 in
theorem c_X5_begin {l : Launch} {E : EV} {X : va_W} {σ : St} {t : Nat} {t1 : Nat} {σf : St} (ht : t < 5) (ht1 : t1 < 2) (h : x_X5_begin t t1 σ = some σf) : CM l yX5_begin cX5_begin 2 none rm_X5_begin [.ref (eA E (pS t)), .ref (eA E (pT t1))] E (wC E σ ++ X) (wC E σf ++ X) qV := by
  refine CM.start (by decide) (Nat.le_of_ble_eq_true rfl) (fun p e s m a below meth c A ls cx hr hlk hV hl => ?_)
  have cx : CallFix p m c cX5_begin 2 s a TBL RX5 := cx
  have hx := cx.1
  have hb := cx.2.1
  have hl : lv_has ls 2 [(0, .ref (eA E (pS t))), (1, .ref (eA E (pT t1)))] := hl
  generalize hQ : EQ E (wC E σf ++ X) qV A s a below = QQ
  obtain ⟨H, hH⟩ : ∃ H, H = s.heap := ⟨_, rfl⟩
  obtain ⟨locs, hlocs⟩ : ∃ z, z = ([] : List Loc) := ⟨_, rfl⟩
  have hV : AtW E (wC E σ ++ X) A s H locs := by rw [hH, hlocs]; exact hV
  have goal : W p l e rm_X5_begin s m a below meth c H locs 0 0 QQ (F0 m 0 ls []) := by
    unfold x_X5_begin at h
    refine lv_aload_n hx hb dX5_begin_0 rfl (lv_at hl 0 rfl) ?_
    refine G_X5_where cx hV ht mk_1_121 dX5_begin_1 ?_
    refine lv_aload_n hx hb dX5_begin_4 rfl (lv_at hl 1 rfl) ?_
    refine G_X7_lying cx hV ht1 mk_1_75 dX5_begin_5 ?_
    refine bd_e h (fun σ1 hq h => ?_)
    refine k_X2_copy (by omega) (by omega) hq cx hV mk_2_129 ⟨Nat.le_of_ble_eq_true rfl, Nat.le_of_ble_eq_true rfl⟩ ⟨Nat.zero_le _, Nat.zero_le _⟩ hl.1 (Nat.le_of_ble_eq_true rfl) dX5_begin_8 (fun H locs hV => ?_)
    refine lv_aload_n hx hb dX5_begin_11 rfl (lv_at hl 0 rfl) ?_
    refine G_X5_line cx hV ht mk_1_125 dX5_begin_12 ?_
    refine bd_e h (fun σ2 hq h => ?_)
    refine k_X2_fillByNumber (by omega) hq cx hV mk_2_137 ⟨Nat.le_of_ble_eq_true rfl, Nat.le_of_ble_eq_true rfl⟩ ⟨Nat.zero_le _, Nat.zero_le _⟩ hl.1 (Nat.le_of_ble_eq_true rfl) dX5_begin_15 (fun H locs hV => ?_)
    refine lv_aload_n hx hb dX5_begin_18 rfl (lv_at hl 0 rfl) ?_
    refine G_X5_discs cx hV ht mk_1_127 dX5_begin_19 ?_
    refine lv_aload_n hx hb dX5_begin_22 rfl (lv_at hl 1 rfl) ?_
    refine G_X7_discs cx hV ht1 mk_1_78 dX5_begin_23 ?_
    refine bd_e h (fun σ3 hq h => ?_)
    refine k_X2_copy (by omega) (by omega) hq cx hV mk_2_129 ⟨Nat.le_of_ble_eq_true rfl, Nat.le_of_ble_eq_true rfl⟩ ⟨Nat.zero_le _, Nat.zero_le _⟩ hl.1 (Nat.le_of_ble_eq_true rfl) dX5_begin_26 (fun H locs hV => ?_)
    refine lv_aload_n hx hb dX5_begin_29 rfl (lv_at hl 0 rfl) ?_
    refine G_X5_dividers cx hV ht mk_1_130 dX5_begin_30 ?_
    refine bd_e h (fun σ4 hq h => ?_)
    refine k_X2_fillByNumber (by omega) hq cx hV mk_2_137 ⟨Nat.le_of_ble_eq_true rfl, Nat.le_of_ble_eq_true rfl⟩ ⟨Nat.zero_le _, Nat.zero_le _⟩ hl.1 (Nat.le_of_ble_eq_true rfl) dX5_begin_33 (fun H locs hV => ?_)
    have h1 := Option.some.inj h
    subst h1
    subst hQ
    exact r_vret cx hr hlk hV dX5_begin_36
  rw [hH, hlocs] at goal
  exact goal
theorem k_X5_begin {p : Program} {l : Launch} {e : Env} {R : Room} {s : State} {m : MethodId} {a : Array Value} {below : List Frame} {meth : Method} {c : Code} {H : Heap} {locs : List Loc} {cells slots : Nat} {Q : State → Prop} {cc : ByteArray} {own : String} {nL pc : Nat} {ls : Array Slot} {rest : List Value} {A : Nat → Prop} {E : EV} {X : va_W} {σ : St} {t : Nat} {t1 : Nat} {σf : St} (ht : t < 5) (ht1 : t1 < 2) (h : x_X5_begin t t1 σ = some σf) (cx : CallFix p m c cc nL s a TBL own) (hV : AtW E (wC E σ ++ X) A s H locs) {idx : Nat} (w1 : Cond.methodLink own idx yX5_begin ∈ TBL) (hR : (rm_X5_begin).frames + 1 ≤ R.frames ∧ 8 + (2 + 11) + (rm_X5_begin).locals ≤ R.locals) (hcs : cells ≤ R.cells ∧ slots ≤ R.slots) (hls : ls.size = nL) (hcat : (rest.map fun v => v.category).sum ≤ 8) (d : decode cc pc = .ok (.invokevirtual idx, 3)) (kk : ∀ (H1 : Heap) (locs1 : List Loc), AtW E (wC E σf ++ X) A s H1 locs1 → W p l e R s m a below meth c H1 locs1 cells slots Q (F0 m (pc + 3) ls (rest))) : W p l e R s m a below meth c H locs cells slots Q (F0 m pc ls (.ref (eA E (pT t1)) :: .ref (eA E (pS t)) :: rest)) :=
  r_callv (n := 1) (As := [.ref (eA E (pT t1))]) (q0 := (pS t)) (ci := 5) (qq := (RX5, TX5, 4)) (c_X5_begin ht ht1 h) wC_fst (wC_S ht) rfl mk_2_126 mk_2_127 mk_1_4 mk_2_128 (by decide +kernel) rfl ⟨rfl, rfl⟩ cx hV w1 hR hcs hls rfl hcat d kk
def x_X5_inRow_L5 (t : Nat) (p1 : Int32) (p2 : Int32) (σ : St) (u1 : Int32) (u2 : Int32) : Option ((Bool × (Int32 × Int32)) ⊕ Int32) :=
  (if 24 ≤ u2 then
  some (.inl (false, (u1, u2)))
  else
  bd (x_X2_at (15 + 4 * t + 1) u2 σ) fun v3 =>
  bd (x_X2_at (15 + 4 * t) v3 σ) fun v4 =>
  (if v4 = p1 then
  (if u1 = p2 then
  some (.inr v3)
  else
  some (.inl (true, ((u1 + 1), (u2 + 1)))))
  else
  some (.inl (true, (u1, (u2 + 1))))))
def x_X5_inRow (t : Nat) (p1 : Int32) (p2 : Int32) (σ : St) : Option Int32 :=
  bs2 (lpr (fun v : (Int32 × Int32) => x_X5_inRow_L5 t p1 p2 σ v.1 v.2) FU (0, 0)) (fun z5 z6 =>
  some (-1)) some
abbrev rm_X5_inRow : Room := { frames := 1, cells := 0, slots := 0, locals := 21 }
set_option maxHeartbeats 4000000 in
set_option maxRecDepth 100000 in
theorem c_X5_inRow {l : Launch} {E : EV} {X : va_W} {σ : St} {t : Nat} {p1 : Int32} {p2 : Int32} {rv : Int32} (ht : t < 5) (h : x_X5_inRow t p1 p2 σ = some rv) : CM l yX5_inRow cX5_inRow 6 (some .int) rm_X5_inRow [.ref (eA E (pS t)), .int p1, .int p2] E (wC E σ ++ X) (wC E σ ++ X) (qI rv) := by
  refine CM.start (by decide) (Nat.le_of_ble_eq_true rfl) (fun p e s m a below meth c A ls cx hr hlk hV hl => ?_)
  have cx : CallFix p m c cX5_inRow 6 s a TBL RX5 := cx
  have hx := cx.1
  have hb := cx.2.1
  have hl : lv_has ls 6 [(0, .ref (eA E (pS t))), (1, .int p1), (2, .int p2)] := hl
  generalize hQ : EQ E (wC E σ ++ X) (qI rv) A s a below = QQ
  obtain ⟨H, hH⟩ : ∃ H, H = s.heap := ⟨_, rfl⟩
  obtain ⟨locs, hlocs⟩ : ∃ z, z = ([] : List Loc) := ⟨_, rfl⟩
  have hV : AtW E (wC E σ ++ X) A s H locs := by rw [hH, hlocs]; exact hV
  have goal : W p l e rm_X5_inRow s m a below meth c H locs 0 0 QQ (F0 m 0 ls []) := by
    unfold x_X5_inRow at h
    refine lv_iconst (v := 0) hx hb dX5_inRow_0 (by decide) ?_
    refine lv_istore_n (lv' := [(3, .int 0), (0, .ref (eA E (pS t))), (1, .int p1), (2, .int p2)]) hx hb dX5_inRow_1 rfl hl (by decide) rfl (fun ls hl => ?_)
    refine lv_iconst (v := 0) hx hb dX5_inRow_2 (by decide) ?_
    refine lv_istore (lv' := [(4, .int 0), (3, .int 0), (0, .ref (eA E (pS t))), (1, .int p1), (2, .int p2)]) hx hb dX5_inRow_3 hl (by decide) rfl (fun ls hl => ?_)
    obtain ⟨o1, ho⟩ := bs2_get h
    rw [ho] at h
    refine (lpr_rule (G := (fun v : (Int32 × Int32) => ∀ (H : Heap) (locs : List Loc) (ls : Array Slot), AtW E (wC E σ ++ X) A s H locs → lv_has ls 6 [(0, .ref (eA E (pS t))), (1, .int p1), (2, .int p2), (3, .int v.1), (4, .int v.2)] → W p l e rm_X5_inRow s m a below meth c H locs 0 0 QQ (F0 m 5 ls []))) (K := (fun v : (Int32 × Int32) => ∀ (H : Heap) (locs : List Loc) (ls : Array Slot), AtW E (wC E σ ++ X) A s H locs → lv_has ls 6 [] → W p l e rm_X5_inRow s m a below meth c H locs 0 0 QQ (F0 m 53 ls []))) (KR := (fun r => some r = some rv)) (fun v e1 h hT1 hF1 hR1 => ?_) ho (fun v hv => ?_) (fun r hv => ?_)) _ _ _ hV (lv_sub hl [2, 3, 4, 1, 0] rfl)
    · obtain ⟨u1, u2⟩ := v
      have h : x_X5_inRow_L5 t p1 p2 σ u1 u2 = some e1 := h
      intro H locs ls hV hl
      have hV : AtW E (wC E σ ++ X) A s H locs := hV
      have hl : lv_has ls 6 [(0, .ref (eA E (pS t))), (1, .int p1), (2, .int p2), (3, .int u1), (4, .int u2)] := hl
      unfold x_X5_inRow_L5 at h
      refine lv_iload hx hb dX5_inRow_5 (lv_at hl 4 rfl) ?_
      refine lv_bipush (v := 24) hx hb dX5_inRow_7 (by decide) ?_
      refine lv_icmp_ge (tgt := 53) hx hb dX5_inRow_9 (by decide) (fun hc => ?_) (fun hc => ?_)
      · have h := ifp hc h
        cases h
        exact hF1 _ rfl _ _ _ hV (lv_sub hl [] rfl)
      · have h := ifn hc h
        refine lv_aload_n hx hb dX5_inRow_12 rfl (lv_at hl 0 rfl) ?_
        refine G_X5_line cx hV ht mk_1_125 dX5_inRow_13 ?_
        refine lv_iload hx hb dX5_inRow_16 (lv_at hl 4 rfl) ?_
        refine bd_e h (fun v3 hq h => ?_)
        refine k_X2_at (by omega) hq cx hV mk_3_14 ⟨Nat.le_of_ble_eq_true rfl, Nat.le_of_ble_eq_true rfl⟩ ⟨Nat.zero_le _, Nat.zero_le _⟩ hl.1 (Nat.le_of_ble_eq_true rfl) dX5_inRow_18 (fun H locs hV => ?_)
        refine lv_istore (lv' := [(5, .int v3), (0, .ref (eA E (pS t))), (1, .int p1), (2, .int p2), (3, .int u1), (4, .int u2)]) hx hb dX5_inRow_21 hl (by decide) rfl (fun ls hl => ?_)
        refine lv_aload_n hx hb dX5_inRow_23 rfl (lv_at hl 1 rfl) ?_
        refine G_X5_where cx hV ht mk_1_121 dX5_inRow_24 ?_
        refine lv_iload hx hb dX5_inRow_27 (lv_at hl 0 rfl) ?_
        refine bd_e h (fun v4 hq h => ?_)
        refine k_X2_at (by omega) hq cx hV mk_3_14 ⟨Nat.le_of_ble_eq_true rfl, Nat.le_of_ble_eq_true rfl⟩ ⟨Nat.zero_le _, Nat.zero_le _⟩ hl.1 (Nat.le_of_ble_eq_true rfl) dX5_inRow_29 (fun H locs hV => ?_)
        refine lv_iload_n hx hb dX5_inRow_32 rfl (lv_at hl 2 rfl) ?_
        refine lv_icmp_ne (tgt := 47) hx hb dX5_inRow_33 (by decide) (fun hc => ?_) (fun hc => ?_)
        · have h := ifn hc h
          refine lv_iinc (v := (u2 + 1)) (lv' := [(4, .int (u2 + 1)), (5, .int v3), (0, .ref (eA E (pS t))), (1, .int p1), (2, .int p2), (3, .int u1)]) hx hb dX5_inRow_47 hl (k := 5) rfl rfl (by decide) rfl (fun ls hl => ?_)
          refine lv_goto (tgt := 5) hx hb dX5_inRow_50 (by decide) ?_
          cases h
          exact hT1 _ rfl _ _ _ hV (lv_sub hl [2, 3, 4, 5, 0] rfl)
        · have h := ifp hc h
          refine lv_iload_n hx hb dX5_inRow_36 rfl (lv_at hl 4 rfl) ?_
          refine lv_iload_n hx hb dX5_inRow_37 rfl (lv_at hl 3 rfl) ?_
          refine lv_icmp_ne (tgt := 44) hx hb dX5_inRow_38 (by decide) (fun hc => ?_) (fun hc => ?_)
          · have h := ifn hc h
            refine lv_iinc (v := (u1 + 1)) (lv' := [(3, .int (u1 + 1)), (5, .int v3), (0, .ref (eA E (pS t))), (1, .int p1), (2, .int p2), (4, .int u2)]) hx hb dX5_inRow_44 hl (k := 4) rfl rfl (by decide) rfl (fun ls hl => ?_)
            refine lv_iinc (v := (u2 + 1)) (lv' := [(4, .int (u2 + 1)), (3, .int (u1 + 1)), (5, .int v3), (0, .ref (eA E (pS t))), (1, .int p1), (2, .int p2)]) hx hb dX5_inRow_47 hl (k := 5) rfl rfl (by decide) rfl (fun ls hl => ?_)
            refine lv_goto (tgt := 5) hx hb dX5_inRow_50 (by decide) ?_
            cases h
            exact hT1 _ rfl _ _ _ hV (lv_sub hl [3, 4, 5, 1, 0] rfl)
          · have h := ifp hc h
            refine lv_iload hx hb dX5_inRow_41 (lv_at hl 0 rfl) ?_
            cases h
            have h := hR1 _ rfl
            cases h
            subst hQ
            exact r_ireti cx hr hlk hV dX5_inRow_43
    · subst hv
      obtain ⟨z5, z6⟩ := v
      intro H locs ls hV hl
      have hV : AtW E (wC E σ ++ X) A s H locs := hV
      have hl : lv_has ls 6 [] := hl
      have h := bs2_inl h
      refine lv_iconst (v := (-1)) hx hb dX5_inRow_53 (by decide) ?_
      have h1 := Option.some.inj h
      subst h1
      subst hQ
      exact r_ireti cx hr hlk hV dX5_inRow_54
    · subst hv
      exact bs2_inr h
  rw [hH, hlocs] at goal
  exact goal
theorem k_X5_inRow {p : Program} {l : Launch} {e : Env} {R : Room} {s : State} {m : MethodId} {a : Array Value} {below : List Frame} {meth : Method} {c : Code} {H : Heap} {locs : List Loc} {cells slots : Nat} {Q : State → Prop} {cc : ByteArray} {own : String} {nL pc : Nat} {ls : Array Slot} {rest : List Value} {A : Nat → Prop} {E : EV} {X : va_W} {σ : St} {t : Nat} {p1 : Int32} {p2 : Int32} {rv : Int32} (ht : t < 5) (h : x_X5_inRow t p1 p2 σ = some rv) (cx : CallFix p m c cc nL s a TBL own) (hV : AtW E (wC E σ ++ X) A s H locs) {idx : Nat} (w1 : Cond.methodLink own idx yX5_inRow ∈ TBL) (hR : (rm_X5_inRow).frames + 1 ≤ R.frames ∧ 8 + (6 + 11) + (rm_X5_inRow).locals ≤ R.locals) (hcs : cells ≤ R.cells ∧ slots ≤ R.slots) (hls : ls.size = nL) (hcat : (rest.map fun v => v.category).sum ≤ 8) (d : decode cc pc = .ok (.invokevirtual idx, 3)) (kk : ∀ (H1 : Heap) (locs1 : List Loc), AtW E (wC E σ ++ X) A s H1 locs1 → W p l e R s m a below meth c H1 locs1 cells slots Q (F0 m (pc + 3) ls (.int rv :: rest))) : W p l e R s m a below meth c H locs cells slots Q (F0 m pc ls (.int p2 :: .int p1 :: .ref (eA E (pS t)) :: rest)) :=
  r_calli (n := 2) (As := [.int p1, .int p2]) (q0 := (pS t)) (ci := 5) (qq := (RX5, TX5, 4)) (c_X5_inRow ht h) rfl (wC_S ht) rfl mk_4_226 mk_4_227 mk_1_4 mk_4_228 (by decide +kernel) rfl ⟨rfl, rfl⟩ cx hV w1 hR hcs hls rfl hcat d kk
def x_X5_sold_L4 (t : Nat) (p1 : Int32) (σ : St) (u1 : Int32) (u2 : Int32) : Option (Bool × (Int32 × Int32)) :=
  (if p1 ≤ u2 then
  some (false, (u1, u2))
  else
  bd (x_X5_lies t u2 σ) fun v3 =>
  (if v3 = 0 then
  some (true, ((u1 + 1), (u2 + 1)))
  else
  some (true, (u1, (u2 + 1)))))
def x_X5_sold (t : Nat) (p1 : Int32) (σ : St) : Option Int32 :=
  bd2 (lp (fun v : (Int32 × Int32) => x_X5_sold_L4 t p1 σ v.1 v.2) FU (0, 0)) fun z4 z5 =>
  some z4
abbrev rm_X5_sold : Room := { frames := 2, cells := 0, slots := 0, locals := 42 }
set_option maxHeartbeats 4000000 in
set_option maxRecDepth 100000 in
theorem c_X5_sold {l : Launch} {E : EV} {X : va_W} {σ : St} {t : Nat} {p1 : Int32} {rv : Int32} (ht : t < 5) (h : x_X5_sold t p1 σ = some rv) : CM l yX5_sold cX5_sold 4 (some .int) rm_X5_sold [.ref (eA E (pS t)), .int p1] E (wC E σ ++ X) (wC E σ ++ X) (qI rv) := by
  refine CM.start (by decide) (Nat.le_of_ble_eq_true rfl) (fun p e s m a below meth c A ls cx hr hlk hV hl => ?_)
  have cx : CallFix p m c cX5_sold 4 s a TBL RX5 := cx
  have hx := cx.1
  have hb := cx.2.1
  have hl : lv_has ls 4 [(0, .ref (eA E (pS t))), (1, .int p1)] := hl
  generalize hQ : EQ E (wC E σ ++ X) (qI rv) A s a below = QQ
  obtain ⟨H, hH⟩ : ∃ H, H = s.heap := ⟨_, rfl⟩
  obtain ⟨locs, hlocs⟩ : ∃ z, z = ([] : List Loc) := ⟨_, rfl⟩
  have hV : AtW E (wC E σ ++ X) A s H locs := by rw [hH, hlocs]; exact hV
  have goal : W p l e rm_X5_sold s m a below meth c H locs 0 0 QQ (F0 m 0 ls []) := by
    unfold x_X5_sold at h
    refine lv_iconst (v := 0) hx hb dX5_sold_0 (by decide) ?_
    refine lv_istore_n (lv' := [(2, .int 0), (0, .ref (eA E (pS t))), (1, .int p1)]) hx hb dX5_sold_1 rfl hl (by decide) rfl (fun ls hl => ?_)
    refine lv_iconst (v := 0) hx hb dX5_sold_2 (by decide) ?_
    refine lv_istore_n (lv' := [(3, .int 0), (2, .int 0), (0, .ref (eA E (pS t))), (1, .int p1)]) hx hb dX5_sold_3 rfl hl (by decide) rfl (fun ls hl => ?_)
    refine bd2_e h (fun z4 z5 ho h => ?_)
    refine (lp_rule (G := (fun v : (Int32 × Int32) => ∀ (H : Heap) (locs : List Loc) (ls : Array Slot), AtW E (wC E σ ++ X) A s H locs → lv_has ls 4 [(0, .ref (eA E (pS t))), (1, .int p1), (2, .int v.1), (3, .int v.2)] → W p l e rm_X5_sold s m a below meth c H locs 0 0 QQ (F0 m 4 ls []))) (K := (fun v : (Int32 × Int32) => ∀ (H : Heap) (locs : List Loc) (ls : Array Slot), AtW E (wC E σ ++ X) A s H locs → lv_has ls 4 [(2, .int v.1)] → W p l e rm_X5_sold s m a below meth c H locs 0 0 QQ (F0 m 26 ls []))) (fun v b1 y1 h hT1 hF1 => ?_) ho (fun H locs ls hV hl => ?_)) _ _ _ hV (lv_sub hl [2, 3, 1, 0] rfl)
    · obtain ⟨u1, u2⟩ := v
      have h : x_X5_sold_L4 t p1 σ u1 u2 = some (b1, y1) := h
      intro H locs ls hV hl
      have hV : AtW E (wC E σ ++ X) A s H locs := hV
      have hl : lv_has ls 4 [(0, .ref (eA E (pS t))), (1, .int p1), (2, .int u1), (3, .int u2)] := hl
      unfold x_X5_sold_L4 at h
      refine lv_iload_n hx hb dX5_sold_4 rfl (lv_at hl 3 rfl) ?_
      refine lv_iload_n hx hb dX5_sold_5 rfl (lv_at hl 1 rfl) ?_
      refine lv_icmp_ge (tgt := 26) hx hb dX5_sold_6 (by decide) (fun hc => ?_) (fun hc => ?_)
      · have h := ifp hc h
        cases h
        exact hF1 rfl _ _ _ hV (lv_sub hl [2] rfl)
      · have h := ifn hc h
        refine lv_aload_n hx hb dX5_sold_9 rfl (lv_at hl 0 rfl) ?_
        refine lv_iload_n hx hb dX5_sold_10 rfl (lv_at hl 3 rfl) ?_
        refine bd_e h (fun v3 hq h => ?_)
        refine k_X5_lies ht hq cx hV mk_3_102 ⟨Nat.le_of_ble_eq_true rfl, Nat.le_of_ble_eq_true rfl⟩ ⟨Nat.zero_le _, Nat.zero_le _⟩ hl.1 (Nat.le_of_ble_eq_true rfl) dX5_sold_11 (fun H locs hV => ?_)
        refine lv_if_ne (tgt := 20) hx hb dX5_sold_14 (by decide) (fun hc => ?_) (fun hc => ?_)
        · have h := ifn hc h
          refine lv_iinc (v := (u2 + 1)) (lv' := [(3, .int (u2 + 1)), (0, .ref (eA E (pS t))), (1, .int p1), (2, .int u1)]) hx hb dX5_sold_20 hl (k := 3) rfl rfl (by decide) rfl (fun ls hl => ?_)
          refine lv_goto (tgt := 4) hx hb dX5_sold_23 (by decide) ?_
          cases h
          exact hT1 rfl _ _ _ hV (lv_sub hl [1, 2, 3, 0] rfl)
        · have h := ifp hc h
          refine lv_iinc (v := (u1 + 1)) (lv' := [(2, .int (u1 + 1)), (0, .ref (eA E (pS t))), (1, .int p1), (3, .int u2)]) hx hb dX5_sold_17 hl (k := 2) rfl rfl (by decide) rfl (fun ls hl => ?_)
          refine lv_iinc (v := (u2 + 1)) (lv' := [(3, .int (u2 + 1)), (2, .int (u1 + 1)), (0, .ref (eA E (pS t))), (1, .int p1)]) hx hb dX5_sold_20 hl (k := 3) rfl rfl (by decide) rfl (fun ls hl => ?_)
          refine lv_goto (tgt := 4) hx hb dX5_sold_23 (by decide) ?_
          cases h
          exact hT1 rfl _ _ _ hV (lv_sub hl [2, 3, 1, 0] rfl)
    · have hV : AtW E (wC E σ ++ X) A s H locs := hV
      have hl : lv_has ls 4 [(2, .int z4)] := hl
      refine lv_iload_n hx hb dX5_sold_26 rfl (lv_at hl 0 rfl) ?_
      have h1 := Option.some.inj h
      subst h1
      subst hQ
      exact r_ireti cx hr hlk hV dX5_sold_27
  rw [hH, hlocs] at goal
  exact goal
theorem k_X5_sold {p : Program} {l : Launch} {e : Env} {R : Room} {s : State} {m : MethodId} {a : Array Value} {below : List Frame} {meth : Method} {c : Code} {H : Heap} {locs : List Loc} {cells slots : Nat} {Q : State → Prop} {cc : ByteArray} {own : String} {nL pc : Nat} {ls : Array Slot} {rest : List Value} {A : Nat → Prop} {E : EV} {X : va_W} {σ : St} {t : Nat} {p1 : Int32} {rv : Int32} (ht : t < 5) (h : x_X5_sold t p1 σ = some rv) (cx : CallFix p m c cc nL s a TBL own) (hV : AtW E (wC E σ ++ X) A s H locs) {idx : Nat} (w1 : Cond.methodLink own idx yX5_sold ∈ TBL) (hR : (rm_X5_sold).frames + 1 ≤ R.frames ∧ 8 + (4 + 11) + (rm_X5_sold).locals ≤ R.locals) (hcs : cells ≤ R.cells ∧ slots ≤ R.slots) (hls : ls.size = nL) (hcat : (rest.map fun v => v.category).sum ≤ 8) (d : decode cc pc = .ok (.invokevirtual idx, 3)) (kk : ∀ (H1 : Heap) (locs1 : List Loc), AtW E (wC E σ ++ X) A s H1 locs1 → W p l e R s m a below meth c H1 locs1 cells slots Q (F0 m (pc + 3) ls (.int rv :: rest))) : W p l e R s m a below meth c H locs cells slots Q (F0 m pc ls (.int p1 :: .ref (eA E (pS t)) :: rest)) :=
  r_calli (n := 1) (As := [.int p1]) (q0 := (pS t)) (ci := 5) (qq := (RX5, TX5, 4)) (c_X5_sold ht h) rfl (wC_S ht) rfl mk_3_167 mk_3_168 mk_1_4 mk_3_169 (by decide +kernel) rfl ⟨rfl, rfl⟩ cx hV w1 hR hcs hls rfl hcat d kk
def x_X5_offOwn (t : Nat) (t1 : Nat) (p2 : Int32) (σ : St) : Option Int32 :=
  bd (x_X5_lies t p2 σ) fun v1 =>
  (if v1 = 0 then
  some 0
  else
  bd (x_X2_at (15 + 4 * t) p2 σ) fun v2 =>
  bd (x_X7_ofSleeve t1 p2 3 σ) fun v3 =>
  some (abI (v2 - v3)))
abbrev rm_X5_offOwn : Room := { frames := 2, cells := 0, slots := 0, locals := 43 }
set_option maxHeartbeats 4000000 in
set_option maxRecDepth 100000 in
theorem c_X5_offOwn {l : Launch} {E : EV} {X : va_W} {σ : St} {t : Nat} {t1 : Nat} {p2 : Int32} {rv : Int32} (ht : t < 5) (ht1 : t1 < 2) (h : x_X5_offOwn t t1 p2 σ = some rv) : CM l yX5_offOwn cX5_offOwn 3 (some .int) rm_X5_offOwn [.ref (eA E (pS t)), .ref (eA E (pT t1)), .int p2] E (wC E σ ++ X) (wC E σ ++ X) (qI rv) := by
  refine CM.start (by decide) (Nat.le_of_ble_eq_true rfl) (fun p e s m a below meth c A ls cx hr hlk hV hl => ?_)
  have cx : CallFix p m c cX5_offOwn 3 s a TBL RX5 := cx
  have hx := cx.1
  have hb := cx.2.1
  have hl : lv_has ls 3 [(0, .ref (eA E (pS t))), (1, .ref (eA E (pT t1))), (2, .int p2)] := hl
  generalize hQ : EQ E (wC E σ ++ X) (qI rv) A s a below = QQ
  obtain ⟨H, hH⟩ : ∃ H, H = s.heap := ⟨_, rfl⟩
  obtain ⟨locs, hlocs⟩ : ∃ z, z = ([] : List Loc) := ⟨_, rfl⟩
  have hV : AtW E (wC E σ ++ X) A s H locs := by rw [hH, hlocs]; exact hV
  have goal : W p l e rm_X5_offOwn s m a below meth c H locs 0 0 QQ (F0 m 0 ls []) := by
    unfold x_X5_offOwn at h
    refine lv_aload_n hx hb dX5_offOwn_0 rfl (lv_at hl 0 rfl) ?_
    refine lv_iload_n hx hb dX5_offOwn_1 rfl (lv_at hl 2 rfl) ?_
    refine bd_e h (fun v1 hq h => ?_)
    refine k_X5_lies ht hq cx hV mk_3_102 ⟨Nat.le_of_ble_eq_true rfl, Nat.le_of_ble_eq_true rfl⟩ ⟨Nat.zero_le _, Nat.zero_le _⟩ hl.1 (Nat.le_of_ble_eq_true rfl) dX5_offOwn_2 (fun H locs hV => ?_)
    refine lv_if_eq (tgt := 29) hx hb dX5_offOwn_5 (by decide) (fun hc => ?_) (fun hc => ?_)
    · have h := ifp hc h
      refine lv_iconst (v := 0) hx hb dX5_offOwn_29 (by decide) ?_
      have h1 := Option.some.inj h
      subst h1
      subst hQ
      exact r_ireti cx hr hlk hV dX5_offOwn_30
    · have h := ifn hc h
      refine lv_aload_n hx hb dX5_offOwn_8 rfl (lv_at hl 0 rfl) ?_
      refine G_X5_where cx hV ht mk_1_121 dX5_offOwn_9 ?_
      refine lv_iload_n hx hb dX5_offOwn_12 rfl (lv_at hl 2 rfl) ?_
      refine bd_e h (fun v2 hq h => ?_)
      refine k_X2_at (by omega) hq cx hV mk_3_14 ⟨Nat.le_of_ble_eq_true rfl, Nat.le_of_ble_eq_true rfl⟩ ⟨Nat.zero_le _, Nat.zero_le _⟩ hl.1 (Nat.le_of_ble_eq_true rfl) dX5_offOwn_13 (fun H locs hV => ?_)
      refine lv_aload_n hx hb dX5_offOwn_16 rfl (lv_at hl 1 rfl) ?_
      refine lv_iload_n hx hb dX5_offOwn_17 rfl (lv_at hl 2 rfl) ?_
      refine lv_iconst (v := 3) hx hb dX5_offOwn_18 (by decide) ?_
      refine bd_e h (fun v3 hq h => ?_)
      refine k_X7_ofSleeve ht1 hq cx hV mk_3_106 ⟨Nat.le_of_ble_eq_true rfl, Nat.le_of_ble_eq_true rfl⟩ ⟨Nat.zero_le _, Nat.zero_le _⟩ hl.1 (Nat.le_of_ble_eq_true rfl) dX5_offOwn_19 (fun H locs hV => ?_)
      refine lv_isub hx hb dX5_offOwn_22 ?_
      refine r_abs cx hl.1 mk_3_107 mk_3_108 mk_1_20 mk_3_109 (Nat.le_of_ble_eq_true rfl) (Nat.le_of_ble_eq_true rfl) ⟨Nat.zero_le _, Nat.zero_le _⟩ dX5_offOwn_23 ?_
      refine lv_goto (tgt := 30) hx hb dX5_offOwn_26 (by decide) ?_
      have h1 := Option.some.inj h
      subst h1
      subst hQ
      exact r_ireti cx hr hlk hV dX5_offOwn_30
  rw [hH, hlocs] at goal
  exact goal
theorem k_X5_offOwn {p : Program} {l : Launch} {e : Env} {R : Room} {s : State} {m : MethodId} {a : Array Value} {below : List Frame} {meth : Method} {c : Code} {H : Heap} {locs : List Loc} {cells slots : Nat} {Q : State → Prop} {cc : ByteArray} {own : String} {nL pc : Nat} {ls : Array Slot} {rest : List Value} {A : Nat → Prop} {E : EV} {X : va_W} {σ : St} {t : Nat} {t1 : Nat} {p2 : Int32} {rv : Int32} (ht : t < 5) (ht1 : t1 < 2) (h : x_X5_offOwn t t1 p2 σ = some rv) (cx : CallFix p m c cc nL s a TBL own) (hV : AtW E (wC E σ ++ X) A s H locs) {idx : Nat} (w1 : Cond.methodLink own idx yX5_offOwn ∈ TBL) (hR : (rm_X5_offOwn).frames + 1 ≤ R.frames ∧ 8 + (3 + 11) + (rm_X5_offOwn).locals ≤ R.locals) (hcs : cells ≤ R.cells ∧ slots ≤ R.slots) (hls : ls.size = nL) (hcat : (rest.map fun v => v.category).sum ≤ 8) (d : decode cc pc = .ok (.invokevirtual idx, 3)) (kk : ∀ (H1 : Heap) (locs1 : List Loc), AtW E (wC E σ ++ X) A s H1 locs1 → W p l e R s m a below meth c H1 locs1 cells slots Q (F0 m (pc + 3) ls (.int rv :: rest))) : W p l e R s m a below meth c H locs cells slots Q (F0 m pc ls (.int p2 :: .ref (eA E (pT t1)) :: .ref (eA E (pS t)) :: rest)) :=
  r_calli (n := 2) (As := [.ref (eA E (pT t1)), .int p2]) (q0 := (pS t)) (ci := 5) (qq := (RX5, TX5, 4)) (c_X5_offOwn ht ht1 h) rfl (wC_S ht) rfl mk_3_99 mk_3_100 mk_1_4 mk_3_101 (by decide +kernel) rfl ⟨rfl, rfl⟩ cx hV w1 hR hcs hls rfl hcat d kk
def x_X5_allOff_L4 (t : Nat) (t1 : Nat) (σ : St) (u1 : Int32) (u2 : Int32) : Option (Bool × (Int32 × Int32)) :=
  (if (gI σ (4 * t1 + 1)) ≤ u2 then
  some (false, (u1, u2))
  else
  bd (x_X5_offOwn t t1 u2 σ) fun v3 =>
  some (true, ((u1 + v3), (u2 + 1))))
def x_X5_allOff (t : Nat) (t1 : Nat) (σ : St) : Option Int32 :=
  bd2 (lp (fun v : (Int32 × Int32) => x_X5_allOff_L4 t t1 σ v.1 v.2) FU (0, 0)) fun z4 z5 =>
  some z4
abbrev rm_X5_allOff : Room := { frames := 3, cells := 0, slots := 0, locals := 65 }
set_option maxHeartbeats 4000000 in
set_option maxRecDepth 100000 in
theorem c_X5_allOff {l : Launch} {E : EV} {X : va_W} {σ : St} {t : Nat} {t1 : Nat} {rv : Int32} (ht : t < 5) (ht1 : t1 < 2) (h : x_X5_allOff t t1 σ = some rv) : CM l yX5_allOff cX5_allOff 4 (some .int) rm_X5_allOff [.ref (eA E (pS t)), .ref (eA E (pT t1))] E (wC E σ ++ X) (wC E σ ++ X) (qI rv) := by
  refine CM.start (by decide) (Nat.le_of_ble_eq_true rfl) (fun p e s m a below meth c A ls cx hr hlk hV hl => ?_)
  have cx : CallFix p m c cX5_allOff 4 s a TBL RX5 := cx
  have hx := cx.1
  have hb := cx.2.1
  have hl : lv_has ls 4 [(0, .ref (eA E (pS t))), (1, .ref (eA E (pT t1)))] := hl
  generalize hQ : EQ E (wC E σ ++ X) (qI rv) A s a below = QQ
  obtain ⟨H, hH⟩ : ∃ H, H = s.heap := ⟨_, rfl⟩
  obtain ⟨locs, hlocs⟩ : ∃ z, z = ([] : List Loc) := ⟨_, rfl⟩
  have hV : AtW E (wC E σ ++ X) A s H locs := by rw [hH, hlocs]; exact hV
  have goal : W p l e rm_X5_allOff s m a below meth c H locs 0 0 QQ (F0 m 0 ls []) := by
    unfold x_X5_allOff at h
    refine lv_iconst (v := 0) hx hb dX5_allOff_0 (by decide) ?_
    refine lv_istore_n (lv' := [(2, .int 0), (0, .ref (eA E (pS t))), (1, .ref (eA E (pT t1)))]) hx hb dX5_allOff_1 rfl hl (by decide) rfl (fun ls hl => ?_)
    refine lv_iconst (v := 0) hx hb dX5_allOff_2 (by decide) ?_
    refine lv_istore_n (lv' := [(3, .int 0), (2, .int 0), (0, .ref (eA E (pS t))), (1, .ref (eA E (pT t1)))]) hx hb dX5_allOff_3 rfl hl (by decide) rfl (fun ls hl => ?_)
    refine bd2_e h (fun z4 z5 ho h => ?_)
    refine (lp_rule (G := (fun v : (Int32 × Int32) => ∀ (H : Heap) (locs : List Loc) (ls : Array Slot), AtW E (wC E σ ++ X) A s H locs → lv_has ls 4 [(0, .ref (eA E (pS t))), (1, .ref (eA E (pT t1))), (2, .int v.1), (3, .int v.2)] → W p l e rm_X5_allOff s m a below meth c H locs 0 0 QQ (F0 m 4 ls []))) (K := (fun v : (Int32 × Int32) => ∀ (H : Heap) (locs : List Loc) (ls : Array Slot), AtW E (wC E σ ++ X) A s H locs → lv_has ls 4 [(2, .int v.1)] → W p l e rm_X5_allOff s m a below meth c H locs 0 0 QQ (F0 m 27 ls []))) (fun v b1 y1 h hT1 hF1 => ?_) ho (fun H locs ls hV hl => ?_)) _ _ _ hV (lv_sub hl [2, 3, 1, 0] rfl)
    · obtain ⟨u1, u2⟩ := v
      have h : x_X5_allOff_L4 t t1 σ u1 u2 = some (b1, y1) := h
      intro H locs ls hV hl
      have hV : AtW E (wC E σ ++ X) A s H locs := hV
      have hl : lv_has ls 4 [(0, .ref (eA E (pS t))), (1, .ref (eA E (pT t1))), (2, .int u1), (3, .int u2)] := hl
      unfold x_X5_allOff_L4 at h
      refine lv_iload_n hx hb dX5_allOff_4 rfl (lv_at hl 3 rfl) ?_
      refine lv_aload_n hx hb dX5_allOff_5 rfl (lv_at hl 1 rfl) ?_
      refine G_X7_sleeves cx hV ht1 mk_1_61 dX5_allOff_6 ?_
      refine lv_icmp_ge (tgt := 27) hx hb dX5_allOff_9 (by decide) (fun hc => ?_) (fun hc => ?_)
      · have h := ifp hc h
        cases h
        exact hF1 rfl _ _ _ hV (lv_sub hl [2] rfl)
      · have h := ifn hc h
        refine lv_iload_n hx hb dX5_allOff_12 rfl (lv_at hl 2 rfl) ?_
        refine lv_aload_n hx hb dX5_allOff_13 rfl (lv_at hl 0 rfl) ?_
        refine lv_aload_n hx hb dX5_allOff_14 rfl (lv_at hl 1 rfl) ?_
        refine lv_iload_n hx hb dX5_allOff_15 rfl (lv_at hl 3 rfl) ?_
        refine bd_e h (fun v3 hq h => ?_)
        refine k_X5_offOwn ht ht1 hq cx hV mk_3_120 ⟨Nat.le_of_ble_eq_true rfl, Nat.le_of_ble_eq_true rfl⟩ ⟨Nat.zero_le _, Nat.zero_le _⟩ hl.1 (Nat.le_of_ble_eq_true rfl) dX5_allOff_16 (fun H locs hV => ?_)
        refine lv_iadd hx hb dX5_allOff_19 ?_
        refine lv_istore_n (lv' := [(2, .int (u1 + v3)), (0, .ref (eA E (pS t))), (1, .ref (eA E (pT t1))), (3, .int u2)]) hx hb dX5_allOff_20 rfl hl (by decide) rfl (fun ls hl => ?_)
        refine lv_iinc (v := (u2 + 1)) (lv' := [(3, .int (u2 + 1)), (2, .int (u1 + v3)), (0, .ref (eA E (pS t))), (1, .ref (eA E (pT t1)))]) hx hb dX5_allOff_21 hl (k := 3) rfl rfl (by decide) rfl (fun ls hl => ?_)
        refine lv_goto (tgt := 4) hx hb dX5_allOff_24 (by decide) ?_
        cases h
        exact hT1 rfl _ _ _ hV (lv_sub hl [2, 3, 1, 0] rfl)
    · have hV : AtW E (wC E σ ++ X) A s H locs := hV
      have hl : lv_has ls 4 [(2, .int z4)] := hl
      refine lv_iload_n hx hb dX5_allOff_27 rfl (lv_at hl 0 rfl) ?_
      have h1 := Option.some.inj h
      subst h1
      subst hQ
      exact r_ireti cx hr hlk hV dX5_allOff_28
  rw [hH, hlocs] at goal
  exact goal
theorem k_X5_allOff {p : Program} {l : Launch} {e : Env} {R : Room} {s : State} {m : MethodId} {a : Array Value} {below : List Frame} {meth : Method} {c : Code} {H : Heap} {locs : List Loc} {cells slots : Nat} {Q : State → Prop} {cc : ByteArray} {own : String} {nL pc : Nat} {ls : Array Slot} {rest : List Value} {A : Nat → Prop} {E : EV} {X : va_W} {σ : St} {t : Nat} {t1 : Nat} {rv : Int32} (ht : t < 5) (ht1 : t1 < 2) (h : x_X5_allOff t t1 σ = some rv) (cx : CallFix p m c cc nL s a TBL own) (hV : AtW E (wC E σ ++ X) A s H locs) {idx : Nat} (w1 : Cond.methodLink own idx yX5_allOff ∈ TBL) (hR : (rm_X5_allOff).frames + 1 ≤ R.frames ∧ 8 + (4 + 11) + (rm_X5_allOff).locals ≤ R.locals) (hcs : cells ≤ R.cells ∧ slots ≤ R.slots) (hls : ls.size = nL) (hcat : (rest.map fun v => v.category).sum ≤ 8) (d : decode cc pc = .ok (.invokevirtual idx, 3)) (kk : ∀ (H1 : Heap) (locs1 : List Loc), AtW E (wC E σ ++ X) A s H1 locs1 → W p l e R s m a below meth c H1 locs1 cells slots Q (F0 m (pc + 3) ls (.int rv :: rest))) : W p l e R s m a below meth c H locs cells slots Q (F0 m pc ls (.ref (eA E (pT t1)) :: .ref (eA E (pS t)) :: rest)) :=
  r_calli (n := 1) (As := [.ref (eA E (pT t1))]) (q0 := (pS t)) (ci := 5) (qq := (RX5, TX5, 4)) (c_X5_allOff ht ht1 h) rfl (wC_S ht) rfl mk_3_117 mk_3_118 mk_1_4 mk_3_119 (by decide +kernel) rfl ⟨rfl, rfl⟩ cx hV w1 hR hcs hls rfl hcat d kk
