def x_X3_skipBlanks_L0 (σ1 : St) : Option (Bool × St) :=
  (if (gI σ1 12) ≤ (gI σ1 13) then
  some (false, σ1)
  else
  bd (x_X2_at 0 (gI σ1 13) σ1) fun v2 =>
  (if v2 = 32 then
  bd (some (sI σ1 13 ((gI σ1 13) + 1))) fun σ3 =>
  some (true, σ3)
  else
  some (false, σ1)))
def x_X3_skipBlanks (σ : St) : Option St :=
  bd (lp (fun v : St => x_X3_skipBlanks_L0 v) FU σ) fun σ4 =>
  some σ4
abbrev rm_X3_skipBlanks : Room := { frames := 1, cells := 0, slots := 0, locals := 21 }
set_option maxHeartbeats 4000000 in
set_option maxRecDepth 100000 in
theorem c_X3_skipBlanks {l : Launch} {E : EV} {X : va_W} {σ : St} {σf : St} (h : x_X3_skipBlanks σ = some σf) : CM l yX3_skipBlanks cX3_skipBlanks 1 none rm_X3_skipBlanks [.ref (eA E 57)] E (wC E σ ++ X) (wC E σf ++ X) qV := by
  refine CM.start (by decide) (Nat.le_of_ble_eq_true rfl) (fun p e s m a below meth c A ls cx hr hlk hV hl => ?_)
  have cx : CallFix p m c cX3_skipBlanks 1 s a TBL RX3 := cx
  have hx := cx.1
  have hb := cx.2.1
  have hl : lv_has ls 1 [(0, .ref (eA E 57))] := hl
  generalize hQ : EQ E (wC E σf ++ X) qV A s a below = QQ
  obtain ⟨H, hH⟩ : ∃ H, H = s.heap := ⟨_, rfl⟩
  obtain ⟨locs, hlocs⟩ : ∃ z, z = ([] : List Loc) := ⟨_, rfl⟩
  have hV : AtW E (wC E σ ++ X) A s H locs := by rw [hH, hlocs]; exact hV
  have goal : W p l e rm_X3_skipBlanks s m a below meth c H locs 0 0 QQ (F0 m 0 ls []) := by
    unfold x_X3_skipBlanks at h
    refine bd_e h (fun σ4 ho h => ?_)
    refine (lp_rule (G := (fun v : St => ∀ (H : Heap) (locs : List Loc) (ls : Array Slot), AtW E (wC E v ++ X) A s H locs → lv_has ls 1 [(0, .ref (eA E 57))] → W p l e rm_X3_skipBlanks s m a below meth c H locs 0 0 QQ (F0 m 0 ls []))) (K := (fun v : St => ∀ (H : Heap) (locs : List Loc) (ls : Array Slot), AtW E (wC E v ++ X) A s H locs → lv_has ls 1 [] → W p l e rm_X3_skipBlanks s m a below meth c H locs 0 0 QQ (F0 m 40 ls []))) (fun v b1 y1 h hT1 hF1 => ?_) ho (fun H locs ls hV hl => ?_)) _ _ _ hV (lv_sub hl [0] rfl)
    · obtain ⟨σ1, rfl⟩ : ∃ z, z = v := ⟨_, rfl⟩
      have h : x_X3_skipBlanks_L0 σ1 = some (b1, y1) := h
      intro H locs ls hV hl
      have hV : AtW E (wC E σ1 ++ X) A s H locs := hV
      have hl : lv_has ls 1 [(0, .ref (eA E 57))] := hl
      unfold x_X3_skipBlanks_L0 at h
      refine lv_aload_n hx hb dX3_skipBlanks_0 rfl (lv_at hl 0 rfl) ?_
      refine G_X3_at cx hV mk_1_156 dX3_skipBlanks_1 ?_
      refine lv_aload_n hx hb dX3_skipBlanks_4 rfl (lv_at hl 0 rfl) ?_
      refine G_X3_end cx hV mk_1_155 dX3_skipBlanks_5 ?_
      refine lv_icmp_ge (tgt := 40) hx hb dX3_skipBlanks_8 (by decide) (fun hc => ?_) (fun hc => ?_)
      · have h := ifp hc h
        cases h
        exact hF1 rfl _ _ _ hV (lv_sub hl [] rfl)
      · have h := ifn hc h
        refine lv_aload_n hx hb dX3_skipBlanks_11 rfl (lv_at hl 0 rfl) ?_
        refine G_X3_tape cx hV mk_1_154 dX3_skipBlanks_12 ?_
        refine lv_aload_n hx hb dX3_skipBlanks_15 rfl (lv_at hl 0 rfl) ?_
        refine G_X3_at cx hV mk_1_156 dX3_skipBlanks_16 ?_
        refine bd_e h (fun v2 hq h => ?_)
        refine k_X2_at (by decide) hq cx hV mk_4_21 ⟨Nat.le_of_ble_eq_true rfl, Nat.le_of_ble_eq_true rfl⟩ ⟨Nat.zero_le _, Nat.zero_le _⟩ hl.1 (Nat.le_of_ble_eq_true rfl) dX3_skipBlanks_19 (fun H locs hV => ?_)
        refine lv_bipush (v := 32) hx hb dX3_skipBlanks_22 (by decide) ?_
        refine lv_icmp_ne (tgt := 40) hx hb dX3_skipBlanks_24 (by decide) (fun hc => ?_) (fun hc => ?_)
        · have h := ifn hc h
          cases h
          exact hF1 rfl _ _ _ hV (lv_sub hl [] rfl)
        · have h := ifp hc h
          refine lv_aload_n hx hb dX3_skipBlanks_27 rfl (lv_at hl 0 rfl) ?_
          refine lv_dup hx hb dX3_skipBlanks_28 rfl ?_
          refine G_X3_at cx hV mk_1_156 dX3_skipBlanks_29 ?_
          refine lv_iconst (v := 1) hx hb dX3_skipBlanks_32 (by decide) ?_
          refine lv_iadd hx hb dX3_skipBlanks_33 ?_
          refine bd_e h (fun σ3 hq h => ?_)
          refine P_X3_at cx hV hq mk_1_156 dX3_skipBlanks_34 (fun H locs hV => ?_)
          refine lv_goto (tgt := 0) hx hb dX3_skipBlanks_37 (by decide) ?_
          cases h
          exact hT1 rfl _ _ _ hV (lv_sub hl [0] rfl)
    · have hV : AtW E (wC E σ4 ++ X) A s H locs := hV
      have hl : lv_has ls 1 [] := hl
      have h1 := Option.some.inj h
      subst h1
      subst hQ
      exact r_vret cx hr hlk hV dX3_skipBlanks_40
  rw [hH, hlocs] at goal
  exact goal
theorem k_X3_skipBlanks {p : Program} {l : Launch} {e : Env} {R : Room} {s : State} {m : MethodId} {a : Array Value} {below : List Frame} {meth : Method} {c : Code} {H : Heap} {locs : List Loc} {cells slots : Nat} {Q : State → Prop} {cc : ByteArray} {own : String} {nL pc : Nat} {ls : Array Slot} {rest : List Value} {A : Nat → Prop} {E : EV} {X : va_W} {σ : St} {σf : St} (h : x_X3_skipBlanks σ = some σf) (cx : CallFix p m c cc nL s a TBL own) (hV : AtW E (wC E σ ++ X) A s H locs) {idx : Nat} (w1 : Cond.methodLink own idx yX3_skipBlanks ∈ TBL) (hR : (rm_X3_skipBlanks).frames + 1 ≤ R.frames ∧ 8 + (1 + 11) + (rm_X3_skipBlanks).locals ≤ R.locals) (hcs : cells ≤ R.cells ∧ slots ≤ R.slots) (hls : ls.size = nL) (hcat : (rest.map fun v => v.category).sum ≤ 8) (d : decode cc pc = .ok (.invokevirtual idx, 3)) (kk : ∀ (H1 : Heap) (locs1 : List Loc), AtW E (wC E σf ++ X) A s H1 locs1 → W p l e R s m a below meth c H1 locs1 cells slots Q (F0 m (pc + 3) ls (rest))) : W p l e R s m a below meth c H locs cells slots Q (F0 m pc ls (.ref (eA E 57) :: rest)) :=
  r_callv (n := 0) (As := []) (q0 := 57) (ci := 3) (qq := (RX3, TX3, 9)) (c_X3_skipBlanks h) wC_fst rfl rfl mk_4_19 mk_P_17 mk_1_5 mk_4_20 (by decide +kernel) rfl ⟨rfl, rfl⟩ cx hV w1 hR hcs hls rfl hcat d kk
def x_X3_wordOf (p1 : Int32) : Option Nat :=
  (if p1 = 0 then
  some 0
  else
  (if p1 = 1 then
  some 1
  else
  (if p1 = 2 then
  some 2
  else
  (if p1 = 3 then
  some 3
  else
  (if p1 = 4 then
  some 4
  else
  (if p1 = 5 then
  some 5
  else
  (if p1 = 6 then
  some 6
  else
  (if p1 = 7 then
  some 7
  else
  some 8))))))))
abbrev rm_X3_wordOf : Room := { frames := 0, cells := 0, slots := 0, locals := 0 }
set_option maxHeartbeats 4000000 in
set_option maxRecDepth 100000 in
theorem c_X3_wordOf {l : Launch} {E : EV} {V : va_W} {p1 : Int32} {rv : Nat} (h : x_X3_wordOf p1 = some rv) : CMF l yX3_wordOf cX3_wordOf 1 (some (.object "java/lang/String")) rm_X3_wordOf [.int p1] E V V (qQ (some (adS E rv))) := by
  refine CMF.start (by decide) (Nat.le_of_ble_eq_true rfl) (fun p e s m a below meth c A ls cx hr hlk hV hF hl => ?_)
  have cx : CallFix p m c cX3_wordOf 1 s a TBL RX3 := cx
  have hx := cx.1
  have hb := cx.2.1
  have hl : lv_has ls 1 [(0, .int p1)] := hl
  generalize hQ : EQ E V (qQ (some (adS E rv))) A s a below = QQ
  obtain ⟨H, hH⟩ : ∃ H, H = s.heap := ⟨_, rfl⟩
  obtain ⟨locs, hlocs⟩ : ∃ z, z = ([] : List Loc) := ⟨_, rfl⟩
  have hV : AtW E V A s H locs := by rw [hH, hlocs]; exact hV
  have goal : W p l e rm_X3_wordOf s m a below meth c H locs 0 0 QQ (F0 m 0 ls []) := by
    unfold x_X3_wordOf at h
    refine lv_iload_n hx hb dX3_wordOf_0 rfl (lv_at hl 0 rfl) ?_
    by_cases hc0 : p1 = 0
    · have h := ifp hc0 h
      refine r_swIn (tgt := 48) cx hc0 dX3_wordOf_1 (by decide) (by decide) rfl (by decide) ?_
      refine va_ldcS hx hb cx.2.2.2.1 (hF.2.2.2.2.1 0 (by decide)) dX3_wordOf_48 ?_
      have h1 := Option.some.inj h
      subst h1
      subst hQ
      exact r_aretq (r := some (adS E 0)) cx hr hlk hV dX3_wordOf_50
    have h := ifn hc0 h
    by_cases hc1 : p1 = 1
    · have h := ifp hc1 h
      refine r_swIn (tgt := 51) cx hc1 dX3_wordOf_1 (by decide) (by decide) rfl (by decide) ?_
      refine va_ldcS hx hb cx.2.2.2.1 (hF.2.2.2.2.1 1 (by decide)) dX3_wordOf_51 ?_
      have h1 := Option.some.inj h
      subst h1
      subst hQ
      exact r_aretq (r := some (adS E 1)) cx hr hlk hV dX3_wordOf_53
    have h := ifn hc1 h
    by_cases hc2 : p1 = 2
    · have h := ifp hc2 h
      refine r_swIn (tgt := 54) cx hc2 dX3_wordOf_1 (by decide) (by decide) rfl (by decide) ?_
      refine va_ldcS hx hb cx.2.2.2.1 (hF.2.2.2.2.1 2 (by decide)) dX3_wordOf_54 ?_
      have h1 := Option.some.inj h
      subst h1
      subst hQ
      exact r_aretq (r := some (adS E 2)) cx hr hlk hV dX3_wordOf_56
    have h := ifn hc2 h
    by_cases hc3 : p1 = 3
    · have h := ifp hc3 h
      refine r_swIn (tgt := 57) cx hc3 dX3_wordOf_1 (by decide) (by decide) rfl (by decide) ?_
      refine va_ldcS hx hb cx.2.2.2.1 (hF.2.2.2.2.1 3 (by decide)) dX3_wordOf_57 ?_
      have h1 := Option.some.inj h
      subst h1
      subst hQ
      exact r_aretq (r := some (adS E 3)) cx hr hlk hV dX3_wordOf_59
    have h := ifn hc3 h
    by_cases hc4 : p1 = 4
    · have h := ifp hc4 h
      refine r_swIn (tgt := 60) cx hc4 dX3_wordOf_1 (by decide) (by decide) rfl (by decide) ?_
      refine va_ldcS hx hb cx.2.2.2.1 (hF.2.2.2.2.1 4 (by decide)) dX3_wordOf_60 ?_
      have h1 := Option.some.inj h
      subst h1
      subst hQ
      exact r_aretq (r := some (adS E 4)) cx hr hlk hV dX3_wordOf_62
    have h := ifn hc4 h
    by_cases hc5 : p1 = 5
    · have h := ifp hc5 h
      refine r_swIn (tgt := 63) cx hc5 dX3_wordOf_1 (by decide) (by decide) rfl (by decide) ?_
      refine va_ldcS hx hb cx.2.2.2.1 (hF.2.2.2.2.1 5 (by decide)) dX3_wordOf_63 ?_
      have h1 := Option.some.inj h
      subst h1
      subst hQ
      exact r_aretq (r := some (adS E 5)) cx hr hlk hV dX3_wordOf_65
    have h := ifn hc5 h
    by_cases hc6 : p1 = 6
    · have h := ifp hc6 h
      refine r_swIn (tgt := 66) cx hc6 dX3_wordOf_1 (by decide) (by decide) rfl (by decide) ?_
      refine va_ldcS hx hb cx.2.2.2.1 (hF.2.2.2.2.1 6 (by decide)) dX3_wordOf_66 ?_
      have h1 := Option.some.inj h
      subst h1
      subst hQ
      exact r_aretq (r := some (adS E 6)) cx hr hlk hV dX3_wordOf_68
    have h := ifn hc6 h
    by_cases hc7 : p1 = 7
    · have h := ifp hc7 h
      refine r_swIn (tgt := 69) cx hc7 dX3_wordOf_1 (by decide) (by decide) rfl (by decide) ?_
      refine va_ldcS hx hb cx.2.2.2.1 (hF.2.2.2.2.1 7 (by decide)) dX3_wordOf_69 ?_
      have h1 := Option.some.inj h
      subst h1
      subst hQ
      exact r_aretq (r := some (adS E 7)) cx hr hlk hV dX3_wordOf_71
    have h := ifn hc7 h
    have hout : (p1).toInt < 0 ∨ 7 < (p1).toInt := by
      have g0 := lv_neT hc0 (a := 0) rfl
      have g1 := lv_neT hc1 (a := 1) rfl
      have g2 := lv_neT hc2 (a := 2) rfl
      have g3 := lv_neT hc3 (a := 3) rfl
      have g4 := lv_neT hc4 (a := 4) rfl
      have g5 := lv_neT hc5 (a := 5) rfl
      have g6 := lv_neT hc6 (a := 6) rfl
      have g7 := lv_neT hc7 (a := 7) rfl
      omega
    refine lv_tableOut (tgt := 72) hx hb dX3_wordOf_1 hout (by decide) ?_
    refine va_ldcS hx hb cx.2.2.2.1 (hF.2.2.2.2.1 8 (by decide)) dX3_wordOf_72 ?_
    have h1 := Option.some.inj h
    subst h1
    subst hQ
    exact r_aretq (r := some (adS E 8)) cx hr hlk hV dX3_wordOf_74
  rw [hH, hlocs] at goal
  exact goal
theorem k_X3_wordOf {p : Program} {l : Launch} {e : Env} {R : Room} {s : State} {m : MethodId} {a : Array Value} {below : List Frame} {meth : Method} {c : Code} {H : Heap} {locs : List Loc} {cells slots : Nat} {Q : State → Prop} {cc : ByteArray} {own : String} {nL pc : Nat} {ls : Array Slot} {rest : List Value} {A : Nat → Prop} {E : EV} {V : va_W} {p1 : Int32} {rv : Nat} (h : x_X3_wordOf p1 = some rv) (cx : CallFix p m c cc nL s a TBL own) (hV : AtW E V A s H locs) (hF : FZ E A s s.heap) {idx : Nat} (w1 : Cond.methodLink own idx yX3_wordOf ∈ TBL) (hR : (rm_X3_wordOf).frames + 1 ≤ R.frames ∧ 8 + (1 + 11) + (rm_X3_wordOf).locals ≤ R.locals) (hcs : cells ≤ R.cells ∧ slots ≤ R.slots) (hls : ls.size = nL) (hcat : (rest.map fun v => v.category).sum ≤ 8) (d : decode cc pc = .ok (.invokestatic idx, 3)) (kk : ∀ (H1 : Heap) (locs1 : List Loc), AtW E V A s H1 locs1 → W p l e R s m a below meth c H1 locs1 cells slots Q (F0 m (pc + 3) ls (.ref (adS E rv) :: rest))) : W p l e R s m a below meth c H locs cells slots Q (F0 m pc ls (.int p1 :: rest)) :=
  r_stFq (n := 1) (As := [.int p1]) (c_X3_wordOf h) rfl mk_4_31 mk_1_5 mk_4_32 (by decide +kernel) rfl ⟨rfl, rfl⟩ cx hV hF w1 hR hcs hls rfl hcat d kk
theorem wordOf_lt {c : Int32} {w : Nat} (h : x_X3_wordOf c = some w) : w < 9 := by
  unfold x_X3_wordOf at h
  repeat (split at h; (first | (cases h; decide) | skip))
  cases h; decide
def x_X3_stands_L17 (i2 : Nat) (p1 : Int32) (σ : St) (u2 : Int32) : Option ((Bool × Int32) ⊕ Int32) :=
  bd (x_J0_length_8abf5 i2) fun v3 =>
  (if v3 ≤ u2 then
  some (.inl (false, u2))
  else
  bd (x_X2_at 0 (p1 + u2) σ) fun v4 =>
  bd (x_J0_charAt_5068e i2 u2) fun v5 =>
  (if v4 = v5 then
  some (.inl (true, (u2 + 1)))
  else
  some (.inr 0)))
def x_X3_stands (i2 : Nat) (p1 : Int32) (σ : St) : Option Int32 :=
  bd (x_J0_length_8abf5 i2) fun v1 =>
  (if ((gI σ 13) - p1) = v1 then
  bs (lpr (fun v : Int32 => x_X3_stands_L17 i2 p1 σ v) FU 0) (fun z6 =>
  some 1) some
  else
  some 0)
abbrev rm_X3_stands : Room := { frames := 4, cells := 0, slots := 0, locals := 85 }
set_option maxHeartbeats 4000000 in
set_option maxRecDepth 100000 in
theorem c_X3_stands {l : Launch} {E : EV} {X : va_W} {σ : St} {i2 : Nat} {p1 : Int32} {rv : Int32} (hi2 : i2 < 9) (h : x_X3_stands i2 p1 σ = some rv) : CMF l yX3_stands cX3_stands 4 (some .boolean) rm_X3_stands [.ref (eA E 57), .int p1, .ref (adS E i2)] E (wC E σ ++ X) (wC E σ ++ X) (qI rv) := by
  refine CMF.start (by decide) (Nat.le_of_ble_eq_true rfl) (fun p e s m a below meth c A ls cx hr hlk hV hF hl => ?_)
  have cx : CallFix p m c cX3_stands 4 s a TBL RX3 := cx
  have hx := cx.1
  have hb := cx.2.1
  have hl : lv_has ls 4 [(0, .ref (eA E 57)), (1, .int p1), (2, .ref (adS E i2))] := hl
  generalize hQ : EQ E (wC E σ ++ X) (qI rv) A s a below = QQ
  obtain ⟨H, hH⟩ : ∃ H, H = s.heap := ⟨_, rfl⟩
  obtain ⟨locs, hlocs⟩ : ∃ z, z = ([] : List Loc) := ⟨_, rfl⟩
  have hV : AtW E (wC E σ ++ X) A s H locs := by rw [hH, hlocs]; exact hV
  have goal : W p l e rm_X3_stands s m a below meth c H locs 0 0 QQ (F0 m 0 ls []) := by
    unfold x_X3_stands at h
    refine lv_aload_n hx hb dX3_stands_0 rfl (lv_at hl 0 rfl) ?_
    refine G_X3_at cx hV mk_1_156 dX3_stands_1 ?_
    refine lv_iload_n hx hb dX3_stands_4 rfl (lv_at hl 1 rfl) ?_
    refine lv_isub hx hb dX3_stands_5 ?_
    refine lv_aload_n hx hb dX3_stands_6 rfl (lv_at hl 2 rfl) ?_
    refine bd_e h (fun v1 hq h => ?_)
    refine k_J0_length_8abf5 hi2 hq cx hV hF mk_4_46 ⟨Nat.le_of_ble_eq_true rfl, Nat.le_of_ble_eq_true rfl⟩ ⟨Nat.zero_le _, Nat.zero_le _⟩ hl.1 (Nat.le_of_ble_eq_true rfl) dX3_stands_7 (fun H locs hV => ?_)
    refine lv_icmp_eq (tgt := 15) hx hb dX3_stands_10 (by decide) (fun hc => ?_) (fun hc => ?_)
    · have h := ifp hc h
      refine lv_iconst (v := 0) hx hb dX3_stands_15 (by decide) ?_
      refine lv_istore_n (lv' := [(3, .int 0), (0, .ref (eA E 57)), (1, .int p1), (2, .ref (adS E i2))]) hx hb dX3_stands_16 rfl hl (by decide) rfl (fun ls hl => ?_)
      obtain ⟨o1, ho⟩ := bs_get h
      rw [ho] at h
      refine (lpr_rule (G := (fun v : Int32 => ∀ (H : Heap) (locs : List Loc) (ls : Array Slot), AtW E (wC E σ ++ X) A s H locs → lv_has ls 4 [(0, .ref (eA E 57)), (1, .int p1), (2, .ref (adS E i2)), (3, .int v)] → W p l e rm_X3_stands s m a below meth c H locs 0 0 QQ (F0 m 17 ls []))) (K := (fun v : Int32 => ∀ (H : Heap) (locs : List Loc) (ls : Array Slot), AtW E (wC E σ ++ X) A s H locs → lv_has ls 4 [] → W p l e rm_X3_stands s m a below meth c H locs 0 0 QQ (F0 m 51 ls []))) (KR := (fun r => some r = some rv)) (fun v e1 h hT1 hF1 hR1 => ?_) ho (fun v hv => ?_) (fun r hv => ?_)) _ _ _ hV (lv_sub hl [1, 2, 3, 0] rfl)
      · obtain ⟨u2, rfl⟩ : ∃ z, z = v := ⟨_, rfl⟩
        have h : x_X3_stands_L17 i2 p1 σ u2 = some e1 := h
        intro H locs ls hV hl
        have hV : AtW E (wC E σ ++ X) A s H locs := hV
        have hl : lv_has ls 4 [(0, .ref (eA E 57)), (1, .int p1), (2, .ref (adS E i2)), (3, .int u2)] := hl
        unfold x_X3_stands_L17 at h
        refine lv_iload_n hx hb dX3_stands_17 rfl (lv_at hl 3 rfl) ?_
        refine lv_aload_n hx hb dX3_stands_18 rfl (lv_at hl 2 rfl) ?_
        refine bd_e h (fun v3 hq h => ?_)
        refine k_J0_length_8abf5 hi2 hq cx hV hF mk_4_46 ⟨Nat.le_of_ble_eq_true rfl, Nat.le_of_ble_eq_true rfl⟩ ⟨Nat.zero_le _, Nat.zero_le _⟩ hl.1 (Nat.le_of_ble_eq_true rfl) dX3_stands_19 (fun H locs hV => ?_)
        refine lv_icmp_ge (tgt := 51) hx hb dX3_stands_22 (by decide) (fun hc => ?_) (fun hc => ?_)
        · have h := ifp hc h
          cases h
          exact hF1 _ rfl _ _ _ hV (lv_sub hl [] rfl)
        · have h := ifn hc h
          refine lv_aload_n hx hb dX3_stands_25 rfl (lv_at hl 0 rfl) ?_
          refine G_X3_tape cx hV mk_1_154 dX3_stands_26 ?_
          refine lv_iload_n hx hb dX3_stands_29 rfl (lv_at hl 1 rfl) ?_
          refine lv_iload_n hx hb dX3_stands_30 rfl (lv_at hl 3 rfl) ?_
          refine lv_iadd hx hb dX3_stands_31 ?_
          refine bd_e h (fun v4 hq h => ?_)
          refine k_X2_at (by decide) hq cx hV mk_4_21 ⟨Nat.le_of_ble_eq_true rfl, Nat.le_of_ble_eq_true rfl⟩ ⟨Nat.zero_le _, Nat.zero_le _⟩ hl.1 (Nat.le_of_ble_eq_true rfl) dX3_stands_32 (fun H locs hV => ?_)
          refine lv_aload_n hx hb dX3_stands_35 rfl (lv_at hl 2 rfl) ?_
          refine lv_iload_n hx hb dX3_stands_36 rfl (lv_at hl 3 rfl) ?_
          refine bd_e h (fun v5 hq h => ?_)
          refine k_J0_charAt_5068e hi2 hq cx hV hF mk_4_56 ⟨Nat.le_of_ble_eq_true rfl, Nat.le_of_ble_eq_true rfl⟩ ⟨Nat.zero_le _, Nat.zero_le _⟩ hl.1 (Nat.le_of_ble_eq_true rfl) dX3_stands_37 (fun H locs hV => ?_)
          refine lv_icmp_eq (tgt := 45) hx hb dX3_stands_40 (by decide) (fun hc => ?_) (fun hc => ?_)
          · have h := ifp hc h
            refine lv_iinc (v := (u2 + 1)) (lv' := [(3, .int (u2 + 1)), (0, .ref (eA E 57)), (1, .int p1), (2, .ref (adS E i2))]) hx hb dX3_stands_45 hl (k := 3) rfl rfl (by decide) rfl (fun ls hl => ?_)
            refine lv_goto (tgt := 17) hx hb dX3_stands_48 (by decide) ?_
            cases h
            exact hT1 _ rfl _ _ _ hV (lv_sub hl [1, 2, 3, 0] rfl)
          · have h := ifn hc h
            refine lv_iconst (v := 0) hx hb dX3_stands_43 (by decide) ?_
            cases h
            have h := hR1 _ rfl
            cases h
            subst hQ
            exact r_zreti cx hr hlk hV (Or.inl rfl) dX3_stands_44
      · subst hv
        obtain ⟨z6, rfl⟩ : ∃ z, z = v := ⟨_, rfl⟩
        intro H locs ls hV hl
        have hV : AtW E (wC E σ ++ X) A s H locs := hV
        have hl : lv_has ls 4 [] := hl
        have h := bs_inl h
        refine lv_iconst (v := 1) hx hb dX3_stands_51 (by decide) ?_
        have h1 := Option.some.inj h
        subst h1
        subst hQ
        exact r_zreti cx hr hlk hV (Or.inr rfl) dX3_stands_52
      · subst hv
        exact bs_inr h
    · have h := ifn hc h
      refine lv_iconst (v := 0) hx hb dX3_stands_13 (by decide) ?_
      have h1 := Option.some.inj h
      subst h1
      subst hQ
      exact r_zreti cx hr hlk hV (Or.inl rfl) dX3_stands_14
  rw [hH, hlocs] at goal
  exact goal
theorem k_X3_stands {p : Program} {l : Launch} {e : Env} {R : Room} {s : State} {m : MethodId} {a : Array Value} {below : List Frame} {meth : Method} {c : Code} {H : Heap} {locs : List Loc} {cells slots : Nat} {Q : State → Prop} {cc : ByteArray} {own : String} {nL pc : Nat} {ls : Array Slot} {rest : List Value} {A : Nat → Prop} {E : EV} {X : va_W} {σ : St} {i2 : Nat} {p1 : Int32} {rv : Int32} (hi2 : i2 < 9) (h : x_X3_stands i2 p1 σ = some rv) (cx : CallFix p m c cc nL s a TBL own) (hV : AtW E (wC E σ ++ X) A s H locs) (hF : FZ E A s s.heap) {idx : Nat} (w1 : Cond.methodLink own idx yX3_stands ∈ TBL) (hR : (rm_X3_stands).frames + 1 ≤ R.frames ∧ 8 + (4 + 11) + (rm_X3_stands).locals ≤ R.locals) (hcs : cells ≤ R.cells ∧ slots ≤ R.slots) (hls : ls.size = nL) (hcat : (rest.map fun v => v.category).sum ≤ 8) (d : decode cc pc = .ok (.invokevirtual idx, 3)) (kk : ∀ (H1 : Heap) (locs1 : List Loc), AtW E (wC E σ ++ X) A s H1 locs1 → W p l e R s m a below meth c H1 locs1 cells slots Q (F0 m (pc + 3) ls (.int rv :: rest))) : W p l e R s m a below meth c H locs cells slots Q (F0 m pc ls (.ref (adS E i2) :: .int p1 :: .ref (eA E 57) :: rest)) :=
  r_callFi (n := 2) (As := [.int p1, .ref (adS E i2)]) (q0 := 57) (ci := 3) (qq := (RX3, TX3, 9)) (c_X3_stands hi2 h) rfl rfl rfl mk_4_44 mk_P_20 mk_1_5 mk_4_45 (by decide +kernel) rfl ⟨rfl, rfl⟩ cx hV hF w1 hR hcs hls rfl hcat d kk
def x_X3_readWord_L5 (w1 : Int32) (σ2 : St) : Option (Bool × St) :=
  (if (gI σ2 12) ≤ (gI σ2 13) then
  some (false, σ2)
  else
  bd (x_X2_at 0 (gI σ2 13) σ2) fun v3 =>
  (if v3 < 97 then
  some (false, σ2)
  else
  bd (x_X2_at 0 (gI σ2 13) σ2) fun v4 =>
  (if 122 < v4 then
  some (false, σ2)
  else
  bd (some (sI σ2 13 ((gI σ2 13) + 1))) fun σ5 =>
  some (true, σ5))))
def x_X3_readWord_L63 (w1 : Int32) (σ6 : St) (u7 : Int32) : Option ((Bool × Int32) ⊕ (Int32 × St)) :=
  (if 9 ≤ u7 then
  some (.inl (false, u7))
  else
  bd (x_X3_wordOf u7) fun v8 =>
  bd (x_X3_stands v8 w1 σ6) fun v9 =>
  (if v9 = 0 then
  some (.inl (true, (u7 + 1)))
  else
  some (.inr (u7, σ6))))
def x_X3_readWord (σ : St) : Option (Int32 × St) :=
  bd (some (gI σ 13)) fun w1 =>
  bd (lp (fun v : St => x_X3_readWord_L5 w1 v) FU σ) fun σ6 =>
  bs (lpr (fun v : Int32 => x_X3_readWord_L63 w1 σ6 v) FU 0) (fun z10 =>
  some ((-1), σ6)) some
abbrev rm_X3_readWord : Room := { frames := 5, cells := 0, slots := 0, locals := 108 }
set_option maxHeartbeats 4000000 in
set_option maxRecDepth 100000 in
theorem c_X3_readWord {l : Launch} {E : EV} {X : va_W} {σ : St} {rv : Int32} {σf : St} (h : x_X3_readWord σ = some (rv, σf)) : CMF l yX3_readWord cX3_readWord 3 (some .int) rm_X3_readWord [.ref (eA E 57)] E (wC E σ ++ X) (wC E σf ++ X) (qI rv) := by
  refine CMF.start (by decide) (Nat.le_of_ble_eq_true rfl) (fun p e s m a below meth c A ls cx hr hlk hV hF hl => ?_)
  have cx : CallFix p m c cX3_readWord 3 s a TBL RX3 := cx
  have hx := cx.1
  have hb := cx.2.1
  have hl : lv_has ls 3 [(0, .ref (eA E 57))] := hl
  generalize hQ : EQ E (wC E σf ++ X) (qI rv) A s a below = QQ
  obtain ⟨H, hH⟩ : ∃ H, H = s.heap := ⟨_, rfl⟩
  obtain ⟨locs, hlocs⟩ : ∃ z, z = ([] : List Loc) := ⟨_, rfl⟩
  have hV : AtW E (wC E σ ++ X) A s H locs := by rw [hH, hlocs]; exact hV
  have goal : W p l e rm_X3_readWord s m a below meth c H locs 0 0 QQ (F0 m 0 ls []) := by
    unfold x_X3_readWord at h
    refine lv_aload_n hx hb dX3_readWord_0 rfl (lv_at hl 0 rfl) ?_
    refine G_X3_at cx hV mk_1_156 dX3_readWord_1 ?_
    refine lv_istore_n (lv' := [(1, .int (gI σ 13)), (0, .ref (eA E 57))]) hx hb dX3_readWord_4 rfl hl (by decide) rfl (fun ls hl => ?_)
    refine bd_e h (fun w1 hq h => ?_)
    have hq := Option.some.inj hq
    have hl : lv_has ls 3 [(1, .int w1), (0, .ref (eA E 57))] := by rw [← hq]; exact hl
    refine bd_e h (fun σ6 ho h => ?_)
    refine (lp_rule (G := (fun v : St => ∀ (H : Heap) (locs : List Loc) (ls : Array Slot), AtW E (wC E v ++ X) A s H locs → lv_has ls 3 [(0, .ref (eA E 57)), (1, .int w1)] → W p l e rm_X3_readWord s m a below meth c H locs 0 0 QQ (F0 m 5 ls []))) (K := (fun v : St => ∀ (H : Heap) (locs : List Loc) (ls : Array Slot), AtW E (wC E v ++ X) A s H locs → lv_has ls 3 [(0, .ref (eA E 57)), (1, .int w1)] → W p l e rm_X3_readWord s m a below meth c H locs 0 0 QQ (F0 m 61 ls []))) (fun v b1 y1 h hT1 hF1 => ?_) ho (fun H locs ls hV hl => ?_)) _ _ _ hV (lv_sub hl [1, 0] rfl)
    · obtain ⟨σ2, rfl⟩ : ∃ z, z = v := ⟨_, rfl⟩
      have h : x_X3_readWord_L5 w1 σ2 = some (b1, y1) := h
      intro H locs ls hV hl
      have hV : AtW E (wC E σ2 ++ X) A s H locs := hV
      have hl : lv_has ls 3 [(0, .ref (eA E 57)), (1, .int w1)] := hl
      unfold x_X3_readWord_L5 at h
      refine lv_aload_n hx hb dX3_readWord_5 rfl (lv_at hl 0 rfl) ?_
      refine G_X3_at cx hV mk_1_156 dX3_readWord_6 ?_
      refine lv_aload_n hx hb dX3_readWord_9 rfl (lv_at hl 0 rfl) ?_
      refine G_X3_end cx hV mk_1_155 dX3_readWord_10 ?_
      refine lv_icmp_ge (tgt := 61) hx hb dX3_readWord_13 (by decide) (fun hc => ?_) (fun hc => ?_)
      · have h := ifp hc h
        cases h
        exact hF1 rfl _ _ _ hV (lv_sub hl [0, 1] rfl)
      · have h := ifn hc h
        refine lv_aload_n hx hb dX3_readWord_16 rfl (lv_at hl 0 rfl) ?_
        refine G_X3_tape cx hV mk_1_154 dX3_readWord_17 ?_
        refine lv_aload_n hx hb dX3_readWord_20 rfl (lv_at hl 0 rfl) ?_
        refine G_X3_at cx hV mk_1_156 dX3_readWord_21 ?_
        refine bd_e h (fun v3 hq h => ?_)
        refine k_X2_at (by decide) hq cx hV mk_4_21 ⟨Nat.le_of_ble_eq_true rfl, Nat.le_of_ble_eq_true rfl⟩ ⟨Nat.zero_le _, Nat.zero_le _⟩ hl.1 (Nat.le_of_ble_eq_true rfl) dX3_readWord_24 (fun H locs hV => ?_)
        refine lv_bipush (v := 97) hx hb dX3_readWord_27 (by decide) ?_
        refine lv_icmp_lt (tgt := 61) hx hb dX3_readWord_29 (by decide) (fun hc => ?_) (fun hc => ?_)
        · have h := ifp hc h
          cases h
          exact hF1 rfl _ _ _ hV (lv_sub hl [0, 1] rfl)
        · have h := ifn hc h
          refine lv_aload_n hx hb dX3_readWord_32 rfl (lv_at hl 0 rfl) ?_
          refine G_X3_tape cx hV mk_1_154 dX3_readWord_33 ?_
          refine lv_aload_n hx hb dX3_readWord_36 rfl (lv_at hl 0 rfl) ?_
          refine G_X3_at cx hV mk_1_156 dX3_readWord_37 ?_
          refine bd_e h (fun v4 hq h => ?_)
          refine k_X2_at (by decide) hq cx hV mk_4_21 ⟨Nat.le_of_ble_eq_true rfl, Nat.le_of_ble_eq_true rfl⟩ ⟨Nat.zero_le _, Nat.zero_le _⟩ hl.1 (Nat.le_of_ble_eq_true rfl) dX3_readWord_40 (fun H locs hV => ?_)
          refine lv_bipush (v := 122) hx hb dX3_readWord_43 (by decide) ?_
          refine lv_icmp_gt (tgt := 61) hx hb dX3_readWord_45 (by decide) (fun hc => ?_) (fun hc => ?_)
          · have h := ifp hc h
            cases h
            exact hF1 rfl _ _ _ hV (lv_sub hl [0, 1] rfl)
          · have h := ifn hc h
            refine lv_aload_n hx hb dX3_readWord_48 rfl (lv_at hl 0 rfl) ?_
            refine lv_dup hx hb dX3_readWord_49 rfl ?_
            refine G_X3_at cx hV mk_1_156 dX3_readWord_50 ?_
            refine lv_iconst (v := 1) hx hb dX3_readWord_53 (by decide) ?_
            refine lv_iadd hx hb dX3_readWord_54 ?_
            refine bd_e h (fun σ5 hq h => ?_)
            refine P_X3_at cx hV hq mk_1_156 dX3_readWord_55 (fun H locs hV => ?_)
            refine lv_goto (tgt := 5) hx hb dX3_readWord_58 (by decide) ?_
            cases h
            exact hT1 rfl _ _ _ hV (lv_sub hl [0, 1] rfl)
    · have hV : AtW E (wC E σ6 ++ X) A s H locs := hV
      have hl : lv_has ls 3 [(0, .ref (eA E 57)), (1, .int w1)] := hl
      refine lv_iconst (v := 0) hx hb dX3_readWord_61 (by decide) ?_
      refine lv_istore_n (lv' := [(2, .int 0), (0, .ref (eA E 57)), (1, .int w1)]) hx hb dX3_readWord_62 rfl hl (by decide) rfl (fun ls hl => ?_)
      obtain ⟨o1, ho⟩ := bs_get h
      rw [ho] at h
      refine (lpr_rule (G := (fun v : Int32 => ∀ (H : Heap) (locs : List Loc) (ls : Array Slot), AtW E (wC E σ6 ++ X) A s H locs → lv_has ls 3 [(0, .ref (eA E 57)), (1, .int w1), (2, .int v)] → W p l e rm_X3_readWord s m a below meth c H locs 0 0 QQ (F0 m 63 ls []))) (K := (fun v : Int32 => ∀ (H : Heap) (locs : List Loc) (ls : Array Slot), AtW E (wC E σ6 ++ X) A s H locs → lv_has ls 3 [] → W p l e rm_X3_readWord s m a below meth c H locs 0 0 QQ (F0 m 89 ls []))) (KR := (fun r => some r = some (rv, σf))) (fun v e1 h hT1 hF1 hR1 => ?_) ho (fun v hv => ?_) (fun r hv => ?_)) _ _ _ hV (lv_sub hl [1, 2, 0] rfl)
      · obtain ⟨u7, rfl⟩ : ∃ z, z = v := ⟨_, rfl⟩
        have h : x_X3_readWord_L63 w1 σ6 u7 = some e1 := h
        intro H locs ls hV hl
        have hV : AtW E (wC E σ6 ++ X) A s H locs := hV
        have hl : lv_has ls 3 [(0, .ref (eA E 57)), (1, .int w1), (2, .int u7)] := hl
        unfold x_X3_readWord_L63 at h
        refine lv_iload_n hx hb dX3_readWord_63 rfl (lv_at hl 2 rfl) ?_
        refine lv_bipush (v := 9) hx hb dX3_readWord_64 (by decide) ?_
        refine lv_icmp_ge (tgt := 89) hx hb dX3_readWord_66 (by decide) (fun hc => ?_) (fun hc => ?_)
        · have h := ifp hc h
          cases h
          exact hF1 _ rfl _ _ _ hV (lv_sub hl [] rfl)
        · have h := ifn hc h
          refine lv_aload_n hx hb dX3_readWord_69 rfl (lv_at hl 0 rfl) ?_
          refine lv_iload_n hx hb dX3_readWord_70 rfl (lv_at hl 1 rfl) ?_
          refine lv_iload_n hx hb dX3_readWord_71 rfl (lv_at hl 2 rfl) ?_
          refine bd_e h (fun v8 hq h => ?_)
          have hv8 := wordOf_lt hq
          refine k_X3_wordOf hq cx hV hF mk_4_30 ⟨Nat.le_of_ble_eq_true rfl, Nat.le_of_ble_eq_true rfl⟩ ⟨Nat.zero_le _, Nat.zero_le _⟩ hl.1 (Nat.le_of_ble_eq_true rfl) dX3_readWord_72 (fun H locs hV => ?_)
          refine bd_e h (fun v9 hq h => ?_)
          refine k_X3_stands hv8 hq cx hV hF mk_4_42 ⟨Nat.le_of_ble_eq_true rfl, Nat.le_of_ble_eq_true rfl⟩ ⟨Nat.zero_le _, Nat.zero_le _⟩ hl.1 (Nat.le_of_ble_eq_true rfl) dX3_readWord_75 (fun H locs hV => ?_)
          refine lv_if_eq (tgt := 83) hx hb dX3_readWord_78 (by decide) (fun hc => ?_) (fun hc => ?_)
          · have h := ifp hc h
            refine lv_iinc (v := (u7 + 1)) (lv' := [(2, .int (u7 + 1)), (0, .ref (eA E 57)), (1, .int w1)]) hx hb dX3_readWord_83 hl (k := 2) rfl rfl (by decide) rfl (fun ls hl => ?_)
            refine lv_goto (tgt := 63) hx hb dX3_readWord_86 (by decide) ?_
            cases h
            exact hT1 _ rfl _ _ _ hV (lv_sub hl [1, 2, 0] rfl)
          · have h := ifn hc h
            refine lv_iload_n hx hb dX3_readWord_81 rfl (lv_at hl 2 rfl) ?_
            cases h
            have h := hR1 _ rfl
            cases h
            subst hQ
            exact r_ireti cx hr hlk hV dX3_readWord_82
      · subst hv
        obtain ⟨z10, rfl⟩ : ∃ z, z = v := ⟨_, rfl⟩
        intro H locs ls hV hl
        have hV : AtW E (wC E σ6 ++ X) A s H locs := hV
        have hl : lv_has ls 3 [] := hl
        have h := bs_inl h
        refine lv_iconst (v := (-1)) hx hb dX3_readWord_89 (by decide) ?_
        obtain ⟨h1, h2⟩ := Prod.mk.inj (Option.some.inj h)
        subst h1
        subst h2
        subst hQ
        exact r_ireti cx hr hlk hV dX3_readWord_90
      · subst hv
        exact bs_inr h
  rw [hH, hlocs] at goal
  exact goal
theorem k_X3_readWord {p : Program} {l : Launch} {e : Env} {R : Room} {s : State} {m : MethodId} {a : Array Value} {below : List Frame} {meth : Method} {c : Code} {H : Heap} {locs : List Loc} {cells slots : Nat} {Q : State → Prop} {cc : ByteArray} {own : String} {nL pc : Nat} {ls : Array Slot} {rest : List Value} {A : Nat → Prop} {E : EV} {X : va_W} {σ : St} {rv : Int32} {σf : St} (h : x_X3_readWord σ = some (rv, σf)) (cx : CallFix p m c cc nL s a TBL own) (hV : AtW E (wC E σ ++ X) A s H locs) (hF : FZ E A s s.heap) {idx : Nat} (w1 : Cond.methodLink own idx yX3_readWord ∈ TBL) (hR : (rm_X3_readWord).frames + 1 ≤ R.frames ∧ 8 + (3 + 11) + (rm_X3_readWord).locals ≤ R.locals) (hcs : cells ≤ R.cells ∧ slots ≤ R.slots) (hls : ls.size = nL) (hcat : (rest.map fun v => v.category).sum ≤ 8) (d : decode cc pc = .ok (.invokevirtual idx, 3)) (kk : ∀ (H1 : Heap) (locs1 : List Loc), AtW E (wC E σf ++ X) A s H1 locs1 → W p l e R s m a below meth c H1 locs1 cells slots Q (F0 m (pc + 3) ls (.int rv :: rest))) : W p l e R s m a below meth c H locs cells slots Q (F0 m pc ls (.ref (eA E 57) :: rest)) :=
  r_callFi (n := 0) (As := []) (q0 := 57) (ci := 3) (qq := (RX3, TX3, 9)) (c_X3_readWord h) wC_fst rfl rfl mk_4_28 mk_P_19 mk_1_5 mk_4_29 (by decide +kernel) rfl ⟨rfl, rfl⟩ cx hV hF w1 hR hcs hls rfl hcat d kk
def x_X3_faultOfWord_b82 (w1 : Int32) (σ : St) : Option Int32 :=
  (if w1 = 0 then
  (if (gI σ 17) = 0 then
  some 4
  else
  some 0)
  else
  some 0)
def x_X3_faultOfWord_b63 (w2 : Int32) (σ : St) : Option Int32 :=
  (if w2 = 4 then
  (if (gI σ 6) < 6 then
  x_X3_faultOfWord_b82 w2 σ
  else
  some 3)
  else
  x_X3_faultOfWord_b82 w2 σ)
def x_X3_faultOfWord_b46 (w3 : Int32) (σ : St) : Option Int32 :=
  (if w3 = 1 then
  (if 24 ≤ (gI σ 5) then
  some 3
  else
  x_X3_faultOfWord_b63 w3 σ)
  else
  x_X3_faultOfWord_b63 w3 σ)
def x_X3_faultOfWord_b21 (w4 : Int32) (σ : St) : Option Int32 :=
  (if 60 ≤ (gI σ 16) then
  some 3
  else
  (if w4 = 0 then
  (if 8 ≤ (gI σ 4) then
  some 3
  else
  x_X3_faultOfWord_b46 w4 σ)
  else
  x_X3_faultOfWord_b46 w4 σ))
def x_X3_faultOfWord (p1 : Int32) (σ : St) : Option Int32 :=
  (if p1 = (-1) then
  some 1
  else
  (if p1 = 0 then
  x_X3_faultOfWord_b21 p1 σ
  else
  (if (gI σ 4) = 0 then
  some 1
  else
  x_X3_faultOfWord_b21 p1 σ)))
abbrev rm_X3_faultOfWord : Room := { frames := 0, cells := 0, slots := 0, locals := 0 }
set_option maxHeartbeats 4000000 in
set_option maxRecDepth 100000 in
theorem c_X3_faultOfWord {l : Launch} {E : EV} {X : va_W} {σ : St} {p1 : Int32} {rv : Int32} (h : x_X3_faultOfWord p1 σ = some rv) : CM l yX3_faultOfWord cX3_faultOfWord 2 (some .int) rm_X3_faultOfWord [.ref (eA E 57), .int p1] E (wC E σ ++ X) (wC E σ ++ X) (qI rv) := by
  refine CM.start (by decide) (Nat.le_of_ble_eq_true rfl) (fun p e s m a below meth c A ls cx hr hlk hV hl => ?_)
  have cx : CallFix p m c cX3_faultOfWord 2 s a TBL RX3 := cx
  have hx := cx.1
  have hb := cx.2.1
  have hl : lv_has ls 2 [(0, .ref (eA E 57)), (1, .int p1)] := hl
  generalize hQ : EQ E (wC E σ ++ X) (qI rv) A s a below = QQ
  obtain ⟨H, hH⟩ : ∃ H, H = s.heap := ⟨_, rfl⟩
  obtain ⟨locs, hlocs⟩ : ∃ z, z = ([] : List Loc) := ⟨_, rfl⟩
  have hV : AtW E (wC E σ ++ X) A s H locs := by rw [hH, hlocs]; exact hV
  have goal : W p l e rm_X3_faultOfWord s m a below meth c H locs 0 0 QQ (F0 m 0 ls []) := by
    unfold x_X3_faultOfWord at h
    have hj82 : ∀ (w1 : Int32) (H : Heap) (locs : List Loc) (ls : Array Slot), x_X3_faultOfWord_b82 w1 σ = some rv → AtW E (wC E σ ++ X) A s H locs → lv_has ls 2 [(0, .ref (eA E 57)), (1, .int w1)] → W p l e rm_X3_faultOfWord s m a below meth c H locs 0 0 QQ (F0 m 82 ls []) := by
      intro w1 H locs ls h hV hl
      unfold x_X3_faultOfWord_b82 at h
      refine lv_iload_n hx hb dX3_faultOfWord_82 rfl (lv_at hl 1 rfl) ?_
      refine lv_if_ne (tgt := 97) hx hb dX3_faultOfWord_83 (by decide) (fun hc => ?_) (fun hc => ?_)
      · have h := ifn hc h
        refine lv_iconst (v := 0) hx hb dX3_faultOfWord_97 (by decide) ?_
        have h1 := Option.some.inj h
        subst h1
        subst hQ
        exact r_ireti cx hr hlk hV dX3_faultOfWord_98
      · have h := ifp hc h
        refine lv_aload_n hx hb dX3_faultOfWord_86 rfl (lv_at hl 0 rfl) ?_
        refine G_X3_onlyCrates cx hV mk_1_160 dX3_faultOfWord_87 ?_
        refine lv_if_ne (tgt := 97) hx hb dX3_faultOfWord_90 (by decide) (fun hc => ?_) (fun hc => ?_)
        · have h := ifn hc h
          refine lv_iconst (v := 0) hx hb dX3_faultOfWord_97 (by decide) ?_
          have h1 := Option.some.inj h
          subst h1
          subst hQ
          exact r_ireti cx hr hlk hV dX3_faultOfWord_98
        · have h := ifp hc h
          refine lv_iconst (v := 4) hx hb dX3_faultOfWord_93 (by decide) ?_
          refine lv_goto (tgt := 98) hx hb dX3_faultOfWord_94 (by decide) ?_
          have h1 := Option.some.inj h
          subst h1
          subst hQ
          exact r_ireti cx hr hlk hV dX3_faultOfWord_98
    have hj63 : ∀ (w2 : Int32) (H : Heap) (locs : List Loc) (ls : Array Slot), x_X3_faultOfWord_b63 w2 σ = some rv → AtW E (wC E σ ++ X) A s H locs → lv_has ls 2 [(0, .ref (eA E 57)), (1, .int w2)] → W p l e rm_X3_faultOfWord s m a below meth c H locs 0 0 QQ (F0 m 63 ls []) := by
      intro w2 H locs ls h hV hl
      unfold x_X3_faultOfWord_b63 at h
      refine lv_iload_n hx hb dX3_faultOfWord_63 rfl (lv_at hl 1 rfl) ?_
      refine lv_iconst (v := 4) hx hb dX3_faultOfWord_64 (by decide) ?_
      refine lv_icmp_ne (tgt := 82) hx hb dX3_faultOfWord_65 (by decide) (fun hc => ?_) (fun hc => ?_)
      · have h := ifn hc h
        exact hj82 w2 _ _ _ h hV (lv_sub hl [0, 1] rfl)
      · have h := ifp hc h
        refine lv_aload_n hx hb dX3_faultOfWord_68 rfl (lv_at hl 0 rfl) ?_
        refine G_X3_draft cx hV mk_1_150 dX3_faultOfWord_69 ?_
        refine G_X7_lookers cx hV (by decide) mk_1_64 dX3_faultOfWord_72 ?_
        refine lv_bipush (v := 6) hx hb dX3_faultOfWord_75 (by decide) ?_
        refine lv_icmp_lt (tgt := 82) hx hb dX3_faultOfWord_77 (by decide) (fun hc => ?_) (fun hc => ?_)
        · have h := ifp hc h
          exact hj82 w2 _ _ _ h hV (lv_sub hl [0, 1] rfl)
        · have h := ifn hc h
          refine lv_iconst (v := 3) hx hb dX3_faultOfWord_80 (by decide) ?_
          have h1 := Option.some.inj h
          subst h1
          subst hQ
          exact r_ireti cx hr hlk hV dX3_faultOfWord_81
    have hj46 : ∀ (w3 : Int32) (H : Heap) (locs : List Loc) (ls : Array Slot), x_X3_faultOfWord_b46 w3 σ = some rv → AtW E (wC E σ ++ X) A s H locs → lv_has ls 2 [(0, .ref (eA E 57)), (1, .int w3)] → W p l e rm_X3_faultOfWord s m a below meth c H locs 0 0 QQ (F0 m 46 ls []) := by
      intro w3 H locs ls h hV hl
      unfold x_X3_faultOfWord_b46 at h
      refine lv_iload_n hx hb dX3_faultOfWord_46 rfl (lv_at hl 1 rfl) ?_
      refine lv_iconst (v := 1) hx hb dX3_faultOfWord_47 (by decide) ?_
      refine lv_icmp_ne (tgt := 63) hx hb dX3_faultOfWord_48 (by decide) (fun hc => ?_) (fun hc => ?_)
      · have h := ifn hc h
        exact hj63 w3 _ _ _ h hV (lv_sub hl [0, 1] rfl)
      · have h := ifp hc h
        refine lv_aload_n hx hb dX3_faultOfWord_51 rfl (lv_at hl 0 rfl) ?_
        refine G_X3_draft cx hV mk_1_150 dX3_faultOfWord_52 ?_
        refine G_X7_sleeves cx hV (by decide) mk_1_59 dX3_faultOfWord_55 ?_
        refine lv_bipush (v := 24) hx hb dX3_faultOfWord_58 (by decide) ?_
        refine lv_icmp_ge (tgt := 80) hx hb dX3_faultOfWord_60 (by decide) (fun hc => ?_) (fun hc => ?_)
        · have h := ifp hc h
          refine lv_iconst (v := 3) hx hb dX3_faultOfWord_80 (by decide) ?_
          have h1 := Option.some.inj h
          subst h1
          subst hQ
          exact r_ireti cx hr hlk hV dX3_faultOfWord_81
        · have h := ifn hc h
          exact hj63 w3 _ _ _ h hV (lv_sub hl [0, 1] rfl)
    have hj21 : ∀ (w4 : Int32) (H : Heap) (locs : List Loc) (ls : Array Slot), x_X3_faultOfWord_b21 w4 σ = some rv → AtW E (wC E σ ++ X) A s H locs → lv_has ls 2 [(0, .ref (eA E 57)), (1, .int w4)] → W p l e rm_X3_faultOfWord s m a below meth c H locs 0 0 QQ (F0 m 21 ls []) := by
      intro w4 H locs ls h hV hl
      unfold x_X3_faultOfWord_b21 at h
      refine lv_aload_n hx hb dX3_faultOfWord_21 rfl (lv_at hl 0 rfl) ?_
      refine G_X3_clauses cx hV mk_1_159 dX3_faultOfWord_22 ?_
      refine lv_bipush (v := 60) hx hb dX3_faultOfWord_25 (by decide) ?_
      refine lv_icmp_ge (tgt := 80) hx hb dX3_faultOfWord_27 (by decide) (fun hc => ?_) (fun hc => ?_)
      · have h := ifp hc h
        refine lv_iconst (v := 3) hx hb dX3_faultOfWord_80 (by decide) ?_
        have h1 := Option.some.inj h
        subst h1
        subst hQ
        exact r_ireti cx hr hlk hV dX3_faultOfWord_81
      · have h := ifn hc h
        refine lv_iload_n hx hb dX3_faultOfWord_30 rfl (lv_at hl 1 rfl) ?_
        refine lv_if_ne (tgt := 46) hx hb dX3_faultOfWord_31 (by decide) (fun hc => ?_) (fun hc => ?_)
        · have h := ifn hc h
          exact hj46 w4 _ _ _ h hV (lv_sub hl [0, 1] rfl)
        · have h := ifp hc h
          refine lv_aload_n hx hb dX3_faultOfWord_34 rfl (lv_at hl 0 rfl) ?_
          refine G_X3_draft cx hV mk_1_150 dX3_faultOfWord_35 ?_
          refine G_X7_crates cx hV (by decide) mk_1_53 dX3_faultOfWord_38 ?_
          refine lv_bipush (v := 8) hx hb dX3_faultOfWord_41 (by decide) ?_
          refine lv_icmp_ge (tgt := 80) hx hb dX3_faultOfWord_43 (by decide) (fun hc => ?_) (fun hc => ?_)
          · have h := ifp hc h
            refine lv_iconst (v := 3) hx hb dX3_faultOfWord_80 (by decide) ?_
            have h1 := Option.some.inj h
            subst h1
            subst hQ
            exact r_ireti cx hr hlk hV dX3_faultOfWord_81
          · have h := ifn hc h
            exact hj46 w4 _ _ _ h hV (lv_sub hl [0, 1] rfl)
    refine lv_iload_n hx hb dX3_faultOfWord_0 rfl (lv_at hl 1 rfl) ?_
    refine lv_iconst (v := (-1)) hx hb dX3_faultOfWord_1 (by decide) ?_
    refine lv_icmp_eq (tgt := 19) hx hb dX3_faultOfWord_2 (by decide) (fun hc => ?_) (fun hc => ?_)
    · have h := ifp hc h
      refine lv_iconst (v := 1) hx hb dX3_faultOfWord_19 (by decide) ?_
      have h1 := Option.some.inj h
      subst h1
      subst hQ
      exact r_ireti cx hr hlk hV dX3_faultOfWord_20
    · have h := ifn hc h
      refine lv_iload_n hx hb dX3_faultOfWord_5 rfl (lv_at hl 1 rfl) ?_
      refine lv_if_eq (tgt := 21) hx hb dX3_faultOfWord_6 (by decide) (fun hc => ?_) (fun hc => ?_)
      · have h := ifp hc h
        exact hj21 p1 _ _ _ h hV (lv_sub hl [0, 1] rfl)
      · have h := ifn hc h
        refine lv_aload_n hx hb dX3_faultOfWord_9 rfl (lv_at hl 0 rfl) ?_
        refine G_X3_draft cx hV mk_1_150 dX3_faultOfWord_10 ?_
        refine G_X7_crates cx hV (by decide) mk_1_53 dX3_faultOfWord_13 ?_
        refine lv_if_ne (tgt := 21) hx hb dX3_faultOfWord_16 (by decide) (fun hc => ?_) (fun hc => ?_)
        · have h := ifn hc h
          exact hj21 p1 _ _ _ h hV (lv_sub hl [0, 1] rfl)
        · have h := ifp hc h
          refine lv_iconst (v := 1) hx hb dX3_faultOfWord_19 (by decide) ?_
          have h1 := Option.some.inj h
          subst h1
          subst hQ
          exact r_ireti cx hr hlk hV dX3_faultOfWord_20
  rw [hH, hlocs] at goal
  exact goal
theorem k_X3_faultOfWord {p : Program} {l : Launch} {e : Env} {R : Room} {s : State} {m : MethodId} {a : Array Value} {below : List Frame} {meth : Method} {c : Code} {H : Heap} {locs : List Loc} {cells slots : Nat} {Q : State → Prop} {cc : ByteArray} {own : String} {nL pc : Nat} {ls : Array Slot} {rest : List Value} {A : Nat → Prop} {E : EV} {X : va_W} {σ : St} {p1 : Int32} {rv : Int32} (h : x_X3_faultOfWord p1 σ = some rv) (cx : CallFix p m c cc nL s a TBL own) (hV : AtW E (wC E σ ++ X) A s H locs) {idx : Nat} (w1 : Cond.methodLink own idx yX3_faultOfWord ∈ TBL) (hR : (rm_X3_faultOfWord).frames + 1 ≤ R.frames ∧ 8 + (2 + 11) + (rm_X3_faultOfWord).locals ≤ R.locals) (hcs : cells ≤ R.cells ∧ slots ≤ R.slots) (hls : ls.size = nL) (hcat : (rest.map fun v => v.category).sum ≤ 8) (d : decode cc pc = .ok (.invokevirtual idx, 3)) (kk : ∀ (H1 : Heap) (locs1 : List Loc), AtW E (wC E σ ++ X) A s H1 locs1 → W p l e R s m a below meth c H1 locs1 cells slots Q (F0 m (pc + 3) ls (.int rv :: rest))) : W p l e R s m a below meth c H locs cells slots Q (F0 m pc ls (.int p1 :: .ref (eA E 57) :: rest)) :=
  r_calli (n := 1) (As := [.int p1]) (q0 := 57) (ci := 3) (qq := (RX3, TX3, 9)) (c_X3_faultOfWord h) rfl rfl rfl mk_4_96 mk_P_21 mk_1_5 mk_4_97 (by decide +kernel) rfl ⟨rfl, rfl⟩ cx hV w1 hR hcs hls rfl hcat d kk
def x_X3_blame (p1 : Int32) (p2 : Int32) (σ : St) : Option St :=
  (if (gI σ 15) = 0 then
  bd (some (sI σ 15 p1)) fun σ1 =>
  bd (some (sI σ1 11 p2)) fun σ2 =>
  some σ2
  else
  some σ)
abbrev rm_X3_blame : Room := { frames := 0, cells := 0, slots := 0, locals := 0 }
set_option maxHeartbeats 4000000 in
set_option maxRecDepth 100000 in
theorem c_X3_blame {l : Launch} {E : EV} {X : va_W} {σ : St} {p1 : Int32} {p2 : Int32} {σf : St} (h : x_X3_blame p1 p2 σ = some σf) : CM l yX3_blame cX3_blame 3 none rm_X3_blame [.ref (eA E 57), .int p1, .int p2] E (wC E σ ++ X) (wC E σf ++ X) qV := by
  refine CM.start (by decide) (Nat.le_of_ble_eq_true rfl) (fun p e s m a below meth c A ls cx hr hlk hV hl => ?_)
  have cx : CallFix p m c cX3_blame 3 s a TBL RX3 := cx
  have hx := cx.1
  have hb := cx.2.1
  have hl : lv_has ls 3 [(0, .ref (eA E 57)), (1, .int p1), (2, .int p2)] := hl
  generalize hQ : EQ E (wC E σf ++ X) qV A s a below = QQ
  obtain ⟨H, hH⟩ : ∃ H, H = s.heap := ⟨_, rfl⟩
  obtain ⟨locs, hlocs⟩ : ∃ z, z = ([] : List Loc) := ⟨_, rfl⟩
  have hV : AtW E (wC E σ ++ X) A s H locs := by rw [hH, hlocs]; exact hV
  have goal : W p l e rm_X3_blame s m a below meth c H locs 0 0 QQ (F0 m 0 ls []) := by
    unfold x_X3_blame at h
    refine lv_aload_n hx hb dX3_blame_0 rfl (lv_at hl 0 rfl) ?_
    refine G_X3_fault cx hV mk_1_158 dX3_blame_1 ?_
    refine lv_if_ne (tgt := 17) hx hb dX3_blame_4 (by decide) (fun hc => ?_) (fun hc => ?_)
    · have h := ifn hc h
      have h1 := Option.some.inj h
      subst h1
      subst hQ
      exact r_vret cx hr hlk hV dX3_blame_17
    · have h := ifp hc h
      refine lv_aload_n hx hb dX3_blame_7 rfl (lv_at hl 0 rfl) ?_
      refine lv_iload_n hx hb dX3_blame_8 rfl (lv_at hl 1 rfl) ?_
      refine bd_e h (fun σ1 hq h => ?_)
      refine P_X3_fault cx hV hq mk_1_158 dX3_blame_9 (fun H locs hV => ?_)
      refine lv_aload_n hx hb dX3_blame_12 rfl (lv_at hl 0 rfl) ?_
      refine lv_iload_n hx hb dX3_blame_13 rfl (lv_at hl 2 rfl) ?_
      refine bd_e h (fun σ2 hq h => ?_)
      refine P_X3_place cx hV hq mk_1_152 dX3_blame_14 (fun H locs hV => ?_)
      have h1 := Option.some.inj h
      subst h1
      subst hQ
      exact r_vret cx hr hlk hV dX3_blame_17
  rw [hH, hlocs] at goal
  exact goal
theorem k_X3_blame {p : Program} {l : Launch} {e : Env} {R : Room} {s : State} {m : MethodId} {a : Array Value} {below : List Frame} {meth : Method} {c : Code} {H : Heap} {locs : List Loc} {cells slots : Nat} {Q : State → Prop} {cc : ByteArray} {own : String} {nL pc : Nat} {ls : Array Slot} {rest : List Value} {A : Nat → Prop} {E : EV} {X : va_W} {σ : St} {p1 : Int32} {p2 : Int32} {σf : St} (h : x_X3_blame p1 p2 σ = some σf) (cx : CallFix p m c cc nL s a TBL own) (hV : AtW E (wC E σ ++ X) A s H locs) {idx : Nat} (w1 : Cond.methodLink own idx yX3_blame ∈ TBL) (hR : (rm_X3_blame).frames + 1 ≤ R.frames ∧ 8 + (3 + 11) + (rm_X3_blame).locals ≤ R.locals) (hcs : cells ≤ R.cells ∧ slots ≤ R.slots) (hls : ls.size = nL) (hcat : (rest.map fun v => v.category).sum ≤ 8) (d : decode cc pc = .ok (.invokevirtual idx, 3)) (kk : ∀ (H1 : Heap) (locs1 : List Loc), AtW E (wC E σf ++ X) A s H1 locs1 → W p l e R s m a below meth c H1 locs1 cells slots Q (F0 m (pc + 3) ls (rest))) : W p l e R s m a below meth c H locs cells slots Q (F0 m pc ls (.int p2 :: .int p1 :: .ref (eA E 57) :: rest)) :=
  r_callv (n := 2) (As := [.int p1, .int p2]) (q0 := 57) (ci := 3) (qq := (RX3, TX3, 9)) (c_X3_blame h) wC_fst rfl rfl mk_4_100 mk_P_22 mk_1_5 mk_4_101 (by decide +kernel) rfl ⟨rfl, rfl⟩ cx hV w1 hR hcs hls rfl hcat d kk
def x_X3_number_b138 (w1 : Int32) (σ2 : St) : Option (Int32 × St) :=
  bd (x_X3_blame 2 (gI σ2 14) σ2) fun σ3 =>
  some (w1, σ3)
def x_X3_number_L23 (p1 : Int32) (p2 : Int32) (u6 : Int32) (σ7 : St) : Option (Bool × (Int32 × St)) :=
  (if (gI σ7 12) ≤ (gI σ7 13) then
  some (false, (u6, σ7))
  else
  bd (x_X2_at 0 (gI σ7 13) σ7) fun v8 =>
  (if v8 < 48 then
  some (false, (u6, σ7))
  else
  bd (x_X2_at 0 (gI σ7 13) σ7) fun v9 =>
  (if 57 < v9 then
  some (false, (u6, σ7))
  else
  bd (x_X2_at 0 (gI σ7 13) σ7) fun v10 =>
  bd (some (sI σ7 13 ((gI σ7 13) + 1))) fun σ11 =>
  some (true, ((mnI (((u6 * 10) + v10) - 48) 10000), σ11)))))
def x_X3_number (p1 : Int32) (p2 : Int32) (σ : St) : Option (Int32 × St) :=
  bd (x_X3_skipBlanks σ) fun σ4 =>
  (if (gI σ4 15) = 0 then
  bd (some (sI σ4 14 (gI σ4 13))) fun σ5 =>
  bd2 (lp (fun v : (Int32 × St) => x_X3_number_L23 p1 p2 v.1 v.2) FU (0, σ5)) fun z12 σ13 =>
  (if (gI σ13 13) = (gI σ13 14) then
  bd (x_X3_blame 1 (gI σ13 13) σ13) fun σ14 =>
  some (z12, σ14)
  else
  (if z12 < p1 then
  x_X3_number_b138 z12 σ13
  else
  (if z12 ≤ p2 then
  some (z12, σ13)
  else
  x_X3_number_b138 z12 σ13)))
  else
  some (p1, σ4))
abbrev rm_X3_number : Room := { frames := 2, cells := 0, slots := 0, locals := 41 }
set_option maxHeartbeats 4000000 in
set_option maxRecDepth 100000 in
theorem c_X3_number {l : Launch} {E : EV} {X : va_W} {σ : St} {p1 : Int32} {p2 : Int32} {rv : Int32} {σf : St} (h : x_X3_number p1 p2 σ = some (rv, σf)) : CM l yX3_number cX3_number 4 (some .int) rm_X3_number [.ref (eA E 57), .int p1, .int p2] E (wC E σ ++ X) (wC E σf ++ X) (qI rv) := by
  refine CM.start (by decide) (Nat.le_of_ble_eq_true rfl) (fun p e s m a below meth c A ls cx hr hlk hV hl => ?_)
  have cx : CallFix p m c cX3_number 4 s a TBL RX3 := cx
  have hx := cx.1
  have hb := cx.2.1
  have hl : lv_has ls 4 [(0, .ref (eA E 57)), (1, .int p1), (2, .int p2)] := hl
  generalize hQ : EQ E (wC E σf ++ X) (qI rv) A s a below = QQ
  obtain ⟨H, hH⟩ : ∃ H, H = s.heap := ⟨_, rfl⟩
  obtain ⟨locs, hlocs⟩ : ∃ z, z = ([] : List Loc) := ⟨_, rfl⟩
  have hV : AtW E (wC E σ ++ X) A s H locs := by rw [hH, hlocs]; exact hV
  have goal : W p l e rm_X3_number s m a below meth c H locs 0 0 QQ (F0 m 0 ls []) := by
    unfold x_X3_number at h
    have hj138 : ∀ (w1 : Int32) (σ2 : St) (H : Heap) (locs : List Loc) (ls : Array Slot), x_X3_number_b138 w1 σ2 = some (rv, σf) → AtW E (wC E σ2 ++ X) A s H locs → lv_has ls 4 [(0, .ref (eA E 57)), (3, .int w1)] → W p l e rm_X3_number s m a below meth c H locs 0 0 QQ (F0 m 138 ls []) := by
      intro w1 σ2 H locs ls h hV hl
      unfold x_X3_number_b138 at h
      refine lv_aload_n hx hb dX3_number_138 rfl (lv_at hl 0 rfl) ?_
      refine lv_iconst (v := 2) hx hb dX3_number_139 (by decide) ?_
      refine lv_aload_n hx hb dX3_number_140 rfl (lv_at hl 0 rfl) ?_
      refine G_X3_numberPlace cx hV mk_1_157 dX3_number_141 ?_
      refine bd_e h (fun σ3 hq h => ?_)
      refine k_X3_blame hq cx hV mk_4_98 ⟨Nat.le_of_ble_eq_true rfl, Nat.le_of_ble_eq_true rfl⟩ ⟨Nat.zero_le _, Nat.zero_le _⟩ hl.1 (Nat.le_of_ble_eq_true rfl) dX3_number_144 (fun H locs hV => ?_)
      refine lv_iload_n hx hb dX3_number_147 rfl (lv_at hl 1 rfl) ?_
      obtain ⟨h1, h2⟩ := Prod.mk.inj (Option.some.inj h)
      subst h1
      subst h2
      subst hQ
      exact r_ireti cx hr hlk hV dX3_number_148
    refine lv_aload_n hx hb dX3_number_0 rfl (lv_at hl 0 rfl) ?_
    refine bd_e h (fun σ4 hq h => ?_)
    refine k_X3_skipBlanks hq cx hV mk_4_17 ⟨Nat.le_of_ble_eq_true rfl, Nat.le_of_ble_eq_true rfl⟩ ⟨Nat.zero_le _, Nat.zero_le _⟩ hl.1 (Nat.le_of_ble_eq_true rfl) dX3_number_1 (fun H locs hV => ?_)
    refine lv_aload_n hx hb dX3_number_4 rfl (lv_at hl 0 rfl) ?_
    refine G_X3_fault cx hV mk_1_158 dX3_number_5 ?_
    refine lv_if_eq (tgt := 13) hx hb dX3_number_8 (by decide) (fun hc => ?_) (fun hc => ?_)
    · have h := ifp hc h
      refine lv_aload_n hx hb dX3_number_13 rfl (lv_at hl 0 rfl) ?_
      refine lv_aload_n hx hb dX3_number_14 rfl (lv_at hl 0 rfl) ?_
      refine G_X3_at cx hV mk_1_156 dX3_number_15 ?_
      refine bd_e h (fun σ5 hq h => ?_)
      refine P_X3_numberPlace cx hV hq mk_1_157 dX3_number_18 (fun H locs hV => ?_)
      refine lv_iconst (v := 0) hx hb dX3_number_21 (by decide) ?_
      refine lv_istore_n (lv' := [(3, .int 0), (0, .ref (eA E 57)), (1, .int p1), (2, .int p2)]) hx hb dX3_number_22 rfl hl (by decide) rfl (fun ls hl => ?_)
      refine bd2_e h (fun z12 σ13 ho h => ?_)
      refine (lp_rule (G := (fun v : (Int32 × St) => ∀ (H : Heap) (locs : List Loc) (ls : Array Slot), AtW E (wC E v.2 ++ X) A s H locs → lv_has ls 4 [(0, .ref (eA E 57)), (1, .int p1), (2, .int p2), (3, .int v.1)] → W p l e rm_X3_number s m a below meth c H locs 0 0 QQ (F0 m 23 ls []))) (K := (fun v : (Int32 × St) => ∀ (H : Heap) (locs : List Loc) (ls : Array Slot), AtW E (wC E v.2 ++ X) A s H locs → lv_has ls 4 [(0, .ref (eA E 57)), (1, .int p1), (2, .int p2), (3, .int v.1)] → W p l e rm_X3_number s m a below meth c H locs 0 0 QQ (F0 m 105 ls []))) (fun v b1 y1 h hT1 hF1 => ?_) ho (fun H locs ls hV hl => ?_)) _ _ _ hV (lv_sub hl [1, 2, 3, 0] rfl)
      · obtain ⟨u6, σ7⟩ := v
        have h : x_X3_number_L23 p1 p2 u6 σ7 = some (b1, y1) := h
        intro H locs ls hV hl
        have hV : AtW E (wC E σ7 ++ X) A s H locs := hV
        have hl : lv_has ls 4 [(0, .ref (eA E 57)), (1, .int p1), (2, .int p2), (3, .int u6)] := hl
        unfold x_X3_number_L23 at h
        refine lv_aload_n hx hb dX3_number_23 rfl (lv_at hl 0 rfl) ?_
        refine G_X3_at cx hV mk_1_156 dX3_number_24 ?_
        refine lv_aload_n hx hb dX3_number_27 rfl (lv_at hl 0 rfl) ?_
        refine G_X3_end cx hV mk_1_155 dX3_number_28 ?_
        refine lv_icmp_ge (tgt := 105) hx hb dX3_number_31 (by decide) (fun hc => ?_) (fun hc => ?_)
        · have h := ifp hc h
          cases h
          exact hF1 rfl _ _ _ hV (lv_sub hl [0, 1, 2, 3] rfl)
        · have h := ifn hc h
          refine lv_aload_n hx hb dX3_number_34 rfl (lv_at hl 0 rfl) ?_
          refine G_X3_tape cx hV mk_1_154 dX3_number_35 ?_
          refine lv_aload_n hx hb dX3_number_38 rfl (lv_at hl 0 rfl) ?_
          refine G_X3_at cx hV mk_1_156 dX3_number_39 ?_
          refine bd_e h (fun v8 hq h => ?_)
          refine k_X2_at (by decide) hq cx hV mk_4_21 ⟨Nat.le_of_ble_eq_true rfl, Nat.le_of_ble_eq_true rfl⟩ ⟨Nat.zero_le _, Nat.zero_le _⟩ hl.1 (Nat.le_of_ble_eq_true rfl) dX3_number_42 (fun H locs hV => ?_)
          refine lv_bipush (v := 48) hx hb dX3_number_45 (by decide) ?_
          refine lv_icmp_lt (tgt := 105) hx hb dX3_number_47 (by decide) (fun hc => ?_) (fun hc => ?_)
          · have h := ifp hc h
            cases h
            exact hF1 rfl _ _ _ hV (lv_sub hl [0, 1, 2, 3] rfl)
          · have h := ifn hc h
            refine lv_aload_n hx hb dX3_number_50 rfl (lv_at hl 0 rfl) ?_
            refine G_X3_tape cx hV mk_1_154 dX3_number_51 ?_
            refine lv_aload_n hx hb dX3_number_54 rfl (lv_at hl 0 rfl) ?_
            refine G_X3_at cx hV mk_1_156 dX3_number_55 ?_
            refine bd_e h (fun v9 hq h => ?_)
            refine k_X2_at (by decide) hq cx hV mk_4_21 ⟨Nat.le_of_ble_eq_true rfl, Nat.le_of_ble_eq_true rfl⟩ ⟨Nat.zero_le _, Nat.zero_le _⟩ hl.1 (Nat.le_of_ble_eq_true rfl) dX3_number_58 (fun H locs hV => ?_)
            refine lv_bipush (v := 57) hx hb dX3_number_61 (by decide) ?_
            refine lv_icmp_gt (tgt := 105) hx hb dX3_number_63 (by decide) (fun hc => ?_) (fun hc => ?_)
            · have h := ifp hc h
              cases h
              exact hF1 rfl _ _ _ hV (lv_sub hl [0, 1, 2, 3] rfl)
            · have h := ifn hc h
              refine lv_iload_n hx hb dX3_number_66 rfl (lv_at hl 3 rfl) ?_
              refine lv_bipush (v := 10) hx hb dX3_number_67 (by decide) ?_
              refine lv_imul hx hb dX3_number_69 ?_
              refine lv_aload_n hx hb dX3_number_70 rfl (lv_at hl 0 rfl) ?_
              refine G_X3_tape cx hV mk_1_154 dX3_number_71 ?_
              refine lv_aload_n hx hb dX3_number_74 rfl (lv_at hl 0 rfl) ?_
              refine G_X3_at cx hV mk_1_156 dX3_number_75 ?_
              refine bd_e h (fun v10 hq h => ?_)
              refine k_X2_at (by decide) hq cx hV mk_4_21 ⟨Nat.le_of_ble_eq_true rfl, Nat.le_of_ble_eq_true rfl⟩ ⟨Nat.zero_le _, Nat.zero_le _⟩ hl.1 (Nat.le_of_ble_eq_true rfl) dX3_number_78 (fun H locs hV => ?_)
              refine lv_iadd hx hb dX3_number_81 ?_
              refine lv_bipush (v := 48) hx hb dX3_number_82 (by decide) ?_
              refine lv_isub hx hb dX3_number_84 ?_
              refine lv_sipush (v := 10000) hx hb dX3_number_85 (by decide) ?_
              refine r_min cx hl.1 mk_4_114 mk_3_78 mk_1_20 mk_3_79 (Nat.le_of_ble_eq_true rfl) (Nat.le_of_ble_eq_true rfl) ⟨Nat.zero_le _, Nat.zero_le _⟩ dX3_number_88 ?_
              refine lv_istore_n (lv' := [(3, .int (mnI (((u6 * 10) + v10) - 48) 10000)), (0, .ref (eA E 57)), (1, .int p1), (2, .int p2)]) hx hb dX3_number_91 rfl hl (by decide) rfl (fun ls hl => ?_)
              refine lv_aload_n hx hb dX3_number_92 rfl (lv_at hl 1 rfl) ?_
              refine lv_dup hx hb dX3_number_93 rfl ?_
              refine G_X3_at cx hV mk_1_156 dX3_number_94 ?_
              refine lv_iconst (v := 1) hx hb dX3_number_97 (by decide) ?_
              refine lv_iadd hx hb dX3_number_98 ?_
              refine bd_e h (fun σ11 hq h => ?_)
              refine P_X3_at cx hV hq mk_1_156 dX3_number_99 (fun H locs hV => ?_)
              refine lv_goto (tgt := 23) hx hb dX3_number_102 (by decide) ?_
              cases h
              exact hT1 rfl _ _ _ hV (lv_sub hl [1, 2, 3, 0] rfl)
      · have hV : AtW E (wC E σ13 ++ X) A s H locs := hV
        have hl : lv_has ls 4 [(0, .ref (eA E 57)), (1, .int p1), (2, .int p2), (3, .int z12)] := hl
        refine lv_aload_n hx hb dX3_number_105 rfl (lv_at hl 0 rfl) ?_
        refine G_X3_at cx hV mk_1_156 dX3_number_106 ?_
        refine lv_aload_n hx hb dX3_number_109 rfl (lv_at hl 0 rfl) ?_
        refine G_X3_numberPlace cx hV mk_1_157 dX3_number_110 ?_
        refine lv_icmp_ne (tgt := 128) hx hb dX3_number_113 (by decide) (fun hc => ?_) (fun hc => ?_)
        · have h := ifn hc h
          refine lv_iload_n hx hb dX3_number_128 rfl (lv_at hl 3 rfl) ?_
          refine lv_iload_n hx hb dX3_number_129 rfl (lv_at hl 1 rfl) ?_
          refine lv_icmp_lt (tgt := 138) hx hb dX3_number_130 (by decide) (fun hc => ?_) (fun hc => ?_)
          · have h := ifp hc h
            exact hj138 z12 σ13 _ _ _ h hV (lv_sub hl [0, 3] rfl)
          · have h := ifn hc h
            refine lv_iload_n hx hb dX3_number_133 rfl (lv_at hl 3 rfl) ?_
            refine lv_iload_n hx hb dX3_number_134 rfl (lv_at hl 2 rfl) ?_
            refine lv_icmp_le (tgt := 147) hx hb dX3_number_135 (by decide) (fun hc => ?_) (fun hc => ?_)
            · have h := ifp hc h
              refine lv_iload_n hx hb dX3_number_147 rfl (lv_at hl 3 rfl) ?_
              obtain ⟨h1, h2⟩ := Prod.mk.inj (Option.some.inj h)
              subst h1
              subst h2
              subst hQ
              exact r_ireti cx hr hlk hV dX3_number_148
            · have h := ifn hc h
              exact hj138 z12 σ13 _ _ _ h hV (lv_sub hl [0, 3] rfl)
        · have h := ifp hc h
          refine lv_aload_n hx hb dX3_number_116 rfl (lv_at hl 0 rfl) ?_
          refine lv_iconst (v := 1) hx hb dX3_number_117 (by decide) ?_
          refine lv_aload_n hx hb dX3_number_118 rfl (lv_at hl 0 rfl) ?_
          refine G_X3_at cx hV mk_1_156 dX3_number_119 ?_
          refine bd_e h (fun σ14 hq h => ?_)
          refine k_X3_blame hq cx hV mk_4_98 ⟨Nat.le_of_ble_eq_true rfl, Nat.le_of_ble_eq_true rfl⟩ ⟨Nat.zero_le _, Nat.zero_le _⟩ hl.1 (Nat.le_of_ble_eq_true rfl) dX3_number_122 (fun H locs hV => ?_)
          refine lv_goto (tgt := 147) hx hb dX3_number_125 (by decide) ?_
          refine lv_iload_n hx hb dX3_number_147 rfl (lv_at hl 3 rfl) ?_
          obtain ⟨h1, h2⟩ := Prod.mk.inj (Option.some.inj h)
          subst h1
          subst h2
          subst hQ
          exact r_ireti cx hr hlk hV dX3_number_148
    · have h := ifn hc h
      refine lv_iload_n hx hb dX3_number_11 rfl (lv_at hl 1 rfl) ?_
      obtain ⟨h1, h2⟩ := Prod.mk.inj (Option.some.inj h)
      subst h1
      subst h2
      subst hQ
      exact r_ireti cx hr hlk hV dX3_number_12
  rw [hH, hlocs] at goal
  exact goal
theorem k_X3_number {p : Program} {l : Launch} {e : Env} {R : Room} {s : State} {m : MethodId} {a : Array Value} {below : List Frame} {meth : Method} {c : Code} {H : Heap} {locs : List Loc} {cells slots : Nat} {Q : State → Prop} {cc : ByteArray} {own : String} {nL pc : Nat} {ls : Array Slot} {rest : List Value} {A : Nat → Prop} {E : EV} {X : va_W} {σ : St} {p1 : Int32} {p2 : Int32} {rv : Int32} {σf : St} (h : x_X3_number p1 p2 σ = some (rv, σf)) (cx : CallFix p m c cc nL s a TBL own) (hV : AtW E (wC E σ ++ X) A s H locs) {idx : Nat} (w1 : Cond.methodLink own idx yX3_number ∈ TBL) (hR : (rm_X3_number).frames + 1 ≤ R.frames ∧ 8 + (4 + 11) + (rm_X3_number).locals ≤ R.locals) (hcs : cells ≤ R.cells ∧ slots ≤ R.slots) (hls : ls.size = nL) (hcat : (rest.map fun v => v.category).sum ≤ 8) (d : decode cc pc = .ok (.invokevirtual idx, 3)) (kk : ∀ (H1 : Heap) (locs1 : List Loc), AtW E (wC E σf ++ X) A s H1 locs1 → W p l e R s m a below meth c H1 locs1 cells slots Q (F0 m (pc + 3) ls (.int rv :: rest))) : W p l e R s m a below meth c H locs cells slots Q (F0 m pc ls (.int p2 :: .int p1 :: .ref (eA E 57) :: rest)) :=
  r_calli (n := 2) (As := [.int p1, .int p2]) (q0 := 57) (ci := 3) (qq := (RX3, TX3, 9)) (c_X3_number h) wC_fst rfl rfl mk_4_112 mk_P_25 mk_1_5 mk_4_113 (by decide +kernel) rfl ⟨rfl, rfl⟩ cx hV w1 hR hcs hls rfl hcat d kk
def x_X3_next (σ : St) : Option Int32 :=
  (if (gI σ 12) ≤ (gI σ 13) then
  some (-1)
  else
  bd (x_X2_at 0 (gI σ 13) σ) fun v1 =>
  some v1)
abbrev rm_X3_next : Room := { frames := 1, cells := 0, slots := 0, locals := 21 }
set_option maxHeartbeats 4000000 in
set_option maxRecDepth 100000 in
theorem c_X3_next {l : Launch} {E : EV} {X : va_W} {σ : St} {rv : Int32} (h : x_X3_next σ = some rv) : CM l yX3_next cX3_next 1 (some .int) rm_X3_next [.ref (eA E 57)] E (wC E σ ++ X) (wC E σ ++ X) (qI rv) := by
  refine CM.start (by decide) (Nat.le_of_ble_eq_true rfl) (fun p e s m a below meth c A ls cx hr hlk hV hl => ?_)
  have cx : CallFix p m c cX3_next 1 s a TBL RX3 := cx
  have hx := cx.1
  have hb := cx.2.1
  have hl : lv_has ls 1 [(0, .ref (eA E 57))] := hl
  generalize hQ : EQ E (wC E σ ++ X) (qI rv) A s a below = QQ
  obtain ⟨H, hH⟩ : ∃ H, H = s.heap := ⟨_, rfl⟩
  obtain ⟨locs, hlocs⟩ : ∃ z, z = ([] : List Loc) := ⟨_, rfl⟩
  have hV : AtW E (wC E σ ++ X) A s H locs := by rw [hH, hlocs]; exact hV
  have goal : W p l e rm_X3_next s m a below meth c H locs 0 0 QQ (F0 m 0 ls []) := by
    unfold x_X3_next at h
    refine lv_aload_n hx hb dX3_next_0 rfl (lv_at hl 0 rfl) ?_
    refine G_X3_at cx hV mk_1_156 dX3_next_1 ?_
    refine lv_aload_n hx hb dX3_next_4 rfl (lv_at hl 0 rfl) ?_
    refine G_X3_end cx hV mk_1_155 dX3_next_5 ?_
    refine lv_icmp_ge (tgt := 25) hx hb dX3_next_8 (by decide) (fun hc => ?_) (fun hc => ?_)
    · have h := ifp hc h
      refine lv_iconst (v := (-1)) hx hb dX3_next_25 (by decide) ?_
      have h1 := Option.some.inj h
      subst h1
      subst hQ
      exact r_ireti cx hr hlk hV dX3_next_26
    · have h := ifn hc h
      refine lv_aload_n hx hb dX3_next_11 rfl (lv_at hl 0 rfl) ?_
      refine G_X3_tape cx hV mk_1_154 dX3_next_12 ?_
      refine lv_aload_n hx hb dX3_next_15 rfl (lv_at hl 0 rfl) ?_
      refine G_X3_at cx hV mk_1_156 dX3_next_16 ?_
      refine bd_e h (fun v1 hq h => ?_)
      refine k_X2_at (by decide) hq cx hV mk_4_21 ⟨Nat.le_of_ble_eq_true rfl, Nat.le_of_ble_eq_true rfl⟩ ⟨Nat.zero_le _, Nat.zero_le _⟩ hl.1 (Nat.le_of_ble_eq_true rfl) dX3_next_19 (fun H locs hV => ?_)
      refine lv_goto (tgt := 26) hx hb dX3_next_22 (by decide) ?_
      have h1 := Option.some.inj h
      subst h1
      subst hQ
      exact r_ireti cx hr hlk hV dX3_next_26
  rw [hH, hlocs] at goal
  exact goal
theorem k_X3_next {p : Program} {l : Launch} {e : Env} {R : Room} {s : State} {m : MethodId} {a : Array Value} {below : List Frame} {meth : Method} {c : Code} {H : Heap} {locs : List Loc} {cells slots : Nat} {Q : State → Prop} {cc : ByteArray} {own : String} {nL pc : Nat} {ls : Array Slot} {rest : List Value} {A : Nat → Prop} {E : EV} {X : va_W} {σ : St} {rv : Int32} (h : x_X3_next σ = some rv) (cx : CallFix p m c cc nL s a TBL own) (hV : AtW E (wC E σ ++ X) A s H locs) {idx : Nat} (w1 : Cond.methodLink own idx yX3_next ∈ TBL) (hR : (rm_X3_next).frames + 1 ≤ R.frames ∧ 8 + (1 + 11) + (rm_X3_next).locals ≤ R.locals) (hcs : cells ≤ R.cells ∧ slots ≤ R.slots) (hls : ls.size = nL) (hcat : (rest.map fun v => v.category).sum ≤ 8) (d : decode cc pc = .ok (.invokevirtual idx, 3)) (kk : ∀ (H1 : Heap) (locs1 : List Loc), AtW E (wC E σ ++ X) A s H1 locs1 → W p l e R s m a below meth c H1 locs1 cells slots Q (F0 m (pc + 3) ls (.int rv :: rest))) : W p l e R s m a below meth c H locs cells slots Q (F0 m pc ls (.ref (eA E 57) :: rest)) :=
  r_calli (n := 0) (As := []) (q0 := 57) (ci := 3) (qq := (RX3, TX3, 9)) (c_X3_next h) rfl rfl rfl mk_4_121 mk_P_27 mk_1_5 mk_4_122 (by decide +kernel) rfl ⟨rfl, rfl⟩ cx hV w1 hR hcs hls rfl hcat d kk
def x_X3_ends_b22 (σ1 : St) : Option (Int32 × St) :=
  (if (gI σ1 15) = 0 then
  bd (some (sI σ1 13 ((gI σ1 13) + 1))) fun σ2 =>
  some (1, σ2)
  else
  some (0, σ1))
def x_X3_ends (σ : St) : Option (Int32 × St) :=
  bd (x_X3_skipBlanks σ) fun σ3 =>
  bd (x_X3_next σ3) fun v4 =>
  (if v4 = 59 then
  x_X3_ends_b22 σ3
  else
  bd (x_X3_blame 1 (gI σ3 13) σ3) fun σ5 =>
  x_X3_ends_b22 σ5)
abbrev rm_X3_ends : Room := { frames := 2, cells := 0, slots := 0, locals := 41 }
set_option maxHeartbeats 4000000 in
set_option maxRecDepth 100000 in
theorem c_X3_ends {l : Launch} {E : EV} {X : va_W} {σ : St} {rv : Int32} {σf : St} (h : x_X3_ends σ = some (rv, σf)) : CM l yX3_ends cX3_ends 1 (some .boolean) rm_X3_ends [.ref (eA E 57)] E (wC E σ ++ X) (wC E σf ++ X) (qI rv) := by
  refine CM.start (by decide) (Nat.le_of_ble_eq_true rfl) (fun p e s m a below meth c A ls cx hr hlk hV hl => ?_)
  have cx : CallFix p m c cX3_ends 1 s a TBL RX3 := cx
  have hx := cx.1
  have hb := cx.2.1
  have hl : lv_has ls 1 [(0, .ref (eA E 57))] := hl
  generalize hQ : EQ E (wC E σf ++ X) (qI rv) A s a below = QQ
  obtain ⟨H, hH⟩ : ∃ H, H = s.heap := ⟨_, rfl⟩
  obtain ⟨locs, hlocs⟩ : ∃ z, z = ([] : List Loc) := ⟨_, rfl⟩
  have hV : AtW E (wC E σ ++ X) A s H locs := by rw [hH, hlocs]; exact hV
  have goal : W p l e rm_X3_ends s m a below meth c H locs 0 0 QQ (F0 m 0 ls []) := by
    unfold x_X3_ends at h
    have hj22 : ∀ (σ1 : St) (H : Heap) (locs : List Loc) (ls : Array Slot), x_X3_ends_b22 σ1 = some (rv, σf) → AtW E (wC E σ1 ++ X) A s H locs → lv_has ls 1 [(0, .ref (eA E 57))] → W p l e rm_X3_ends s m a below meth c H locs 0 0 QQ (F0 m 22 ls []) := by
      intro σ1 H locs ls h hV hl
      unfold x_X3_ends_b22 at h
      refine lv_aload_n hx hb dX3_ends_22 rfl (lv_at hl 0 rfl) ?_
      refine G_X3_fault cx hV mk_1_158 dX3_ends_23 ?_
      refine lv_if_eq (tgt := 31) hx hb dX3_ends_26 (by decide) (fun hc => ?_) (fun hc => ?_)
      · have h := ifp hc h
        refine lv_aload_n hx hb dX3_ends_31 rfl (lv_at hl 0 rfl) ?_
        refine lv_dup hx hb dX3_ends_32 rfl ?_
        refine G_X3_at cx hV mk_1_156 dX3_ends_33 ?_
        refine lv_iconst (v := 1) hx hb dX3_ends_36 (by decide) ?_
        refine lv_iadd hx hb dX3_ends_37 ?_
        refine bd_e h (fun σ2 hq h => ?_)
        refine P_X3_at cx hV hq mk_1_156 dX3_ends_38 (fun H locs hV => ?_)
        refine lv_iconst (v := 1) hx hb dX3_ends_41 (by decide) ?_
        obtain ⟨h1, h2⟩ := Prod.mk.inj (Option.some.inj h)
        subst h1
        subst h2
        subst hQ
        exact r_zreti cx hr hlk hV (Or.inr rfl) dX3_ends_42
      · have h := ifn hc h
        refine lv_iconst (v := 0) hx hb dX3_ends_29 (by decide) ?_
        obtain ⟨h1, h2⟩ := Prod.mk.inj (Option.some.inj h)
        subst h1
        subst h2
        subst hQ
        exact r_zreti cx hr hlk hV (Or.inl rfl) dX3_ends_30
    refine lv_aload_n hx hb dX3_ends_0 rfl (lv_at hl 0 rfl) ?_
    refine bd_e h (fun σ3 hq h => ?_)
    refine k_X3_skipBlanks hq cx hV mk_4_17 ⟨Nat.le_of_ble_eq_true rfl, Nat.le_of_ble_eq_true rfl⟩ ⟨Nat.zero_le _, Nat.zero_le _⟩ hl.1 (Nat.le_of_ble_eq_true rfl) dX3_ends_1 (fun H locs hV => ?_)
    refine lv_aload_n hx hb dX3_ends_4 rfl (lv_at hl 0 rfl) ?_
    refine bd_e h (fun v4 hq h => ?_)
    refine k_X3_next hq cx hV mk_4_119 ⟨Nat.le_of_ble_eq_true rfl, Nat.le_of_ble_eq_true rfl⟩ ⟨Nat.zero_le _, Nat.zero_le _⟩ hl.1 (Nat.le_of_ble_eq_true rfl) dX3_ends_5 (fun H locs hV => ?_)
    refine lv_bipush (v := 59) hx hb dX3_ends_8 (by decide) ?_
    refine lv_icmp_eq (tgt := 22) hx hb dX3_ends_10 (by decide) (fun hc => ?_) (fun hc => ?_)
    · have h := ifp hc h
      exact hj22 σ3 _ _ _ h hV (lv_sub hl [0] rfl)
    · have h := ifn hc h
      refine lv_aload_n hx hb dX3_ends_13 rfl (lv_at hl 0 rfl) ?_
      refine lv_iconst (v := 1) hx hb dX3_ends_14 (by decide) ?_
      refine lv_aload_n hx hb dX3_ends_15 rfl (lv_at hl 0 rfl) ?_
      refine G_X3_at cx hV mk_1_156 dX3_ends_16 ?_
      refine bd_e h (fun σ5 hq h => ?_)
      refine k_X3_blame hq cx hV mk_4_98 ⟨Nat.le_of_ble_eq_true rfl, Nat.le_of_ble_eq_true rfl⟩ ⟨Nat.zero_le _, Nat.zero_le _⟩ hl.1 (Nat.le_of_ble_eq_true rfl) dX3_ends_19 (fun H locs hV => ?_)
      exact hj22 σ5 _ _ _ h hV (lv_sub hl [0] rfl)
  rw [hH, hlocs] at goal
  exact goal
theorem k_X3_ends {p : Program} {l : Launch} {e : Env} {R : Room} {s : State} {m : MethodId} {a : Array Value} {below : List Frame} {meth : Method} {c : Code} {H : Heap} {locs : List Loc} {cells slots : Nat} {Q : State → Prop} {cc : ByteArray} {own : String} {nL pc : Nat} {ls : Array Slot} {rest : List Value} {A : Nat → Prop} {E : EV} {X : va_W} {σ : St} {rv : Int32} {σf : St} (h : x_X3_ends σ = some (rv, σf)) (cx : CallFix p m c cc nL s a TBL own) (hV : AtW E (wC E σ ++ X) A s H locs) {idx : Nat} (w1 : Cond.methodLink own idx yX3_ends ∈ TBL) (hR : (rm_X3_ends).frames + 1 ≤ R.frames ∧ 8 + (1 + 11) + (rm_X3_ends).locals ≤ R.locals) (hcs : cells ≤ R.cells ∧ slots ≤ R.slots) (hls : ls.size = nL) (hcat : (rest.map fun v => v.category).sum ≤ 8) (d : decode cc pc = .ok (.invokevirtual idx, 3)) (kk : ∀ (H1 : Heap) (locs1 : List Loc), AtW E (wC E σf ++ X) A s H1 locs1 → W p l e R s m a below meth c H1 locs1 cells slots Q (F0 m (pc + 3) ls (.int rv :: rest))) : W p l e R s m a below meth c H locs cells slots Q (F0 m pc ls (.ref (eA E 57) :: rest)) :=
  r_calli (n := 0) (As := []) (q0 := 57) (ci := 3) (qq := (RX3, TX3, 9)) (c_X3_ends h) wC_fst rfl rfl mk_4_117 mk_P_26 mk_1_5 mk_4_118 (by decide +kernel) rfl ⟨rfl, rfl⟩ cx hV w1 hR hcs hls rfl hcat d kk
def x_X3_readCrate_b58 (w1 : Int32) (w2 : Int32) (σ3 : St) : Option St :=
  bd2 (x_X3_number w1 w2 σ3) fun v4 σ5 =>
  bd2 (x_X3_ends σ5) fun v6 σ7 =>
  (if v6 = 0 then
  some σ7
  else
  bd (x_X7_addCrate 1 v4 σ7) fun σ8 =>
  some σ8)
def x_X3_readCrate_b45 (w9 : Int32) (w10 : Int32) (σ11 : St) : Option St :=
  (if w9 = 0 then
  x_X3_readCrate_b58 w10 25 σ11
  else
  x_X3_readCrate_b58 w10 0 σ11)
def x_X3_readCrate_b15 (w12 : Int32) (σ13 : St) : Option St :=
  (if w12 = 0 then
  bd (x_X2_at 8 ((gI σ13 4) - 1) σ13) fun v14 =>
  x_X3_readCrate_b45 w12 (v14 + 1) σ13
  else
  x_X3_readCrate_b45 w12 0 σ13)
def x_X3_readCrate (σ : St) : Option St :=
  (if (gI σ 4) = 0 then
  x_X3_readCrate_b15 1 σ
  else
  x_X3_readCrate_b15 0 σ)
abbrev rm_X3_readCrate : Room := { frames := 3, cells := 0, slots := 0, locals := 64 }
set_option maxHeartbeats 4000000 in
set_option maxRecDepth 100000 in
theorem c_X3_readCrate {l : Launch} {E : EV} {X : va_W} {σ : St} {σf : St} (h : x_X3_readCrate σ = some σf) : CM l yX3_readCrate cX3_readCrate 4 none rm_X3_readCrate [.ref (eA E 57)] E (wC E σ ++ X) (wC E σf ++ X) qV := by
  refine CM.start (by decide) (Nat.le_of_ble_eq_true rfl) (fun p e s m a below meth c A ls cx hr hlk hV hl => ?_)
  have cx : CallFix p m c cX3_readCrate 4 s a TBL RX3 := cx
  have hx := cx.1
  have hb := cx.2.1
  have hl : lv_has ls 4 [(0, .ref (eA E 57))] := hl
  generalize hQ : EQ E (wC E σf ++ X) qV A s a below = QQ
  obtain ⟨H, hH⟩ : ∃ H, H = s.heap := ⟨_, rfl⟩
  obtain ⟨locs, hlocs⟩ : ∃ z, z = ([] : List Loc) := ⟨_, rfl⟩
  have hV : AtW E (wC E σ ++ X) A s H locs := by rw [hH, hlocs]; exact hV
  have goal : W p l e rm_X3_readCrate s m a below meth c H locs 0 0 QQ (F0 m 0 ls []) := by
    unfold x_X3_readCrate at h
    have hj58 : ∀ (w1 : Int32) (w2 : Int32) (σ3 : St) (H : Heap) (locs : List Loc) (ls : Array Slot), x_X3_readCrate_b58 w1 w2 σ3 = some σf → AtW E (wC E σ3 ++ X) A s H locs → lv_has ls 4 [(0, .ref (eA E 57))] → W p l e rm_X3_readCrate s m a below meth c H locs 0 0 QQ (F0 m 58 ls [.int w2, .int w1, .ref (eA E 57)]) := by
      intro w1 w2 σ3 H locs ls h hV hl
      unfold x_X3_readCrate_b58 at h
      refine bd2_e h (fun v4 σ5 hq h => ?_)
      refine k_X3_number hq cx hV mk_4_110 ⟨Nat.le_of_ble_eq_true rfl, Nat.le_of_ble_eq_true rfl⟩ ⟨Nat.zero_le _, Nat.zero_le _⟩ hl.1 (Nat.le_of_ble_eq_true rfl) dX3_readCrate_58 (fun H locs hV => ?_)
      refine lv_istore_n (lv' := [(3, .int v4), (0, .ref (eA E 57))]) hx hb dX3_readCrate_61 rfl hl (by decide) rfl (fun ls hl => ?_)
      refine lv_aload_n hx hb dX3_readCrate_62 rfl (lv_at hl 1 rfl) ?_
      refine bd2_e h (fun v6 σ7 hq h => ?_)
      refine k_X3_ends hq cx hV mk_4_115 ⟨Nat.le_of_ble_eq_true rfl, Nat.le_of_ble_eq_true rfl⟩ ⟨Nat.zero_le _, Nat.zero_le _⟩ hl.1 (Nat.le_of_ble_eq_true rfl) dX3_readCrate_63 (fun H locs hV => ?_)
      refine lv_if_eq (tgt := 77) hx hb dX3_readCrate_66 (by decide) (fun hc => ?_) (fun hc => ?_)
      · have h := ifp hc h
        have h1 := Option.some.inj h
        subst h1
        subst hQ
        exact r_vret cx hr hlk hV dX3_readCrate_77
      · have h := ifn hc h
        refine lv_aload_n hx hb dX3_readCrate_69 rfl (lv_at hl 1 rfl) ?_
        refine G_X3_draft cx hV mk_1_150 dX3_readCrate_70 ?_
        refine lv_iload_n hx hb dX3_readCrate_73 rfl (lv_at hl 0 rfl) ?_
        refine bd_e h (fun σ8 hq h => ?_)
        refine k_X7_addCrate (by decide) hq cx hV mk_4_123 ⟨Nat.le_of_ble_eq_true rfl, Nat.le_of_ble_eq_true rfl⟩ ⟨Nat.zero_le _, Nat.zero_le _⟩ hl.1 (Nat.le_of_ble_eq_true rfl) dX3_readCrate_74 (fun H locs hV => ?_)
        have h1 := Option.some.inj h
        subst h1
        subst hQ
        exact r_vret cx hr hlk hV dX3_readCrate_77
    have hj45 : ∀ (w9 : Int32) (w10 : Int32) (σ11 : St) (H : Heap) (locs : List Loc) (ls : Array Slot), x_X3_readCrate_b45 w9 w10 σ11 = some σf → AtW E (wC E σ11 ++ X) A s H locs → lv_has ls 4 [(0, .ref (eA E 57)), (1, .int w9)] → W p l e rm_X3_readCrate s m a below meth c H locs 0 0 QQ (F0 m 45 ls [.int w10]) := by
      intro w9 w10 σ11 H locs ls h hV hl
      unfold x_X3_readCrate_b45 at h
      refine lv_istore_n (lv' := [(2, .int w10), (0, .ref (eA E 57)), (1, .int w9)]) hx hb dX3_readCrate_45 rfl hl (by decide) rfl (fun ls hl => ?_)
      refine lv_aload_n hx hb dX3_readCrate_46 rfl (lv_at hl 1 rfl) ?_
      refine lv_iload_n hx hb dX3_readCrate_47 rfl (lv_at hl 0 rfl) ?_
      refine lv_iload_n hx hb dX3_readCrate_48 rfl (lv_at hl 2 rfl) ?_
      refine lv_if_eq (tgt := 56) hx hb dX3_readCrate_49 (by decide) (fun hc => ?_) (fun hc => ?_)
      · have h := ifp hc h
        refine lv_bipush (v := 25) hx hb dX3_readCrate_56 (by decide) ?_
        exact hj58 w10 25 σ11 _ _ _ h hV (lv_sub hl [1] rfl)
      · have h := ifn hc h
        refine lv_iconst (v := 0) hx hb dX3_readCrate_52 (by decide) ?_
        refine lv_goto (tgt := 58) hx hb dX3_readCrate_53 (by decide) ?_
        exact hj58 w10 0 σ11 _ _ _ h hV (lv_sub hl [1] rfl)
    have hj15 : ∀ (w12 : Int32) (σ13 : St) (H : Heap) (locs : List Loc) (ls : Array Slot), x_X3_readCrate_b15 w12 σ13 = some σf → AtW E (wC E σ13 ++ X) A s H locs → lv_has ls 4 [(0, .ref (eA E 57))] → W p l e rm_X3_readCrate s m a below meth c H locs 0 0 QQ (F0 m 15 ls [.int w12]) := by
      intro w12 σ13 H locs ls h hV hl
      unfold x_X3_readCrate_b15 at h
      refine lv_istore_n (lv' := [(1, .int w12), (0, .ref (eA E 57))]) hx hb dX3_readCrate_15 rfl hl (by decide) rfl (fun ls hl => ?_)
      refine lv_iload_n hx hb dX3_readCrate_16 rfl (lv_at hl 0 rfl) ?_
      refine lv_if_eq (tgt := 24) hx hb dX3_readCrate_17 (by decide) (fun hc => ?_) (fun hc => ?_)
      · have h := ifp hc h
        refine lv_aload_n hx hb dX3_readCrate_24 rfl (lv_at hl 1 rfl) ?_
        refine G_X3_draft cx hV mk_1_150 dX3_readCrate_25 ?_
        refine G_X7_letters cx hV (by decide) mk_1_71 dX3_readCrate_28 ?_
        refine lv_aload_n hx hb dX3_readCrate_31 rfl (lv_at hl 1 rfl) ?_
        refine G_X3_draft cx hV mk_1_150 dX3_readCrate_32 ?_
        refine G_X7_crates cx hV (by decide) mk_1_53 dX3_readCrate_35 ?_
        refine lv_iconst (v := 1) hx hb dX3_readCrate_38 (by decide) ?_
        refine lv_isub hx hb dX3_readCrate_39 ?_
        refine bd_e h (fun v14 hq h => ?_)
        refine k_X2_at (by decide) hq cx hV mk_4_21 ⟨Nat.le_of_ble_eq_true rfl, Nat.le_of_ble_eq_true rfl⟩ ⟨Nat.zero_le _, Nat.zero_le _⟩ hl.1 (Nat.le_of_ble_eq_true rfl) dX3_readCrate_40 (fun H locs hV => ?_)
        refine lv_iconst (v := 1) hx hb dX3_readCrate_43 (by decide) ?_
        refine lv_iadd hx hb dX3_readCrate_44 ?_
        exact hj45 w12 (v14 + 1) σ13 _ _ _ h hV (lv_sub hl [1, 0] rfl)
      · have h := ifn hc h
        refine lv_iconst (v := 0) hx hb dX3_readCrate_20 (by decide) ?_
        refine lv_goto (tgt := 45) hx hb dX3_readCrate_21 (by decide) ?_
        exact hj45 w12 0 σ13 _ _ _ h hV (lv_sub hl [1, 0] rfl)
    refine lv_aload_n hx hb dX3_readCrate_0 rfl (lv_at hl 0 rfl) ?_
    refine G_X3_draft cx hV mk_1_150 dX3_readCrate_1 ?_
    refine G_X7_crates cx hV (by decide) mk_1_53 dX3_readCrate_4 ?_
    refine lv_if_ne (tgt := 14) hx hb dX3_readCrate_7 (by decide) (fun hc => ?_) (fun hc => ?_)
    · have h := ifn hc h
      refine lv_iconst (v := 0) hx hb dX3_readCrate_14 (by decide) ?_
      exact hj15 0 σ _ _ _ h hV (lv_sub hl [0] rfl)
    · have h := ifp hc h
      refine lv_iconst (v := 1) hx hb dX3_readCrate_10 (by decide) ?_
      refine lv_goto (tgt := 15) hx hb dX3_readCrate_11 (by decide) ?_
      exact hj15 1 σ _ _ _ h hV (lv_sub hl [0] rfl)
  rw [hH, hlocs] at goal
  exact goal
theorem k_X3_readCrate {p : Program} {l : Launch} {e : Env} {R : Room} {s : State} {m : MethodId} {a : Array Value} {below : List Frame} {meth : Method} {c : Code} {H : Heap} {locs : List Loc} {cells slots : Nat} {Q : State → Prop} {cc : ByteArray} {own : String} {nL pc : Nat} {ls : Array Slot} {rest : List Value} {A : Nat → Prop} {E : EV} {X : va_W} {σ : St} {σf : St} (h : x_X3_readCrate σ = some σf) (cx : CallFix p m c cc nL s a TBL own) (hV : AtW E (wC E σ ++ X) A s H locs) {idx : Nat} (w1 : Cond.methodLink own idx yX3_readCrate ∈ TBL) (hR : (rm_X3_readCrate).frames + 1 ≤ R.frames ∧ 8 + (4 + 11) + (rm_X3_readCrate).locals ≤ R.locals) (hcs : cells ≤ R.cells ∧ slots ≤ R.slots) (hls : ls.size = nL) (hcat : (rest.map fun v => v.category).sum ≤ 8) (d : decode cc pc = .ok (.invokevirtual idx, 3)) (kk : ∀ (H1 : Heap) (locs1 : List Loc), AtW E (wC E σf ++ X) A s H1 locs1 → W p l e R s m a below meth c H1 locs1 cells slots Q (F0 m (pc + 3) ls (rest))) : W p l e R s m a below meth c H locs cells slots Q (F0 m pc ls (.ref (eA E 57) :: rest)) :=
  r_callv (n := 0) (As := []) (q0 := 57) (ci := 3) (qq := (RX3, TX3, 9)) (c_X3_readCrate h) wC_fst rfl rfl mk_4_108 mk_P_24 mk_1_5 mk_4_109 (by decide +kernel) rfl ⟨rfl, rfl⟩ cx hV w1 hR hcs hls rfl hcat d kk
def x_X3_readSleeve (σ : St) : Option St :=
  bd2 (x_X3_number 0 25 σ) fun v1 σ2 =>
  bd2 (x_X3_number 1 99 σ2) fun v3 σ4 =>
  bd2 (x_X3_number 0 9 σ4) fun v5 σ6 =>
  bd2 (x_X3_ends σ6) fun v7 σ8 =>
  (if v7 = 0 then
  some σ8
  else
  bd (x_X7_addSleeve 1 v1 v3 v5 σ8) fun σ9 =>
  some σ9)
abbrev rm_X3_readSleeve : Room := { frames := 3, cells := 0, slots := 0, locals := 69 }
set_option maxHeartbeats 4000000 in
set_option maxRecDepth 100000 in
theorem c_X3_readSleeve {l : Launch} {E : EV} {X : va_W} {σ : St} {σf : St} (h : x_X3_readSleeve σ = some σf) : CM l yX3_readSleeve cX3_readSleeve 4 none rm_X3_readSleeve [.ref (eA E 57)] E (wC E σ ++ X) (wC E σf ++ X) qV := by
  refine CM.start (by decide) (Nat.le_of_ble_eq_true rfl) (fun p e s m a below meth c A ls cx hr hlk hV hl => ?_)
  have cx : CallFix p m c cX3_readSleeve 4 s a TBL RX3 := cx
  have hx := cx.1
  have hb := cx.2.1
  have hl : lv_has ls 4 [(0, .ref (eA E 57))] := hl
  generalize hQ : EQ E (wC E σf ++ X) qV A s a below = QQ
  obtain ⟨H, hH⟩ : ∃ H, H = s.heap := ⟨_, rfl⟩
  obtain ⟨locs, hlocs⟩ : ∃ z, z = ([] : List Loc) := ⟨_, rfl⟩
  have hV : AtW E (wC E σ ++ X) A s H locs := by rw [hH, hlocs]; exact hV
  have goal : W p l e rm_X3_readSleeve s m a below meth c H locs 0 0 QQ (F0 m 0 ls []) := by
    unfold x_X3_readSleeve at h
    refine lv_aload_n hx hb dX3_readSleeve_0 rfl (lv_at hl 0 rfl) ?_
    refine lv_iconst (v := 0) hx hb dX3_readSleeve_1 (by decide) ?_
    refine lv_bipush (v := 25) hx hb dX3_readSleeve_2 (by decide) ?_
    refine bd2_e h (fun v1 σ2 hq h => ?_)
    refine k_X3_number hq cx hV mk_4_110 ⟨Nat.le_of_ble_eq_true rfl, Nat.le_of_ble_eq_true rfl⟩ ⟨Nat.zero_le _, Nat.zero_le _⟩ hl.1 (Nat.le_of_ble_eq_true rfl) dX3_readSleeve_4 (fun H locs hV => ?_)
    refine lv_istore_n (lv' := [(1, .int v1), (0, .ref (eA E 57))]) hx hb dX3_readSleeve_7 rfl hl (by decide) rfl (fun ls hl => ?_)
    refine lv_aload_n hx hb dX3_readSleeve_8 rfl (lv_at hl 1 rfl) ?_
    refine lv_iconst (v := 1) hx hb dX3_readSleeve_9 (by decide) ?_
    refine lv_bipush (v := 99) hx hb dX3_readSleeve_10 (by decide) ?_
    refine bd2_e h (fun v3 σ4 hq h => ?_)
    refine k_X3_number hq cx hV mk_4_110 ⟨Nat.le_of_ble_eq_true rfl, Nat.le_of_ble_eq_true rfl⟩ ⟨Nat.zero_le _, Nat.zero_le _⟩ hl.1 (Nat.le_of_ble_eq_true rfl) dX3_readSleeve_12 (fun H locs hV => ?_)
    refine lv_istore_n (lv' := [(2, .int v3), (1, .int v1), (0, .ref (eA E 57))]) hx hb dX3_readSleeve_15 rfl hl (by decide) rfl (fun ls hl => ?_)
    refine lv_aload_n hx hb dX3_readSleeve_16 rfl (lv_at hl 2 rfl) ?_
    refine lv_iconst (v := 0) hx hb dX3_readSleeve_17 (by decide) ?_
    refine lv_bipush (v := 9) hx hb dX3_readSleeve_18 (by decide) ?_
    refine bd2_e h (fun v5 σ6 hq h => ?_)
    refine k_X3_number hq cx hV mk_4_110 ⟨Nat.le_of_ble_eq_true rfl, Nat.le_of_ble_eq_true rfl⟩ ⟨Nat.zero_le _, Nat.zero_le _⟩ hl.1 (Nat.le_of_ble_eq_true rfl) dX3_readSleeve_20 (fun H locs hV => ?_)
    refine lv_istore_n (lv' := [(3, .int v5), (2, .int v3), (1, .int v1), (0, .ref (eA E 57))]) hx hb dX3_readSleeve_23 rfl hl (by decide) rfl (fun ls hl => ?_)
    refine lv_aload_n hx hb dX3_readSleeve_24 rfl (lv_at hl 3 rfl) ?_
    refine bd2_e h (fun v7 σ8 hq h => ?_)
    refine k_X3_ends hq cx hV mk_4_115 ⟨Nat.le_of_ble_eq_true rfl, Nat.le_of_ble_eq_true rfl⟩ ⟨Nat.zero_le _, Nat.zero_le _⟩ hl.1 (Nat.le_of_ble_eq_true rfl) dX3_readSleeve_25 (fun H locs hV => ?_)
    refine lv_if_eq (tgt := 41) hx hb dX3_readSleeve_28 (by decide) (fun hc => ?_) (fun hc => ?_)
    · have h := ifp hc h
      have h1 := Option.some.inj h
      subst h1
      subst hQ
      exact r_vret cx hr hlk hV dX3_readSleeve_41
    · have h := ifn hc h
      refine lv_aload_n hx hb dX3_readSleeve_31 rfl (lv_at hl 3 rfl) ?_
      refine G_X3_draft cx hV mk_1_150 dX3_readSleeve_32 ?_
      refine lv_iload_n hx hb dX3_readSleeve_35 rfl (lv_at hl 2 rfl) ?_
      refine lv_iload_n hx hb dX3_readSleeve_36 rfl (lv_at hl 1 rfl) ?_
      refine lv_iload_n hx hb dX3_readSleeve_37 rfl (lv_at hl 0 rfl) ?_
      refine bd_e h (fun σ9 hq h => ?_)
      refine k_X7_addSleeve (by decide) hq cx hV mk_4_131 ⟨Nat.le_of_ble_eq_true rfl, Nat.le_of_ble_eq_true rfl⟩ ⟨Nat.zero_le _, Nat.zero_le _⟩ hl.1 (Nat.le_of_ble_eq_true rfl) dX3_readSleeve_38 (fun H locs hV => ?_)
      have h1 := Option.some.inj h
      subst h1
      subst hQ
      exact r_vret cx hr hlk hV dX3_readSleeve_41
  rw [hH, hlocs] at goal
  exact goal
theorem k_X3_readSleeve {p : Program} {l : Launch} {e : Env} {R : Room} {s : State} {m : MethodId} {a : Array Value} {below : List Frame} {meth : Method} {c : Code} {H : Heap} {locs : List Loc} {cells slots : Nat} {Q : State → Prop} {cc : ByteArray} {own : String} {nL pc : Nat} {ls : Array Slot} {rest : List Value} {A : Nat → Prop} {E : EV} {X : va_W} {σ : St} {σf : St} (h : x_X3_readSleeve σ = some σf) (cx : CallFix p m c cc nL s a TBL own) (hV : AtW E (wC E σ ++ X) A s H locs) {idx : Nat} (w1 : Cond.methodLink own idx yX3_readSleeve ∈ TBL) (hR : (rm_X3_readSleeve).frames + 1 ≤ R.frames ∧ 8 + (4 + 11) + (rm_X3_readSleeve).locals ≤ R.locals) (hcs : cells ≤ R.cells ∧ slots ≤ R.slots) (hls : ls.size = nL) (hcat : (rest.map fun v => v.category).sum ≤ 8) (d : decode cc pc = .ok (.invokevirtual idx, 3)) (kk : ∀ (H1 : Heap) (locs1 : List Loc), AtW E (wC E σf ++ X) A s H1 locs1 → W p l e R s m a below meth c H1 locs1 cells slots Q (F0 m (pc + 3) ls (rest))) : W p l e R s m a below meth c H locs cells slots Q (F0 m pc ls (.ref (eA E 57) :: rest)) :=
  r_callv (n := 0) (As := []) (q0 := 57) (ci := 3) (qq := (RX3, TX3, 9)) (c_X3_readSleeve h) wC_fst rfl rfl mk_4_129 mk_P_28 mk_1_5 mk_4_130 (by decide +kernel) rfl ⟨rfl, rfl⟩ cx hV w1 hR hcs hls rfl hcat d kk
def x_X3_readLies (σ : St) : Option St :=
  bd2 (x_X3_number 0 ((gI σ 5) - 1) σ) fun v1 σ2 =>
  bd2 (x_X3_number 0 ((gI σ2 4) - 1) σ2) fun v3 σ4 =>
  bd2 (x_X3_ends σ4) fun v5 σ6 =>
  (if v5 = 0 then
  some σ6
  else
  bd (x_X2_put 10 v1 v3 σ6) fun σ7 =>
  some σ7)
abbrev rm_X3_readLies : Room := { frames := 3, cells := 0, slots := 0, locals := 64 }
set_option maxHeartbeats 4000000 in
set_option maxRecDepth 100000 in
theorem c_X3_readLies {l : Launch} {E : EV} {X : va_W} {σ : St} {σf : St} (h : x_X3_readLies σ = some σf) : CM l yX3_readLies cX3_readLies 3 none rm_X3_readLies [.ref (eA E 57)] E (wC E σ ++ X) (wC E σf ++ X) qV := by
  refine CM.start (by decide) (Nat.le_of_ble_eq_true rfl) (fun p e s m a below meth c A ls cx hr hlk hV hl => ?_)
  have cx : CallFix p m c cX3_readLies 3 s a TBL RX3 := cx
  have hx := cx.1
  have hb := cx.2.1
  have hl : lv_has ls 3 [(0, .ref (eA E 57))] := hl
  generalize hQ : EQ E (wC E σf ++ X) qV A s a below = QQ
  obtain ⟨H, hH⟩ : ∃ H, H = s.heap := ⟨_, rfl⟩
  obtain ⟨locs, hlocs⟩ : ∃ z, z = ([] : List Loc) := ⟨_, rfl⟩
  have hV : AtW E (wC E σ ++ X) A s H locs := by rw [hH, hlocs]; exact hV
  have goal : W p l e rm_X3_readLies s m a below meth c H locs 0 0 QQ (F0 m 0 ls []) := by
    unfold x_X3_readLies at h
    refine lv_aload_n hx hb dX3_readLies_0 rfl (lv_at hl 0 rfl) ?_
    refine lv_iconst (v := 0) hx hb dX3_readLies_1 (by decide) ?_
    refine lv_aload_n hx hb dX3_readLies_2 rfl (lv_at hl 0 rfl) ?_
    refine G_X3_draft cx hV mk_1_150 dX3_readLies_3 ?_
    refine G_X7_sleeves cx hV (by decide) mk_1_59 dX3_readLies_6 ?_
    refine lv_iconst (v := 1) hx hb dX3_readLies_9 (by decide) ?_
    refine lv_isub hx hb dX3_readLies_10 ?_
    refine bd2_e h (fun v1 σ2 hq h => ?_)
    refine k_X3_number hq cx hV mk_4_110 ⟨Nat.le_of_ble_eq_true rfl, Nat.le_of_ble_eq_true rfl⟩ ⟨Nat.zero_le _, Nat.zero_le _⟩ hl.1 (Nat.le_of_ble_eq_true rfl) dX3_readLies_11 (fun H locs hV => ?_)
    refine lv_istore_n (lv' := [(1, .int v1), (0, .ref (eA E 57))]) hx hb dX3_readLies_14 rfl hl (by decide) rfl (fun ls hl => ?_)
    refine lv_aload_n hx hb dX3_readLies_15 rfl (lv_at hl 1 rfl) ?_
    refine lv_iconst (v := 0) hx hb dX3_readLies_16 (by decide) ?_
    refine lv_aload_n hx hb dX3_readLies_17 rfl (lv_at hl 1 rfl) ?_
    refine G_X3_draft cx hV mk_1_150 dX3_readLies_18 ?_
    refine G_X7_crates cx hV (by decide) mk_1_53 dX3_readLies_21 ?_
    refine lv_iconst (v := 1) hx hb dX3_readLies_24 (by decide) ?_
    refine lv_isub hx hb dX3_readLies_25 ?_
    refine bd2_e h (fun v3 σ4 hq h => ?_)
    refine k_X3_number hq cx hV mk_4_110 ⟨Nat.le_of_ble_eq_true rfl, Nat.le_of_ble_eq_true rfl⟩ ⟨Nat.zero_le _, Nat.zero_le _⟩ hl.1 (Nat.le_of_ble_eq_true rfl) dX3_readLies_26 (fun H locs hV => ?_)
    refine lv_istore_n (lv' := [(2, .int v3), (1, .int v1), (0, .ref (eA E 57))]) hx hb dX3_readLies_29 rfl hl (by decide) rfl (fun ls hl => ?_)
    refine lv_aload_n hx hb dX3_readLies_30 rfl (lv_at hl 2 rfl) ?_
    refine bd2_e h (fun v5 σ6 hq h => ?_)
    refine k_X3_ends hq cx hV mk_4_115 ⟨Nat.le_of_ble_eq_true rfl, Nat.le_of_ble_eq_true rfl⟩ ⟨Nat.zero_le _, Nat.zero_le _⟩ hl.1 (Nat.le_of_ble_eq_true rfl) dX3_readLies_31 (fun H locs hV => ?_)
    refine lv_if_eq (tgt := 49) hx hb dX3_readLies_34 (by decide) (fun hc => ?_) (fun hc => ?_)
    · have h := ifp hc h
      have h1 := Option.some.inj h
      subst h1
      subst hQ
      exact r_vret cx hr hlk hV dX3_readLies_49
    · have h := ifn hc h
      refine lv_aload_n hx hb dX3_readLies_37 rfl (lv_at hl 2 rfl) ?_
      refine G_X3_draft cx hV mk_1_150 dX3_readLies_38 ?_
      refine G_X7_lying cx hV (by decide) mk_1_76 dX3_readLies_41 ?_
      refine lv_iload_n hx hb dX3_readLies_44 rfl (lv_at hl 1 rfl) ?_
      refine lv_iload_n hx hb dX3_readLies_45 rfl (lv_at hl 0 rfl) ?_
      refine bd_e h (fun σ7 hq h => ?_)
      refine k_X2_put (by decide) hq cx hV mk_4_143 ⟨Nat.le_of_ble_eq_true rfl, Nat.le_of_ble_eq_true rfl⟩ ⟨Nat.zero_le _, Nat.zero_le _⟩ hl.1 (Nat.le_of_ble_eq_true rfl) dX3_readLies_46 (fun H locs hV => ?_)
      have h1 := Option.some.inj h
      subst h1
      subst hQ
      exact r_vret cx hr hlk hV dX3_readLies_49
  rw [hH, hlocs] at goal
  exact goal
theorem k_X3_readLies {p : Program} {l : Launch} {e : Env} {R : Room} {s : State} {m : MethodId} {a : Array Value} {below : List Frame} {meth : Method} {c : Code} {H : Heap} {locs : List Loc} {cells slots : Nat} {Q : State → Prop} {cc : ByteArray} {own : String} {nL pc : Nat} {ls : Array Slot} {rest : List Value} {A : Nat → Prop} {E : EV} {X : va_W} {σ : St} {σf : St} (h : x_X3_readLies σ = some σf) (cx : CallFix p m c cc nL s a TBL own) (hV : AtW E (wC E σ ++ X) A s H locs) {idx : Nat} (w1 : Cond.methodLink own idx yX3_readLies ∈ TBL) (hR : (rm_X3_readLies).frames + 1 ≤ R.frames ∧ 8 + (3 + 11) + (rm_X3_readLies).locals ≤ R.locals) (hcs : cells ≤ R.cells ∧ slots ≤ R.slots) (hls : ls.size = nL) (hcat : (rest.map fun v => v.category).sum ≤ 8) (d : decode cc pc = .ok (.invokevirtual idx, 3)) (kk : ∀ (H1 : Heap) (locs1 : List Loc), AtW E (wC E σf ++ X) A s H1 locs1 → W p l e R s m a below meth c H1 locs1 cells slots Q (F0 m (pc + 3) ls (rest))) : W p l e R s m a below meth c H locs cells slots Q (F0 m pc ls (.ref (eA E 57) :: rest)) :=
  r_callv (n := 0) (As := []) (q0 := 57) (ci := 3) (qq := (RX3, TX3, 9)) (c_X3_readLies h) wC_fst rfl rfl mk_4_141 mk_P_30 mk_1_5 mk_4_142 (by decide +kernel) rfl ⟨rfl, rfl⟩ cx hV w1 hR hcs hls rfl hcat d kk
def x_X3_readDisc_b44 (w1 : Int32) (w2 : Int32) (σ3 : St) : Option St :=
  bd2 (x_X3_ends σ3) fun v4 σ5 =>
  (if v4 = 0 then
  some σ5
  else
  bd (x_X2_swap 11 w1 w2 σ5) fun σ6 =>
  some σ6)
def x_X3_readDisc (σ : St) : Option St :=
  bd2 (x_X3_number 0 ((gI σ 5) - 1) σ) fun v7 σ8 =>
  bd2 (x_X3_number 0 ((gI σ8 5) - 1) σ8) fun v9 σ10 =>
  (if v9 = v7 then
  bd (x_X3_blame 2 (gI σ10 14) σ10) fun σ11 =>
  x_X3_readDisc_b44 v7 v9 σ11
  else
  x_X3_readDisc_b44 v7 v9 σ10)
abbrev rm_X3_readDisc : Room := { frames := 3, cells := 0, slots := 0, locals := 64 }
set_option maxHeartbeats 4000000 in
set_option maxRecDepth 100000 in
theorem c_X3_readDisc {l : Launch} {E : EV} {X : va_W} {σ : St} {σf : St} (h : x_X3_readDisc σ = some σf) : CM l yX3_readDisc cX3_readDisc 3 none rm_X3_readDisc [.ref (eA E 57)] E (wC E σ ++ X) (wC E σf ++ X) qV := by
  refine CM.start (by decide) (Nat.le_of_ble_eq_true rfl) (fun p e s m a below meth c A ls cx hr hlk hV hl => ?_)
  have cx : CallFix p m c cX3_readDisc 3 s a TBL RX3 := cx
  have hx := cx.1
  have hb := cx.2.1
  have hl : lv_has ls 3 [(0, .ref (eA E 57))] := hl
  generalize hQ : EQ E (wC E σf ++ X) qV A s a below = QQ
  obtain ⟨H, hH⟩ : ∃ H, H = s.heap := ⟨_, rfl⟩
  obtain ⟨locs, hlocs⟩ : ∃ z, z = ([] : List Loc) := ⟨_, rfl⟩
  have hV : AtW E (wC E σ ++ X) A s H locs := by rw [hH, hlocs]; exact hV
  have goal : W p l e rm_X3_readDisc s m a below meth c H locs 0 0 QQ (F0 m 0 ls []) := by
    unfold x_X3_readDisc at h
    have hj44 : ∀ (w1 : Int32) (w2 : Int32) (σ3 : St) (H : Heap) (locs : List Loc) (ls : Array Slot), x_X3_readDisc_b44 w1 w2 σ3 = some σf → AtW E (wC E σ3 ++ X) A s H locs → lv_has ls 3 [(0, .ref (eA E 57)), (1, .int w1), (2, .int w2)] → W p l e rm_X3_readDisc s m a below meth c H locs 0 0 QQ (F0 m 44 ls []) := by
      intro w1 w2 σ3 H locs ls h hV hl
      unfold x_X3_readDisc_b44 at h
      refine lv_aload_n hx hb dX3_readDisc_44 rfl (lv_at hl 0 rfl) ?_
      refine bd2_e h (fun v4 σ5 hq h => ?_)
      refine k_X3_ends hq cx hV mk_4_115 ⟨Nat.le_of_ble_eq_true rfl, Nat.le_of_ble_eq_true rfl⟩ ⟨Nat.zero_le _, Nat.zero_le _⟩ hl.1 (Nat.le_of_ble_eq_true rfl) dX3_readDisc_45 (fun H locs hV => ?_)
      refine lv_if_eq (tgt := 63) hx hb dX3_readDisc_48 (by decide) (fun hc => ?_) (fun hc => ?_)
      · have h := ifp hc h
        have h1 := Option.some.inj h
        subst h1
        subst hQ
        exact r_vret cx hr hlk hV dX3_readDisc_63
      · have h := ifn hc h
        refine lv_aload_n hx hb dX3_readDisc_51 rfl (lv_at hl 0 rfl) ?_
        refine G_X3_draft cx hV mk_1_150 dX3_readDisc_52 ?_
        refine G_X7_discs cx hV (by decide) mk_1_79 dX3_readDisc_55 ?_
        refine lv_iload_n hx hb dX3_readDisc_58 rfl (lv_at hl 1 rfl) ?_
        refine lv_iload_n hx hb dX3_readDisc_59 rfl (lv_at hl 2 rfl) ?_
        refine bd_e h (fun σ6 hq h => ?_)
        refine k_X2_swap (by decide) hq cx hV mk_4_148 ⟨Nat.le_of_ble_eq_true rfl, Nat.le_of_ble_eq_true rfl⟩ ⟨Nat.zero_le _, Nat.zero_le _⟩ hl.1 (Nat.le_of_ble_eq_true rfl) dX3_readDisc_60 (fun H locs hV => ?_)
        have h1 := Option.some.inj h
        subst h1
        subst hQ
        exact r_vret cx hr hlk hV dX3_readDisc_63
    refine lv_aload_n hx hb dX3_readDisc_0 rfl (lv_at hl 0 rfl) ?_
    refine lv_iconst (v := 0) hx hb dX3_readDisc_1 (by decide) ?_
    refine lv_aload_n hx hb dX3_readDisc_2 rfl (lv_at hl 0 rfl) ?_
    refine G_X3_draft cx hV mk_1_150 dX3_readDisc_3 ?_
    refine G_X7_sleeves cx hV (by decide) mk_1_59 dX3_readDisc_6 ?_
    refine lv_iconst (v := 1) hx hb dX3_readDisc_9 (by decide) ?_
    refine lv_isub hx hb dX3_readDisc_10 ?_
    refine bd2_e h (fun v7 σ8 hq h => ?_)
    refine k_X3_number hq cx hV mk_4_110 ⟨Nat.le_of_ble_eq_true rfl, Nat.le_of_ble_eq_true rfl⟩ ⟨Nat.zero_le _, Nat.zero_le _⟩ hl.1 (Nat.le_of_ble_eq_true rfl) dX3_readDisc_11 (fun H locs hV => ?_)
    refine lv_istore_n (lv' := [(1, .int v7), (0, .ref (eA E 57))]) hx hb dX3_readDisc_14 rfl hl (by decide) rfl (fun ls hl => ?_)
    refine lv_aload_n hx hb dX3_readDisc_15 rfl (lv_at hl 1 rfl) ?_
    refine lv_iconst (v := 0) hx hb dX3_readDisc_16 (by decide) ?_
    refine lv_aload_n hx hb dX3_readDisc_17 rfl (lv_at hl 1 rfl) ?_
    refine G_X3_draft cx hV mk_1_150 dX3_readDisc_18 ?_
    refine G_X7_sleeves cx hV (by decide) mk_1_59 dX3_readDisc_21 ?_
    refine lv_iconst (v := 1) hx hb dX3_readDisc_24 (by decide) ?_
    refine lv_isub hx hb dX3_readDisc_25 ?_
    refine bd2_e h (fun v9 σ10 hq h => ?_)
    refine k_X3_number hq cx hV mk_4_110 ⟨Nat.le_of_ble_eq_true rfl, Nat.le_of_ble_eq_true rfl⟩ ⟨Nat.zero_le _, Nat.zero_le _⟩ hl.1 (Nat.le_of_ble_eq_true rfl) dX3_readDisc_26 (fun H locs hV => ?_)
    refine lv_istore_n (lv' := [(2, .int v9), (1, .int v7), (0, .ref (eA E 57))]) hx hb dX3_readDisc_29 rfl hl (by decide) rfl (fun ls hl => ?_)
    refine lv_iload_n hx hb dX3_readDisc_30 rfl (lv_at hl 0 rfl) ?_
    refine lv_iload_n hx hb dX3_readDisc_31 rfl (lv_at hl 1 rfl) ?_
    refine lv_icmp_ne (tgt := 44) hx hb dX3_readDisc_32 (by decide) (fun hc => ?_) (fun hc => ?_)
    · have h := ifn hc h
      exact hj44 v7 v9 σ10 _ _ _ h hV (lv_sub hl [2, 1, 0] rfl)
    · have h := ifp hc h
      refine lv_aload_n hx hb dX3_readDisc_35 rfl (lv_at hl 2 rfl) ?_
      refine lv_iconst (v := 2) hx hb dX3_readDisc_36 (by decide) ?_
      refine lv_aload_n hx hb dX3_readDisc_37 rfl (lv_at hl 2 rfl) ?_
      refine G_X3_numberPlace cx hV mk_1_157 dX3_readDisc_38 ?_
      refine bd_e h (fun σ11 hq h => ?_)
      refine k_X3_blame hq cx hV mk_4_98 ⟨Nat.le_of_ble_eq_true rfl, Nat.le_of_ble_eq_true rfl⟩ ⟨Nat.zero_le _, Nat.zero_le _⟩ hl.1 (Nat.le_of_ble_eq_true rfl) dX3_readDisc_41 (fun H locs hV => ?_)
      exact hj44 v7 v9 σ11 _ _ _ h hV (lv_sub hl [2, 1, 0] rfl)
  rw [hH, hlocs] at goal
  exact goal
theorem k_X3_readDisc {p : Program} {l : Launch} {e : Env} {R : Room} {s : State} {m : MethodId} {a : Array Value} {below : List Frame} {meth : Method} {c : Code} {H : Heap} {locs : List Loc} {cells slots : Nat} {Q : State → Prop} {cc : ByteArray} {own : String} {nL pc : Nat} {ls : Array Slot} {rest : List Value} {A : Nat → Prop} {E : EV} {X : va_W} {σ : St} {σf : St} (h : x_X3_readDisc σ = some σf) (cx : CallFix p m c cc nL s a TBL own) (hV : AtW E (wC E σ ++ X) A s H locs) {idx : Nat} (w1 : Cond.methodLink own idx yX3_readDisc ∈ TBL) (hR : (rm_X3_readDisc).frames + 1 ≤ R.frames ∧ 8 + (3 + 11) + (rm_X3_readDisc).locals ≤ R.locals) (hcs : cells ≤ R.cells ∧ slots ≤ R.slots) (hls : ls.size = nL) (hcat : (rest.map fun v => v.category).sum ≤ 8) (d : decode cc pc = .ok (.invokevirtual idx, 3)) (kk : ∀ (H1 : Heap) (locs1 : List Loc), AtW E (wC E σf ++ X) A s H1 locs1 → W p l e R s m a below meth c H1 locs1 cells slots Q (F0 m (pc + 3) ls (rest))) : W p l e R s m a below meth c H locs cells slots Q (F0 m pc ls (.ref (eA E 57) :: rest)) :=
  r_callv (n := 0) (As := []) (q0 := 57) (ci := 3) (qq := (RX3, TX3, 9)) (c_X3_readDisc h) wC_fst rfl rfl mk_4_146 mk_P_31 mk_1_5 mk_4_147 (by decide +kernel) rfl ⟨rfl, rfl⟩ cx hV w1 hR hcs hls rfl hcat d kk
def x_X3_readLooker (σ : St) : Option St :=
  bd2 (x_X3_number 0 600 σ) fun v1 σ2 =>
  bd2 (x_X3_number 1 8 σ2) fun v3 σ4 =>
  bd2 (x_X3_number 0 9 σ4) fun v5 σ6 =>
  bd2 (x_X3_number 0 99 σ6) fun v7 σ8 =>
  bd2 (x_X3_number 0 999 σ8) fun v9 σ10 =>
  bd2 (x_X3_ends σ10) fun v11 σ12 =>
  (if v11 = 0 then
  some σ12
  else
  bd (x_X7_addLooker 1 v1 v3 v5 v7 v9 σ12) fun σ13 =>
  some σ13)
abbrev rm_X3_readLooker : Room := { frames := 3, cells := 0, slots := 0, locals := 64 }
set_option maxHeartbeats 4000000 in
set_option maxRecDepth 100000 in
theorem c_X3_readLooker {l : Launch} {E : EV} {X : va_W} {σ : St} {σf : St} (h : x_X3_readLooker σ = some σf) : CM l yX3_readLooker cX3_readLooker 6 none rm_X3_readLooker [.ref (eA E 57)] E (wC E σ ++ X) (wC E σf ++ X) qV := by
  refine CM.start (by decide) (Nat.le_of_ble_eq_true rfl) (fun p e s m a below meth c A ls cx hr hlk hV hl => ?_)
  have cx : CallFix p m c cX3_readLooker 6 s a TBL RX3 := cx
  have hx := cx.1
  have hb := cx.2.1
  have hl : lv_has ls 6 [(0, .ref (eA E 57))] := hl
  generalize hQ : EQ E (wC E σf ++ X) qV A s a below = QQ
  obtain ⟨H, hH⟩ : ∃ H, H = s.heap := ⟨_, rfl⟩
  obtain ⟨locs, hlocs⟩ : ∃ z, z = ([] : List Loc) := ⟨_, rfl⟩
  have hV : AtW E (wC E σ ++ X) A s H locs := by rw [hH, hlocs]; exact hV
  have goal : W p l e rm_X3_readLooker s m a below meth c H locs 0 0 QQ (F0 m 0 ls []) := by
    unfold x_X3_readLooker at h
    refine lv_aload_n hx hb dX3_readLooker_0 rfl (lv_at hl 0 rfl) ?_
    refine lv_iconst (v := 0) hx hb dX3_readLooker_1 (by decide) ?_
    refine lv_sipush (v := 600) hx hb dX3_readLooker_2 (by decide) ?_
    refine bd2_e h (fun v1 σ2 hq h => ?_)
    refine k_X3_number hq cx hV mk_4_110 ⟨Nat.le_of_ble_eq_true rfl, Nat.le_of_ble_eq_true rfl⟩ ⟨Nat.zero_le _, Nat.zero_le _⟩ hl.1 (Nat.le_of_ble_eq_true rfl) dX3_readLooker_5 (fun H locs hV => ?_)
    refine lv_istore_n (lv' := [(1, .int v1), (0, .ref (eA E 57))]) hx hb dX3_readLooker_8 rfl hl (by decide) rfl (fun ls hl => ?_)
    refine lv_aload_n hx hb dX3_readLooker_9 rfl (lv_at hl 1 rfl) ?_
    refine lv_iconst (v := 1) hx hb dX3_readLooker_10 (by decide) ?_
    refine lv_bipush (v := 8) hx hb dX3_readLooker_11 (by decide) ?_
    refine bd2_e h (fun v3 σ4 hq h => ?_)
    refine k_X3_number hq cx hV mk_4_110 ⟨Nat.le_of_ble_eq_true rfl, Nat.le_of_ble_eq_true rfl⟩ ⟨Nat.zero_le _, Nat.zero_le _⟩ hl.1 (Nat.le_of_ble_eq_true rfl) dX3_readLooker_13 (fun H locs hV => ?_)
    refine lv_istore_n (lv' := [(2, .int v3), (1, .int v1), (0, .ref (eA E 57))]) hx hb dX3_readLooker_16 rfl hl (by decide) rfl (fun ls hl => ?_)
    refine lv_aload_n hx hb dX3_readLooker_17 rfl (lv_at hl 2 rfl) ?_
    refine lv_iconst (v := 0) hx hb dX3_readLooker_18 (by decide) ?_
    refine lv_bipush (v := 9) hx hb dX3_readLooker_19 (by decide) ?_
    refine bd2_e h (fun v5 σ6 hq h => ?_)
    refine k_X3_number hq cx hV mk_4_110 ⟨Nat.le_of_ble_eq_true rfl, Nat.le_of_ble_eq_true rfl⟩ ⟨Nat.zero_le _, Nat.zero_le _⟩ hl.1 (Nat.le_of_ble_eq_true rfl) dX3_readLooker_21 (fun H locs hV => ?_)
    refine lv_istore_n (lv' := [(3, .int v5), (2, .int v3), (1, .int v1), (0, .ref (eA E 57))]) hx hb dX3_readLooker_24 rfl hl (by decide) rfl (fun ls hl => ?_)
    refine lv_aload_n hx hb dX3_readLooker_25 rfl (lv_at hl 3 rfl) ?_
    refine lv_iconst (v := 0) hx hb dX3_readLooker_26 (by decide) ?_
    refine lv_bipush (v := 99) hx hb dX3_readLooker_27 (by decide) ?_
    refine bd2_e h (fun v7 σ8 hq h => ?_)
    refine k_X3_number hq cx hV mk_4_110 ⟨Nat.le_of_ble_eq_true rfl, Nat.le_of_ble_eq_true rfl⟩ ⟨Nat.zero_le _, Nat.zero_le _⟩ hl.1 (Nat.le_of_ble_eq_true rfl) dX3_readLooker_29 (fun H locs hV => ?_)
    refine lv_istore (lv' := [(4, .int v7), (3, .int v5), (2, .int v3), (1, .int v1), (0, .ref (eA E 57))]) hx hb dX3_readLooker_32 hl (by decide) rfl (fun ls hl => ?_)
    refine lv_aload_n hx hb dX3_readLooker_34 rfl (lv_at hl 4 rfl) ?_
    refine lv_iconst (v := 0) hx hb dX3_readLooker_35 (by decide) ?_
    refine lv_sipush (v := 999) hx hb dX3_readLooker_36 (by decide) ?_
    refine bd2_e h (fun v9 σ10 hq h => ?_)
    refine k_X3_number hq cx hV mk_4_110 ⟨Nat.le_of_ble_eq_true rfl, Nat.le_of_ble_eq_true rfl⟩ ⟨Nat.zero_le _, Nat.zero_le _⟩ hl.1 (Nat.le_of_ble_eq_true rfl) dX3_readLooker_39 (fun H locs hV => ?_)
    refine lv_istore (lv' := [(5, .int v9), (4, .int v7), (3, .int v5), (2, .int v3), (1, .int v1), (0, .ref (eA E 57))]) hx hb dX3_readLooker_42 hl (by decide) rfl (fun ls hl => ?_)
    refine lv_aload_n hx hb dX3_readLooker_44 rfl (lv_at hl 5 rfl) ?_
    refine bd2_e h (fun v11 σ12 hq h => ?_)
    refine k_X3_ends hq cx hV mk_4_115 ⟨Nat.le_of_ble_eq_true rfl, Nat.le_of_ble_eq_true rfl⟩ ⟨Nat.zero_le _, Nat.zero_le _⟩ hl.1 (Nat.le_of_ble_eq_true rfl) dX3_readLooker_45 (fun H locs hV => ?_)
    refine lv_if_eq (tgt := 65) hx hb dX3_readLooker_48 (by decide) (fun hc => ?_) (fun hc => ?_)
    · have h := ifp hc h
      have h1 := Option.some.inj h
      subst h1
      subst hQ
      exact r_vret cx hr hlk hV dX3_readLooker_65
    · have h := ifn hc h
      refine lv_aload_n hx hb dX3_readLooker_51 rfl (lv_at hl 5 rfl) ?_
      refine G_X3_draft cx hV mk_1_150 dX3_readLooker_52 ?_
      refine lv_iload_n hx hb dX3_readLooker_55 rfl (lv_at hl 4 rfl) ?_
      refine lv_iload_n hx hb dX3_readLooker_56 rfl (lv_at hl 3 rfl) ?_
      refine lv_iload_n hx hb dX3_readLooker_57 rfl (lv_at hl 2 rfl) ?_
      refine lv_iload hx hb dX3_readLooker_58 (lv_at hl 1 rfl) ?_
      refine lv_iload hx hb dX3_readLooker_60 (lv_at hl 0 rfl) ?_
      refine bd_e h (fun σ13 hq h => ?_)
      refine k_X7_addLooker (by decide) hq cx hV mk_4_153 ⟨Nat.le_of_ble_eq_true rfl, Nat.le_of_ble_eq_true rfl⟩ ⟨Nat.zero_le _, Nat.zero_le _⟩ hl.1 (Nat.le_of_ble_eq_true rfl) dX3_readLooker_62 (fun H locs hV => ?_)
      have h1 := Option.some.inj h
      subst h1
      subst hQ
      exact r_vret cx hr hlk hV dX3_readLooker_65
  rw [hH, hlocs] at goal
  exact goal
theorem k_X3_readLooker {p : Program} {l : Launch} {e : Env} {R : Room} {s : State} {m : MethodId} {a : Array Value} {below : List Frame} {meth : Method} {c : Code} {H : Heap} {locs : List Loc} {cells slots : Nat} {Q : State → Prop} {cc : ByteArray} {own : String} {nL pc : Nat} {ls : Array Slot} {rest : List Value} {A : Nat → Prop} {E : EV} {X : va_W} {σ : St} {σf : St} (h : x_X3_readLooker σ = some σf) (cx : CallFix p m c cc nL s a TBL own) (hV : AtW E (wC E σ ++ X) A s H locs) {idx : Nat} (w1 : Cond.methodLink own idx yX3_readLooker ∈ TBL) (hR : (rm_X3_readLooker).frames + 1 ≤ R.frames ∧ 8 + (6 + 11) + (rm_X3_readLooker).locals ≤ R.locals) (hcs : cells ≤ R.cells ∧ slots ≤ R.slots) (hls : ls.size = nL) (hcat : (rest.map fun v => v.category).sum ≤ 8) (d : decode cc pc = .ok (.invokevirtual idx, 3)) (kk : ∀ (H1 : Heap) (locs1 : List Loc), AtW E (wC E σf ++ X) A s H1 locs1 → W p l e R s m a below meth c H1 locs1 cells slots Q (F0 m (pc + 3) ls (rest))) : W p l e R s m a below meth c H locs cells slots Q (F0 m pc ls (.ref (eA E 57) :: rest)) :=
  r_callv (n := 0) (As := []) (q0 := 57) (ci := 3) (qq := (RX3, TX3, 9)) (c_X3_readLooker h) wC_fst rfl rfl mk_4_151 mk_P_32 mk_1_5 mk_4_152 (by decide +kernel) rfl ⟨rfl, rfl⟩ cx hV w1 hR hcs hls rfl hcat d kk
def x_X3_readLeft (σ : St) : Option St :=
  bd2 (x_X3_number 0 ((gI σ 6) - 1) σ) fun v1 σ2 =>
  bd2 (x_X3_ends σ2) fun v3 σ4 =>
  (if v3 = 0 then
  some σ4
  else
  bd (x_X7_turnLeft 1 v1 σ4) fun σ5 =>
  some σ5)
abbrev rm_X3_readLeft : Room := { frames := 3, cells := 0, slots := 0, locals := 64 }
set_option maxHeartbeats 4000000 in
set_option maxRecDepth 100000 in
theorem c_X3_readLeft {l : Launch} {E : EV} {X : va_W} {σ : St} {σf : St} (h : x_X3_readLeft σ = some σf) : CM l yX3_readLeft cX3_readLeft 2 none rm_X3_readLeft [.ref (eA E 57)] E (wC E σ ++ X) (wC E σf ++ X) qV := by
  refine CM.start (by decide) (Nat.le_of_ble_eq_true rfl) (fun p e s m a below meth c A ls cx hr hlk hV hl => ?_)
  have cx : CallFix p m c cX3_readLeft 2 s a TBL RX3 := cx
  have hx := cx.1
  have hb := cx.2.1
  have hl : lv_has ls 2 [(0, .ref (eA E 57))] := hl
  generalize hQ : EQ E (wC E σf ++ X) qV A s a below = QQ
  obtain ⟨H, hH⟩ : ∃ H, H = s.heap := ⟨_, rfl⟩
  obtain ⟨locs, hlocs⟩ : ∃ z, z = ([] : List Loc) := ⟨_, rfl⟩
  have hV : AtW E (wC E σ ++ X) A s H locs := by rw [hH, hlocs]; exact hV
  have goal : W p l e rm_X3_readLeft s m a below meth c H locs 0 0 QQ (F0 m 0 ls []) := by
    unfold x_X3_readLeft at h
    refine lv_aload_n hx hb dX3_readLeft_0 rfl (lv_at hl 0 rfl) ?_
    refine lv_iconst (v := 0) hx hb dX3_readLeft_1 (by decide) ?_
    refine lv_aload_n hx hb dX3_readLeft_2 rfl (lv_at hl 0 rfl) ?_
    refine G_X3_draft cx hV mk_1_150 dX3_readLeft_3 ?_
    refine G_X7_lookers cx hV (by decide) mk_1_64 dX3_readLeft_6 ?_
    refine lv_iconst (v := 1) hx hb dX3_readLeft_9 (by decide) ?_
    refine lv_isub hx hb dX3_readLeft_10 ?_
    refine bd2_e h (fun v1 σ2 hq h => ?_)
    refine k_X3_number hq cx hV mk_4_110 ⟨Nat.le_of_ble_eq_true rfl, Nat.le_of_ble_eq_true rfl⟩ ⟨Nat.zero_le _, Nat.zero_le _⟩ hl.1 (Nat.le_of_ble_eq_true rfl) dX3_readLeft_11 (fun H locs hV => ?_)
    refine lv_istore_n (lv' := [(1, .int v1), (0, .ref (eA E 57))]) hx hb dX3_readLeft_14 rfl hl (by decide) rfl (fun ls hl => ?_)
    refine lv_aload_n hx hb dX3_readLeft_15 rfl (lv_at hl 1 rfl) ?_
    refine bd2_e h (fun v3 σ4 hq h => ?_)
    refine k_X3_ends hq cx hV mk_4_115 ⟨Nat.le_of_ble_eq_true rfl, Nat.le_of_ble_eq_true rfl⟩ ⟨Nat.zero_le _, Nat.zero_le _⟩ hl.1 (Nat.le_of_ble_eq_true rfl) dX3_readLeft_16 (fun H locs hV => ?_)
    refine lv_if_eq (tgt := 30) hx hb dX3_readLeft_19 (by decide) (fun hc => ?_) (fun hc => ?_)
    · have h := ifp hc h
      have h1 := Option.some.inj h
      subst h1
      subst hQ
      exact r_vret cx hr hlk hV dX3_readLeft_30
    · have h := ifn hc h
      refine lv_aload_n hx hb dX3_readLeft_22 rfl (lv_at hl 1 rfl) ?_
      refine G_X3_draft cx hV mk_1_150 dX3_readLeft_23 ?_
      refine lv_iload_n hx hb dX3_readLeft_26 rfl (lv_at hl 0 rfl) ?_
      refine bd_e h (fun σ5 hq h => ?_)
      refine k_X7_turnLeft (by decide) hq cx hV mk_4_161 ⟨Nat.le_of_ble_eq_true rfl, Nat.le_of_ble_eq_true rfl⟩ ⟨Nat.zero_le _, Nat.zero_le _⟩ hl.1 (Nat.le_of_ble_eq_true rfl) dX3_readLeft_27 (fun H locs hV => ?_)
      have h1 := Option.some.inj h
      subst h1
      subst hQ
      exact r_vret cx hr hlk hV dX3_readLeft_30
  rw [hH, hlocs] at goal
  exact goal
theorem k_X3_readLeft {p : Program} {l : Launch} {e : Env} {R : Room} {s : State} {m : MethodId} {a : Array Value} {below : List Frame} {meth : Method} {c : Code} {H : Heap} {locs : List Loc} {cells slots : Nat} {Q : State → Prop} {cc : ByteArray} {own : String} {nL pc : Nat} {ls : Array Slot} {rest : List Value} {A : Nat → Prop} {E : EV} {X : va_W} {σ : St} {σf : St} (h : x_X3_readLeft σ = some σf) (cx : CallFix p m c cc nL s a TBL own) (hV : AtW E (wC E σ ++ X) A s H locs) {idx : Nat} (w1 : Cond.methodLink own idx yX3_readLeft ∈ TBL) (hR : (rm_X3_readLeft).frames + 1 ≤ R.frames ∧ 8 + (2 + 11) + (rm_X3_readLeft).locals ≤ R.locals) (hcs : cells ≤ R.cells ∧ slots ≤ R.slots) (hls : ls.size = nL) (hcat : (rest.map fun v => v.category).sum ≤ 8) (d : decode cc pc = .ok (.invokevirtual idx, 3)) (kk : ∀ (H1 : Heap) (locs1 : List Loc), AtW E (wC E σf ++ X) A s H1 locs1 → W p l e R s m a below meth c H1 locs1 cells slots Q (F0 m (pc + 3) ls (rest))) : W p l e R s m a below meth c H locs cells slots Q (F0 m pc ls (.ref (eA E 57) :: rest)) :=
  r_callv (n := 0) (As := []) (q0 := 57) (ci := 3) (qq := (RX3, TX3, 9)) (c_X3_readLeft h) wC_fst rfl rfl mk_4_159 mk_P_33 mk_1_5 mk_4_160 (by decide +kernel) rfl ⟨rfl, rfl⟩ cx hV w1 hR hcs hls rfl hcat d kk
def x_X3_readMiss (σ : St) : Option St :=
  bd2 (x_X3_number 1 8 σ) fun v1 σ2 =>
  bd2 (x_X3_number 0 8 σ2) fun v3 σ4 =>
  bd2 (x_X3_ends σ4) fun v5 σ6 =>
  (if v5 = 0 then
  some σ6
  else
  bd (x_X2_put 13 v1 v3 σ6) fun σ7 =>
  some σ7)
abbrev rm_X3_readMiss : Room := { frames := 3, cells := 0, slots := 0, locals := 64 }
set_option maxHeartbeats 4000000 in
set_option maxRecDepth 100000 in
theorem c_X3_readMiss {l : Launch} {E : EV} {X : va_W} {σ : St} {σf : St} (h : x_X3_readMiss σ = some σf) : CM l yX3_readMiss cX3_readMiss 3 none rm_X3_readMiss [.ref (eA E 57)] E (wC E σ ++ X) (wC E σf ++ X) qV := by
  refine CM.start (by decide) (Nat.le_of_ble_eq_true rfl) (fun p e s m a below meth c A ls cx hr hlk hV hl => ?_)
  have cx : CallFix p m c cX3_readMiss 3 s a TBL RX3 := cx
  have hx := cx.1
  have hb := cx.2.1
  have hl : lv_has ls 3 [(0, .ref (eA E 57))] := hl
  generalize hQ : EQ E (wC E σf ++ X) qV A s a below = QQ
  obtain ⟨H, hH⟩ : ∃ H, H = s.heap := ⟨_, rfl⟩
  obtain ⟨locs, hlocs⟩ : ∃ z, z = ([] : List Loc) := ⟨_, rfl⟩
  have hV : AtW E (wC E σ ++ X) A s H locs := by rw [hH, hlocs]; exact hV
  have goal : W p l e rm_X3_readMiss s m a below meth c H locs 0 0 QQ (F0 m 0 ls []) := by
    unfold x_X3_readMiss at h
    refine lv_aload_n hx hb dX3_readMiss_0 rfl (lv_at hl 0 rfl) ?_
    refine lv_iconst (v := 1) hx hb dX3_readMiss_1 (by decide) ?_
    refine lv_bipush (v := 8) hx hb dX3_readMiss_2 (by decide) ?_
    refine bd2_e h (fun v1 σ2 hq h => ?_)
    refine k_X3_number hq cx hV mk_4_110 ⟨Nat.le_of_ble_eq_true rfl, Nat.le_of_ble_eq_true rfl⟩ ⟨Nat.zero_le _, Nat.zero_le _⟩ hl.1 (Nat.le_of_ble_eq_true rfl) dX3_readMiss_4 (fun H locs hV => ?_)
    refine lv_istore_n (lv' := [(1, .int v1), (0, .ref (eA E 57))]) hx hb dX3_readMiss_7 rfl hl (by decide) rfl (fun ls hl => ?_)
    refine lv_aload_n hx hb dX3_readMiss_8 rfl (lv_at hl 1 rfl) ?_
    refine lv_iconst (v := 0) hx hb dX3_readMiss_9 (by decide) ?_
    refine lv_bipush (v := 8) hx hb dX3_readMiss_10 (by decide) ?_
    refine bd2_e h (fun v3 σ4 hq h => ?_)
    refine k_X3_number hq cx hV mk_4_110 ⟨Nat.le_of_ble_eq_true rfl, Nat.le_of_ble_eq_true rfl⟩ ⟨Nat.zero_le _, Nat.zero_le _⟩ hl.1 (Nat.le_of_ble_eq_true rfl) dX3_readMiss_12 (fun H locs hV => ?_)
    refine lv_istore_n (lv' := [(2, .int v3), (1, .int v1), (0, .ref (eA E 57))]) hx hb dX3_readMiss_15 rfl hl (by decide) rfl (fun ls hl => ?_)
    refine lv_aload_n hx hb dX3_readMiss_16 rfl (lv_at hl 2 rfl) ?_
    refine bd2_e h (fun v5 σ6 hq h => ?_)
    refine k_X3_ends hq cx hV mk_4_115 ⟨Nat.le_of_ble_eq_true rfl, Nat.le_of_ble_eq_true rfl⟩ ⟨Nat.zero_le _, Nat.zero_le _⟩ hl.1 (Nat.le_of_ble_eq_true rfl) dX3_readMiss_17 (fun H locs hV => ?_)
    refine lv_if_eq (tgt := 35) hx hb dX3_readMiss_20 (by decide) (fun hc => ?_) (fun hc => ?_)
    · have h := ifp hc h
      have h1 := Option.some.inj h
      subst h1
      subst hQ
      exact r_vret cx hr hlk hV dX3_readMiss_35
    · have h := ifn hc h
      refine lv_aload_n hx hb dX3_readMiss_23 rfl (lv_at hl 2 rfl) ?_
      refine G_X3_draft cx hV mk_1_150 dX3_readMiss_24 ?_
      refine G_X7_misses cx hV (by decide) mk_1_83 dX3_readMiss_27 ?_
      refine lv_iload_n hx hb dX3_readMiss_30 rfl (lv_at hl 1 rfl) ?_
      refine lv_iload_n hx hb dX3_readMiss_31 rfl (lv_at hl 0 rfl) ?_
      refine bd_e h (fun σ7 hq h => ?_)
      refine k_X2_put (by decide) hq cx hV mk_4_143 ⟨Nat.le_of_ble_eq_true rfl, Nat.le_of_ble_eq_true rfl⟩ ⟨Nat.zero_le _, Nat.zero_le _⟩ hl.1 (Nat.le_of_ble_eq_true rfl) dX3_readMiss_32 (fun H locs hV => ?_)
      have h1 := Option.some.inj h
      subst h1
      subst hQ
      exact r_vret cx hr hlk hV dX3_readMiss_35
  rw [hH, hlocs] at goal
  exact goal
theorem k_X3_readMiss {p : Program} {l : Launch} {e : Env} {R : Room} {s : State} {m : MethodId} {a : Array Value} {below : List Frame} {meth : Method} {c : Code} {H : Heap} {locs : List Loc} {cells slots : Nat} {Q : State → Prop} {cc : ByteArray} {own : String} {nL pc : Nat} {ls : Array Slot} {rest : List Value} {A : Nat → Prop} {E : EV} {X : va_W} {σ : St} {σf : St} (h : x_X3_readMiss σ = some σf) (cx : CallFix p m c cc nL s a TBL own) (hV : AtW E (wC E σ ++ X) A s H locs) {idx : Nat} (w1 : Cond.methodLink own idx yX3_readMiss ∈ TBL) (hR : (rm_X3_readMiss).frames + 1 ≤ R.frames ∧ 8 + (3 + 11) + (rm_X3_readMiss).locals ≤ R.locals) (hcs : cells ≤ R.cells ∧ slots ≤ R.slots) (hls : ls.size = nL) (hcat : (rest.map fun v => v.category).sum ≤ 8) (d : decode cc pc = .ok (.invokevirtual idx, 3)) (kk : ∀ (H1 : Heap) (locs1 : List Loc), AtW E (wC E σf ++ X) A s H1 locs1 → W p l e R s m a below meth c H1 locs1 cells slots Q (F0 m (pc + 3) ls (rest))) : W p l e R s m a below meth c H locs cells slots Q (F0 m pc ls (.ref (eA E 57) :: rest)) :=
  r_callv (n := 0) (As := []) (q0 := 57) (ci := 3) (qq := (RX3, TX3, 9)) (c_X3_readMiss h) wC_fst rfl rfl mk_4_167 mk_P_34 mk_1_5 mk_4_168 (by decide +kernel) rfl ⟨rfl, rfl⟩ cx hV w1 hR hcs hls rfl hcat d kk
def x_X3_readStop (σ : St) : Option St :=
  bd2 (x_X3_number 0 30 σ) fun v1 σ2 =>
  bd2 (x_X3_ends σ2) fun v3 σ4 =>
  (if v3 = 0 then
  some σ4
  else
  bd (some (sI σ4 7 v1)) fun σ5 =>
  some σ5)
abbrev rm_X3_readStop : Room := { frames := 3, cells := 0, slots := 0, locals := 64 }
set_option maxHeartbeats 4000000 in
set_option maxRecDepth 100000 in
theorem c_X3_readStop {l : Launch} {E : EV} {X : va_W} {σ : St} {σf : St} (h : x_X3_readStop σ = some σf) : CM l yX3_readStop cX3_readStop 2 none rm_X3_readStop [.ref (eA E 57)] E (wC E σ ++ X) (wC E σf ++ X) qV := by
  refine CM.start (by decide) (Nat.le_of_ble_eq_true rfl) (fun p e s m a below meth c A ls cx hr hlk hV hl => ?_)
  have cx : CallFix p m c cX3_readStop 2 s a TBL RX3 := cx
  have hx := cx.1
  have hb := cx.2.1
  have hl : lv_has ls 2 [(0, .ref (eA E 57))] := hl
  generalize hQ : EQ E (wC E σf ++ X) qV A s a below = QQ
  obtain ⟨H, hH⟩ : ∃ H, H = s.heap := ⟨_, rfl⟩
  obtain ⟨locs, hlocs⟩ : ∃ z, z = ([] : List Loc) := ⟨_, rfl⟩
  have hV : AtW E (wC E σ ++ X) A s H locs := by rw [hH, hlocs]; exact hV
  have goal : W p l e rm_X3_readStop s m a below meth c H locs 0 0 QQ (F0 m 0 ls []) := by
    unfold x_X3_readStop at h
    refine lv_aload_n hx hb dX3_readStop_0 rfl (lv_at hl 0 rfl) ?_
    refine lv_iconst (v := 0) hx hb dX3_readStop_1 (by decide) ?_
    refine lv_bipush (v := 30) hx hb dX3_readStop_2 (by decide) ?_
    refine bd2_e h (fun v1 σ2 hq h => ?_)
    refine k_X3_number hq cx hV mk_4_110 ⟨Nat.le_of_ble_eq_true rfl, Nat.le_of_ble_eq_true rfl⟩ ⟨Nat.zero_le _, Nat.zero_le _⟩ hl.1 (Nat.le_of_ble_eq_true rfl) dX3_readStop_4 (fun H locs hV => ?_)
    refine lv_istore_n (lv' := [(1, .int v1), (0, .ref (eA E 57))]) hx hb dX3_readStop_7 rfl hl (by decide) rfl (fun ls hl => ?_)
    refine lv_aload_n hx hb dX3_readStop_8 rfl (lv_at hl 1 rfl) ?_
    refine bd2_e h (fun v3 σ4 hq h => ?_)
    refine k_X3_ends hq cx hV mk_4_115 ⟨Nat.le_of_ble_eq_true rfl, Nat.le_of_ble_eq_true rfl⟩ ⟨Nat.zero_le _, Nat.zero_le _⟩ hl.1 (Nat.le_of_ble_eq_true rfl) dX3_readStop_9 (fun H locs hV => ?_)
    refine lv_if_eq (tgt := 23) hx hb dX3_readStop_12 (by decide) (fun hc => ?_) (fun hc => ?_)
    · have h := ifp hc h
      have h1 := Option.some.inj h
      subst h1
      subst hQ
      exact r_vret cx hr hlk hV dX3_readStop_23
    · have h := ifn hc h
      refine lv_aload_n hx hb dX3_readStop_15 rfl (lv_at hl 1 rfl) ?_
      refine G_X3_draft cx hV mk_1_150 dX3_readStop_16 ?_
      refine lv_iload_n hx hb dX3_readStop_19 rfl (lv_at hl 0 rfl) ?_
      refine bd_e h (fun σ5 hq h => ?_)
      refine P_X7_stop cx hV (by decide) hq mk_1_69 dX3_readStop_20 (fun H locs hV => ?_)
      have h1 := Option.some.inj h
      subst h1
      subst hQ
      exact r_vret cx hr hlk hV dX3_readStop_23
  rw [hH, hlocs] at goal
  exact goal
theorem k_X3_readStop {p : Program} {l : Launch} {e : Env} {R : Room} {s : State} {m : MethodId} {a : Array Value} {below : List Frame} {meth : Method} {c : Code} {H : Heap} {locs : List Loc} {cells slots : Nat} {Q : State → Prop} {cc : ByteArray} {own : String} {nL pc : Nat} {ls : Array Slot} {rest : List Value} {A : Nat → Prop} {E : EV} {X : va_W} {σ : St} {σf : St} (h : x_X3_readStop σ = some σf) (cx : CallFix p m c cc nL s a TBL own) (hV : AtW E (wC E σ ++ X) A s H locs) {idx : Nat} (w1 : Cond.methodLink own idx yX3_readStop ∈ TBL) (hR : (rm_X3_readStop).frames + 1 ≤ R.frames ∧ 8 + (2 + 11) + (rm_X3_readStop).locals ≤ R.locals) (hcs : cells ≤ R.cells ∧ slots ≤ R.slots) (hls : ls.size = nL) (hcat : (rest.map fun v => v.category).sum ≤ 8) (d : decode cc pc = .ok (.invokevirtual idx, 3)) (kk : ∀ (H1 : Heap) (locs1 : List Loc), AtW E (wC E σf ++ X) A s H1 locs1 → W p l e R s m a below meth c H1 locs1 cells slots Q (F0 m (pc + 3) ls (rest))) : W p l e R s m a below meth c H locs cells slots Q (F0 m pc ls (.ref (eA E 57) :: rest)) :=
  r_callv (n := 0) (As := []) (q0 := 57) (ci := 3) (qq := (RX3, TX3, 9)) (c_X3_readStop h) wC_fst rfl rfl mk_4_171 mk_P_35 mk_1_5 mk_4_172 (by decide +kernel) rfl ⟨rfl, rfl⟩ cx hV w1 hR hcs hls rfl hcat d kk
def x_X3_readBack_b53 (w1 : Int32) (w2 : Int32) (w3 : Int32) (w4 : Int32) (σ5 : St) : Option St :=
  bd2 (x_X3_ends σ5) fun v6 σ7 =>
  (if v6 = 0 then
  some σ7
  else
  bd (x_X2_put 14 0 w1 σ7) fun σ8 =>
  bd (x_X2_put 14 1 w2 σ8) fun σ9 =>
  bd (x_X2_put 14 2 w3 σ9) fun σ10 =>
  bd (x_X2_put 14 3 w4 σ10) fun σ11 =>
  some σ11)
def x_X3_readBack (σ : St) : Option St :=
  bd2 (x_X3_number 0 9 σ) fun v12 σ13 =>
  bd2 (x_X3_number 0 9 σ13) fun v14 σ15 =>
  bd2 (x_X3_number 0 9 σ15) fun v16 σ17 =>
  bd2 (x_X3_number 0 9 σ17) fun v18 σ19 =>
  (if (((v12 + v14) + v16) + v18) = 0 then
  bd (x_X3_blame 2 (gI σ19 14) σ19) fun σ20 =>
  x_X3_readBack_b53 v12 v14 v16 v18 σ20
  else
  x_X3_readBack_b53 v12 v14 v16 v18 σ19)
abbrev rm_X3_readBack : Room := { frames := 3, cells := 0, slots := 0, locals := 64 }
set_option maxHeartbeats 4000000 in
set_option maxRecDepth 100000 in
theorem c_X3_readBack {l : Launch} {E : EV} {X : va_W} {σ : St} {σf : St} (h : x_X3_readBack σ = some σf) : CM l yX3_readBack cX3_readBack 5 none rm_X3_readBack [.ref (eA E 57)] E (wC E σ ++ X) (wC E σf ++ X) qV := by
  refine CM.start (by decide) (Nat.le_of_ble_eq_true rfl) (fun p e s m a below meth c A ls cx hr hlk hV hl => ?_)
  have cx : CallFix p m c cX3_readBack 5 s a TBL RX3 := cx
  have hx := cx.1
  have hb := cx.2.1
  have hl : lv_has ls 5 [(0, .ref (eA E 57))] := hl
  generalize hQ : EQ E (wC E σf ++ X) qV A s a below = QQ
  obtain ⟨H, hH⟩ : ∃ H, H = s.heap := ⟨_, rfl⟩
  obtain ⟨locs, hlocs⟩ : ∃ z, z = ([] : List Loc) := ⟨_, rfl⟩
  have hV : AtW E (wC E σ ++ X) A s H locs := by rw [hH, hlocs]; exact hV
  have goal : W p l e rm_X3_readBack s m a below meth c H locs 0 0 QQ (F0 m 0 ls []) := by
    unfold x_X3_readBack at h
    have hj53 : ∀ (w1 : Int32) (w2 : Int32) (w3 : Int32) (w4 : Int32) (σ5 : St) (H : Heap) (locs : List Loc) (ls : Array Slot), x_X3_readBack_b53 w1 w2 w3 w4 σ5 = some σf → AtW E (wC E σ5 ++ X) A s H locs → lv_has ls 5 [(0, .ref (eA E 57)), (1, .int w1), (2, .int w2), (3, .int w3), (4, .int w4)] → W p l e rm_X3_readBack s m a below meth c H locs 0 0 QQ (F0 m 53 ls []) := by
      intro w1 w2 w3 w4 σ5 H locs ls h hV hl
      unfold x_X3_readBack_b53 at h
      refine lv_aload_n hx hb dX3_readBack_53 rfl (lv_at hl 0 rfl) ?_
      refine bd2_e h (fun v6 σ7 hq h => ?_)
      refine k_X3_ends hq cx hV mk_4_115 ⟨Nat.le_of_ble_eq_true rfl, Nat.le_of_ble_eq_true rfl⟩ ⟨Nat.zero_le _, Nat.zero_le _⟩ hl.1 (Nat.le_of_ble_eq_true rfl) dX3_readBack_54 (fun H locs hV => ?_)
      refine lv_if_eq (tgt := 109) hx hb dX3_readBack_57 (by decide) (fun hc => ?_) (fun hc => ?_)
      · have h := ifp hc h
        have h1 := Option.some.inj h
        subst h1
        subst hQ
        exact r_vret cx hr hlk hV dX3_readBack_109
      · have h := ifn hc h
        refine lv_aload_n hx hb dX3_readBack_60 rfl (lv_at hl 0 rfl) ?_
        refine G_X3_draft cx hV mk_1_150 dX3_readBack_61 ?_
        refine G_X7_weights cx hV (by decide) mk_1_88 dX3_readBack_64 ?_
        refine lv_iconst (v := 0) hx hb dX3_readBack_67 (by decide) ?_
        refine lv_iload_n hx hb dX3_readBack_68 rfl (lv_at hl 1 rfl) ?_
        refine bd_e h (fun σ8 hq h => ?_)
        refine k_X2_put (by decide) hq cx hV mk_4_143 ⟨Nat.le_of_ble_eq_true rfl, Nat.le_of_ble_eq_true rfl⟩ ⟨Nat.zero_le _, Nat.zero_le _⟩ hl.1 (Nat.le_of_ble_eq_true rfl) dX3_readBack_69 (fun H locs hV => ?_)
        refine lv_aload_n hx hb dX3_readBack_72 rfl (lv_at hl 0 rfl) ?_
        refine G_X3_draft cx hV mk_1_150 dX3_readBack_73 ?_
        refine G_X7_weights cx hV (by decide) mk_1_88 dX3_readBack_76 ?_
        refine lv_iconst (v := 1) hx hb dX3_readBack_79 (by decide) ?_
        refine lv_iload_n hx hb dX3_readBack_80 rfl (lv_at hl 2 rfl) ?_
        refine bd_e h (fun σ9 hq h => ?_)
        refine k_X2_put (by decide) hq cx hV mk_4_143 ⟨Nat.le_of_ble_eq_true rfl, Nat.le_of_ble_eq_true rfl⟩ ⟨Nat.zero_le _, Nat.zero_le _⟩ hl.1 (Nat.le_of_ble_eq_true rfl) dX3_readBack_81 (fun H locs hV => ?_)
        refine lv_aload_n hx hb dX3_readBack_84 rfl (lv_at hl 0 rfl) ?_
        refine G_X3_draft cx hV mk_1_150 dX3_readBack_85 ?_
        refine G_X7_weights cx hV (by decide) mk_1_88 dX3_readBack_88 ?_
        refine lv_iconst (v := 2) hx hb dX3_readBack_91 (by decide) ?_
        refine lv_iload_n hx hb dX3_readBack_92 rfl (lv_at hl 3 rfl) ?_
        refine bd_e h (fun σ10 hq h => ?_)
        refine k_X2_put (by decide) hq cx hV mk_4_143 ⟨Nat.le_of_ble_eq_true rfl, Nat.le_of_ble_eq_true rfl⟩ ⟨Nat.zero_le _, Nat.zero_le _⟩ hl.1 (Nat.le_of_ble_eq_true rfl) dX3_readBack_93 (fun H locs hV => ?_)
        refine lv_aload_n hx hb dX3_readBack_96 rfl (lv_at hl 0 rfl) ?_
        refine G_X3_draft cx hV mk_1_150 dX3_readBack_97 ?_
        refine G_X7_weights cx hV (by decide) mk_1_88 dX3_readBack_100 ?_
        refine lv_iconst (v := 3) hx hb dX3_readBack_103 (by decide) ?_
        refine lv_iload hx hb dX3_readBack_104 (lv_at hl 4 rfl) ?_
        refine bd_e h (fun σ11 hq h => ?_)
        refine k_X2_put (by decide) hq cx hV mk_4_143 ⟨Nat.le_of_ble_eq_true rfl, Nat.le_of_ble_eq_true rfl⟩ ⟨Nat.zero_le _, Nat.zero_le _⟩ hl.1 (Nat.le_of_ble_eq_true rfl) dX3_readBack_106 (fun H locs hV => ?_)
        have h1 := Option.some.inj h
        subst h1
        subst hQ
        exact r_vret cx hr hlk hV dX3_readBack_109
    refine lv_aload_n hx hb dX3_readBack_0 rfl (lv_at hl 0 rfl) ?_
    refine lv_iconst (v := 0) hx hb dX3_readBack_1 (by decide) ?_
    refine lv_bipush (v := 9) hx hb dX3_readBack_2 (by decide) ?_
    refine bd2_e h (fun v12 σ13 hq h => ?_)
    refine k_X3_number hq cx hV mk_4_110 ⟨Nat.le_of_ble_eq_true rfl, Nat.le_of_ble_eq_true rfl⟩ ⟨Nat.zero_le _, Nat.zero_le _⟩ hl.1 (Nat.le_of_ble_eq_true rfl) dX3_readBack_4 (fun H locs hV => ?_)
    refine lv_istore_n (lv' := [(1, .int v12), (0, .ref (eA E 57))]) hx hb dX3_readBack_7 rfl hl (by decide) rfl (fun ls hl => ?_)
    refine lv_aload_n hx hb dX3_readBack_8 rfl (lv_at hl 1 rfl) ?_
    refine lv_iconst (v := 0) hx hb dX3_readBack_9 (by decide) ?_
    refine lv_bipush (v := 9) hx hb dX3_readBack_10 (by decide) ?_
    refine bd2_e h (fun v14 σ15 hq h => ?_)
    refine k_X3_number hq cx hV mk_4_110 ⟨Nat.le_of_ble_eq_true rfl, Nat.le_of_ble_eq_true rfl⟩ ⟨Nat.zero_le _, Nat.zero_le _⟩ hl.1 (Nat.le_of_ble_eq_true rfl) dX3_readBack_12 (fun H locs hV => ?_)
    refine lv_istore_n (lv' := [(2, .int v14), (1, .int v12), (0, .ref (eA E 57))]) hx hb dX3_readBack_15 rfl hl (by decide) rfl (fun ls hl => ?_)
    refine lv_aload_n hx hb dX3_readBack_16 rfl (lv_at hl 2 rfl) ?_
    refine lv_iconst (v := 0) hx hb dX3_readBack_17 (by decide) ?_
    refine lv_bipush (v := 9) hx hb dX3_readBack_18 (by decide) ?_
    refine bd2_e h (fun v16 σ17 hq h => ?_)
    refine k_X3_number hq cx hV mk_4_110 ⟨Nat.le_of_ble_eq_true rfl, Nat.le_of_ble_eq_true rfl⟩ ⟨Nat.zero_le _, Nat.zero_le _⟩ hl.1 (Nat.le_of_ble_eq_true rfl) dX3_readBack_20 (fun H locs hV => ?_)
    refine lv_istore_n (lv' := [(3, .int v16), (2, .int v14), (1, .int v12), (0, .ref (eA E 57))]) hx hb dX3_readBack_23 rfl hl (by decide) rfl (fun ls hl => ?_)
    refine lv_aload_n hx hb dX3_readBack_24 rfl (lv_at hl 3 rfl) ?_
    refine lv_iconst (v := 0) hx hb dX3_readBack_25 (by decide) ?_
    refine lv_bipush (v := 9) hx hb dX3_readBack_26 (by decide) ?_
    refine bd2_e h (fun v18 σ19 hq h => ?_)
    refine k_X3_number hq cx hV mk_4_110 ⟨Nat.le_of_ble_eq_true rfl, Nat.le_of_ble_eq_true rfl⟩ ⟨Nat.zero_le _, Nat.zero_le _⟩ hl.1 (Nat.le_of_ble_eq_true rfl) dX3_readBack_28 (fun H locs hV => ?_)
    refine lv_istore (lv' := [(4, .int v18), (3, .int v16), (2, .int v14), (1, .int v12), (0, .ref (eA E 57))]) hx hb dX3_readBack_31 hl (by decide) rfl (fun ls hl => ?_)
    refine lv_iload_n hx hb dX3_readBack_33 rfl (lv_at hl 3 rfl) ?_
    refine lv_iload_n hx hb dX3_readBack_34 rfl (lv_at hl 2 rfl) ?_
    refine lv_iadd hx hb dX3_readBack_35 ?_
    refine lv_iload_n hx hb dX3_readBack_36 rfl (lv_at hl 1 rfl) ?_
    refine lv_iadd hx hb dX3_readBack_37 ?_
    refine lv_iload hx hb dX3_readBack_38 (lv_at hl 0 rfl) ?_
    refine lv_iadd hx hb dX3_readBack_40 ?_
    refine lv_if_ne (tgt := 53) hx hb dX3_readBack_41 (by decide) (fun hc => ?_) (fun hc => ?_)
    · have h := ifn hc h
      exact hj53 v12 v14 v16 v18 σ19 _ _ _ h hV (lv_sub hl [4, 3, 2, 1, 0] rfl)
    · have h := ifp hc h
      refine lv_aload_n hx hb dX3_readBack_44 rfl (lv_at hl 4 rfl) ?_
      refine lv_iconst (v := 2) hx hb dX3_readBack_45 (by decide) ?_
      refine lv_aload_n hx hb dX3_readBack_46 rfl (lv_at hl 4 rfl) ?_
      refine G_X3_numberPlace cx hV mk_1_157 dX3_readBack_47 ?_
      refine bd_e h (fun σ20 hq h => ?_)
      refine k_X3_blame hq cx hV mk_4_98 ⟨Nat.le_of_ble_eq_true rfl, Nat.le_of_ble_eq_true rfl⟩ ⟨Nat.zero_le _, Nat.zero_le _⟩ hl.1 (Nat.le_of_ble_eq_true rfl) dX3_readBack_50 (fun H locs hV => ?_)
      exact hj53 v12 v14 v16 v18 σ20 _ _ _ h hV (lv_sub hl [4, 3, 2, 1, 0] rfl)
  rw [hH, hlocs] at goal
  exact goal
theorem k_X3_readBack {p : Program} {l : Launch} {e : Env} {R : Room} {s : State} {m : MethodId} {a : Array Value} {below : List Frame} {meth : Method} {c : Code} {H : Heap} {locs : List Loc} {cells slots : Nat} {Q : State → Prop} {cc : ByteArray} {own : String} {nL pc : Nat} {ls : Array Slot} {rest : List Value} {A : Nat → Prop} {E : EV} {X : va_W} {σ : St} {σf : St} (h : x_X3_readBack σ = some σf) (cx : CallFix p m c cc nL s a TBL own) (hV : AtW E (wC E σ ++ X) A s H locs) {idx : Nat} (w1 : Cond.methodLink own idx yX3_readBack ∈ TBL) (hR : (rm_X3_readBack).frames + 1 ≤ R.frames ∧ 8 + (5 + 11) + (rm_X3_readBack).locals ≤ R.locals) (hcs : cells ≤ R.cells ∧ slots ≤ R.slots) (hls : ls.size = nL) (hcat : (rest.map fun v => v.category).sum ≤ 8) (d : decode cc pc = .ok (.invokevirtual idx, 3)) (kk : ∀ (H1 : Heap) (locs1 : List Loc), AtW E (wC E σf ++ X) A s H1 locs1 → W p l e R s m a below meth c H1 locs1 cells slots Q (F0 m (pc + 3) ls (rest))) : W p l e R s m a below meth c H locs cells slots Q (F0 m pc ls (.ref (eA E 57) :: rest)) :=
  r_callv (n := 0) (As := []) (q0 := 57) (ci := 3) (qq := (RX3, TX3, 9)) (c_X3_readBack h) wC_fst rfl rfl mk_4_175 mk_P_36 mk_1_5 mk_4_176 (by decide +kernel) rfl ⟨rfl, rfl⟩ cx hV w1 hR hcs hls rfl hcat d kk
def x_X3_readNumbers (p1 : Int32) (σ : St) : Option St :=
  (if p1 = 0 then
  bd (x_X3_readCrate σ) fun σ1 =>
  some σ1
  else
  (if p1 = 1 then
  bd (x_X3_readSleeve σ) fun σ2 =>
  some σ2
  else
  (if p1 = 2 then
  bd (x_X3_readLies σ) fun σ3 =>
  some σ3
  else
  (if p1 = 3 then
  bd (x_X3_readDisc σ) fun σ4 =>
  some σ4
  else
  (if p1 = 4 then
  bd (x_X3_readLooker σ) fun σ5 =>
  some σ5
  else
  (if p1 = 5 then
  bd (x_X3_readLeft σ) fun σ6 =>
  some σ6
  else
  (if p1 = 6 then
  bd (x_X3_readMiss σ) fun σ7 =>
  some σ7
  else
  (if p1 = 7 then
  bd (x_X3_readStop σ) fun σ8 =>
  some σ8
  else
  bd (x_X3_readBack σ) fun σ9 =>
  some σ9))))))))
abbrev rm_X3_readNumbers : Room := { frames := 4, cells := 0, slots := 0, locals := 92 }
set_option maxHeartbeats 4000000 in
set_option maxRecDepth 100000 in
theorem c_X3_readNumbers {l : Launch} {E : EV} {X : va_W} {σ : St} {p1 : Int32} {σf : St} (h : x_X3_readNumbers p1 σ = some σf) : CM l yX3_readNumbers cX3_readNumbers 2 none rm_X3_readNumbers [.ref (eA E 57), .int p1] E (wC E σ ++ X) (wC E σf ++ X) qV := by
  refine CM.start (by decide) (Nat.le_of_ble_eq_true rfl) (fun p e s m a below meth c A ls cx hr hlk hV hl => ?_)
  have cx : CallFix p m c cX3_readNumbers 2 s a TBL RX3 := cx
  have hx := cx.1
  have hb := cx.2.1
  have hl : lv_has ls 2 [(0, .ref (eA E 57)), (1, .int p1)] := hl
  generalize hQ : EQ E (wC E σf ++ X) qV A s a below = QQ
  obtain ⟨H, hH⟩ : ∃ H, H = s.heap := ⟨_, rfl⟩
  obtain ⟨locs, hlocs⟩ : ∃ z, z = ([] : List Loc) := ⟨_, rfl⟩
  have hV : AtW E (wC E σ ++ X) A s H locs := by rw [hH, hlocs]; exact hV
  have goal : W p l e rm_X3_readNumbers s m a below meth c H locs 0 0 QQ (F0 m 0 ls []) := by
    unfold x_X3_readNumbers at h
    refine lv_iload_n hx hb dX3_readNumbers_0 rfl (lv_at hl 1 rfl) ?_
    by_cases hc0 : p1 = 0
    · have h := ifp hc0 h
      refine r_swIn (tgt := 48) cx hc0 dX3_readNumbers_1 (by decide) (by decide) rfl (by decide) ?_
      refine lv_aload_n hx hb dX3_readNumbers_48 rfl (lv_at hl 0 rfl) ?_
      refine bd_e h (fun σ1 hq h => ?_)
      refine k_X3_readCrate hq cx hV mk_4_106 ⟨Nat.le_of_ble_eq_true rfl, Nat.le_of_ble_eq_true rfl⟩ ⟨Nat.zero_le _, Nat.zero_le _⟩ hl.1 (Nat.le_of_ble_eq_true rfl) dX3_readNumbers_49 (fun H locs hV => ?_)
      refine lv_goto (tgt := 108) hx hb dX3_readNumbers_52 (by decide) ?_
      have h1 := Option.some.inj h
      subst h1
      subst hQ
      exact r_vret cx hr hlk hV dX3_readNumbers_108
    have h := ifn hc0 h
    by_cases hc1 : p1 = 1
    · have h := ifp hc1 h
      refine r_swIn (tgt := 55) cx hc1 dX3_readNumbers_1 (by decide) (by decide) rfl (by decide) ?_
      refine lv_aload_n hx hb dX3_readNumbers_55 rfl (lv_at hl 0 rfl) ?_
      refine bd_e h (fun σ2 hq h => ?_)
      refine k_X3_readSleeve hq cx hV mk_4_127 ⟨Nat.le_of_ble_eq_true rfl, Nat.le_of_ble_eq_true rfl⟩ ⟨Nat.zero_le _, Nat.zero_le _⟩ hl.1 (Nat.le_of_ble_eq_true rfl) dX3_readNumbers_56 (fun H locs hV => ?_)
      refine lv_goto (tgt := 108) hx hb dX3_readNumbers_59 (by decide) ?_
      have h1 := Option.some.inj h
      subst h1
      subst hQ
      exact r_vret cx hr hlk hV dX3_readNumbers_108
    have h := ifn hc1 h
    by_cases hc2 : p1 = 2
    · have h := ifp hc2 h
      refine r_swIn (tgt := 62) cx hc2 dX3_readNumbers_1 (by decide) (by decide) rfl (by decide) ?_
      refine lv_aload_n hx hb dX3_readNumbers_62 rfl (lv_at hl 0 rfl) ?_
      refine bd_e h (fun σ3 hq h => ?_)
      refine k_X3_readLies hq cx hV mk_4_139 ⟨Nat.le_of_ble_eq_true rfl, Nat.le_of_ble_eq_true rfl⟩ ⟨Nat.zero_le _, Nat.zero_le _⟩ hl.1 (Nat.le_of_ble_eq_true rfl) dX3_readNumbers_63 (fun H locs hV => ?_)
      refine lv_goto (tgt := 108) hx hb dX3_readNumbers_66 (by decide) ?_
      have h1 := Option.some.inj h
      subst h1
      subst hQ
      exact r_vret cx hr hlk hV dX3_readNumbers_108
    have h := ifn hc2 h
    by_cases hc3 : p1 = 3
    · have h := ifp hc3 h
      refine r_swIn (tgt := 69) cx hc3 dX3_readNumbers_1 (by decide) (by decide) rfl (by decide) ?_
      refine lv_aload_n hx hb dX3_readNumbers_69 rfl (lv_at hl 0 rfl) ?_
      refine bd_e h (fun σ4 hq h => ?_)
      refine k_X3_readDisc hq cx hV mk_4_144 ⟨Nat.le_of_ble_eq_true rfl, Nat.le_of_ble_eq_true rfl⟩ ⟨Nat.zero_le _, Nat.zero_le _⟩ hl.1 (Nat.le_of_ble_eq_true rfl) dX3_readNumbers_70 (fun H locs hV => ?_)
      refine lv_goto (tgt := 108) hx hb dX3_readNumbers_73 (by decide) ?_
      have h1 := Option.some.inj h
      subst h1
      subst hQ
      exact r_vret cx hr hlk hV dX3_readNumbers_108
    have h := ifn hc3 h
    by_cases hc4 : p1 = 4
    · have h := ifp hc4 h
      refine r_swIn (tgt := 76) cx hc4 dX3_readNumbers_1 (by decide) (by decide) rfl (by decide) ?_
      refine lv_aload_n hx hb dX3_readNumbers_76 rfl (lv_at hl 0 rfl) ?_
      refine bd_e h (fun σ5 hq h => ?_)
      refine k_X3_readLooker hq cx hV mk_4_149 ⟨Nat.le_of_ble_eq_true rfl, Nat.le_of_ble_eq_true rfl⟩ ⟨Nat.zero_le _, Nat.zero_le _⟩ hl.1 (Nat.le_of_ble_eq_true rfl) dX3_readNumbers_77 (fun H locs hV => ?_)
      refine lv_goto (tgt := 108) hx hb dX3_readNumbers_80 (by decide) ?_
      have h1 := Option.some.inj h
      subst h1
      subst hQ
      exact r_vret cx hr hlk hV dX3_readNumbers_108
    have h := ifn hc4 h
    by_cases hc5 : p1 = 5
    · have h := ifp hc5 h
      refine r_swIn (tgt := 83) cx hc5 dX3_readNumbers_1 (by decide) (by decide) rfl (by decide) ?_
      refine lv_aload_n hx hb dX3_readNumbers_83 rfl (lv_at hl 0 rfl) ?_
      refine bd_e h (fun σ6 hq h => ?_)
      refine k_X3_readLeft hq cx hV mk_4_157 ⟨Nat.le_of_ble_eq_true rfl, Nat.le_of_ble_eq_true rfl⟩ ⟨Nat.zero_le _, Nat.zero_le _⟩ hl.1 (Nat.le_of_ble_eq_true rfl) dX3_readNumbers_84 (fun H locs hV => ?_)
      refine lv_goto (tgt := 108) hx hb dX3_readNumbers_87 (by decide) ?_
      have h1 := Option.some.inj h
      subst h1
      subst hQ
      exact r_vret cx hr hlk hV dX3_readNumbers_108
    have h := ifn hc5 h
    by_cases hc6 : p1 = 6
    · have h := ifp hc6 h
      refine r_swIn (tgt := 90) cx hc6 dX3_readNumbers_1 (by decide) (by decide) rfl (by decide) ?_
      refine lv_aload_n hx hb dX3_readNumbers_90 rfl (lv_at hl 0 rfl) ?_
      refine bd_e h (fun σ7 hq h => ?_)
      refine k_X3_readMiss hq cx hV mk_4_165 ⟨Nat.le_of_ble_eq_true rfl, Nat.le_of_ble_eq_true rfl⟩ ⟨Nat.zero_le _, Nat.zero_le _⟩ hl.1 (Nat.le_of_ble_eq_true rfl) dX3_readNumbers_91 (fun H locs hV => ?_)
      refine lv_goto (tgt := 108) hx hb dX3_readNumbers_94 (by decide) ?_
      have h1 := Option.some.inj h
      subst h1
      subst hQ
      exact r_vret cx hr hlk hV dX3_readNumbers_108
    have h := ifn hc6 h
    by_cases hc7 : p1 = 7
    · have h := ifp hc7 h
      refine r_swIn (tgt := 97) cx hc7 dX3_readNumbers_1 (by decide) (by decide) rfl (by decide) ?_
      refine lv_aload_n hx hb dX3_readNumbers_97 rfl (lv_at hl 0 rfl) ?_
      refine bd_e h (fun σ8 hq h => ?_)
      refine k_X3_readStop hq cx hV mk_4_169 ⟨Nat.le_of_ble_eq_true rfl, Nat.le_of_ble_eq_true rfl⟩ ⟨Nat.zero_le _, Nat.zero_le _⟩ hl.1 (Nat.le_of_ble_eq_true rfl) dX3_readNumbers_98 (fun H locs hV => ?_)
      refine lv_goto (tgt := 108) hx hb dX3_readNumbers_101 (by decide) ?_
      have h1 := Option.some.inj h
      subst h1
      subst hQ
      exact r_vret cx hr hlk hV dX3_readNumbers_108
    have h := ifn hc7 h
    have hout : (p1).toInt < 0 ∨ 7 < (p1).toInt := by
      have g0 := lv_neT hc0 (a := 0) rfl
      have g1 := lv_neT hc1 (a := 1) rfl
      have g2 := lv_neT hc2 (a := 2) rfl
      have g3 := lv_neT hc3 (a := 3) rfl
      have g4 := lv_neT hc4 (a := 4) rfl
      have g5 := lv_neT hc5 (a := 5) rfl
      have g6 := lv_neT hc6 (a := 6) rfl
      have g7 := lv_neT hc7 (a := 7) rfl
      omega
    refine lv_tableOut (tgt := 104) hx hb dX3_readNumbers_1 hout (by decide) ?_
    refine lv_aload_n hx hb dX3_readNumbers_104 rfl (lv_at hl 0 rfl) ?_
    refine bd_e h (fun σ9 hq h => ?_)
    refine k_X3_readBack hq cx hV mk_4_173 ⟨Nat.le_of_ble_eq_true rfl, Nat.le_of_ble_eq_true rfl⟩ ⟨Nat.zero_le _, Nat.zero_le _⟩ hl.1 (Nat.le_of_ble_eq_true rfl) dX3_readNumbers_105 (fun H locs hV => ?_)
    have h1 := Option.some.inj h
    subst h1
    subst hQ
    exact r_vret cx hr hlk hV dX3_readNumbers_108
  rw [hH, hlocs] at goal
  exact goal
theorem k_X3_readNumbers {p : Program} {l : Launch} {e : Env} {R : Room} {s : State} {m : MethodId} {a : Array Value} {below : List Frame} {meth : Method} {c : Code} {H : Heap} {locs : List Loc} {cells slots : Nat} {Q : State → Prop} {cc : ByteArray} {own : String} {nL pc : Nat} {ls : Array Slot} {rest : List Value} {A : Nat → Prop} {E : EV} {X : va_W} {σ : St} {p1 : Int32} {σf : St} (h : x_X3_readNumbers p1 σ = some σf) (cx : CallFix p m c cc nL s a TBL own) (hV : AtW E (wC E σ ++ X) A s H locs) {idx : Nat} (w1 : Cond.methodLink own idx yX3_readNumbers ∈ TBL) (hR : (rm_X3_readNumbers).frames + 1 ≤ R.frames ∧ 8 + (2 + 11) + (rm_X3_readNumbers).locals ≤ R.locals) (hcs : cells ≤ R.cells ∧ slots ≤ R.slots) (hls : ls.size = nL) (hcat : (rest.map fun v => v.category).sum ≤ 8) (d : decode cc pc = .ok (.invokevirtual idx, 3)) (kk : ∀ (H1 : Heap) (locs1 : List Loc), AtW E (wC E σf ++ X) A s H1 locs1 → W p l e R s m a below meth c H1 locs1 cells slots Q (F0 m (pc + 3) ls (rest))) : W p l e R s m a below meth c H locs cells slots Q (F0 m pc ls (.int p1 :: .ref (eA E 57) :: rest)) :=
  r_callv (n := 1) (As := [.int p1]) (q0 := 57) (ci := 3) (qq := (RX3, TX3, 9)) (c_X3_readNumbers h) wC_fst rfl rfl mk_4_104 mk_P_23 mk_1_5 mk_4_105 (by decide +kernel) rfl ⟨rfl, rfl⟩ cx hV w1 hR hcs hls rfl hcat d kk
def x_X3_readClause_b46 (w1 : Int32) (σ2 : St) : Option St :=
  bd (x_X3_readNumbers w1 σ2) fun σ3 =>
  some σ3
def x_X3_readClause (σ : St) : Option St :=
  bd2 (x_X3_readWord σ) fun v4 σ5 =>
  bd (x_X3_faultOfWord v4 σ5) fun v6 =>
  (if v6 = 0 then
  bd (some (sI σ5 16 ((gI σ5 16) + 1))) fun σ7 =>
  (if v4 = 0 then
  x_X3_readClause_b46 v4 σ7
  else
  bd (some (sI σ7 17 0)) fun σ8 =>
  x_X3_readClause_b46 v4 σ8)
  else
  bd (x_X3_blame v6 (gI σ 13) σ5) fun σ9 =>
  some σ9)
abbrev rm_X3_readClause : Room := { frames := 6, cells := 0, slots := 0, locals := 130 }
set_option maxHeartbeats 4000000 in
set_option maxRecDepth 100000 in
theorem c_X3_readClause {l : Launch} {E : EV} {X : va_W} {σ : St} {σf : St} (h : x_X3_readClause σ = some σf) : CMF l yX3_readClause cX3_readClause 4 none rm_X3_readClause [.ref (eA E 57)] E (wC E σ ++ X) (wC E σf ++ X) qV := by
  refine CMF.start (by decide) (Nat.le_of_ble_eq_true rfl) (fun p e s m a below meth c A ls cx hr hlk hV hF hl => ?_)
  have cx : CallFix p m c cX3_readClause 4 s a TBL RX3 := cx
  have hx := cx.1
  have hb := cx.2.1
  have hl : lv_has ls 4 [(0, .ref (eA E 57))] := hl
  generalize hQ : EQ E (wC E σf ++ X) qV A s a below = QQ
  obtain ⟨H, hH⟩ : ∃ H, H = s.heap := ⟨_, rfl⟩
  obtain ⟨locs, hlocs⟩ : ∃ z, z = ([] : List Loc) := ⟨_, rfl⟩
  have hV : AtW E (wC E σ ++ X) A s H locs := by rw [hH, hlocs]; exact hV
  have goal : W p l e rm_X3_readClause s m a below meth c H locs 0 0 QQ (F0 m 0 ls []) := by
    unfold x_X3_readClause at h
    have hj46 : ∀ (w1 : Int32) (σ2 : St) (H : Heap) (locs : List Loc) (ls : Array Slot), x_X3_readClause_b46 w1 σ2 = some σf → AtW E (wC E σ2 ++ X) A s H locs → lv_has ls 4 [(0, .ref (eA E 57)), (2, .int w1)] → W p l e rm_X3_readClause s m a below meth c H locs 0 0 QQ (F0 m 46 ls []) := by
      intro w1 σ2 H locs ls h hV hl
      unfold x_X3_readClause_b46 at h
      refine lv_aload_n hx hb dX3_readClause_46 rfl (lv_at hl 0 rfl) ?_
      refine lv_iload_n hx hb dX3_readClause_47 rfl (lv_at hl 1 rfl) ?_
      refine bd_e h (fun σ3 hq h => ?_)
      refine k_X3_readNumbers hq cx hV mk_4_102 ⟨Nat.le_of_ble_eq_true rfl, Nat.le_of_ble_eq_true rfl⟩ ⟨Nat.zero_le _, Nat.zero_le _⟩ hl.1 (Nat.le_of_ble_eq_true rfl) dX3_readClause_48 (fun H locs hV => ?_)
      have h1 := Option.some.inj h
      subst h1
      subst hQ
      exact r_vret cx hr hlk hV dX3_readClause_51
    refine lv_aload_n hx hb dX3_readClause_0 rfl (lv_at hl 0 rfl) ?_
    refine G_X3_at cx hV mk_1_156 dX3_readClause_1 ?_
    refine lv_istore_n (lv' := [(1, .int (gI σ 13)), (0, .ref (eA E 57))]) hx hb dX3_readClause_4 rfl hl (by decide) rfl (fun ls hl => ?_)
    refine lv_aload_n hx hb dX3_readClause_5 rfl (lv_at hl 1 rfl) ?_
    refine bd2_e h (fun v4 σ5 hq h => ?_)
    refine k_X3_readWord hq cx hV hF mk_4_26 ⟨Nat.le_of_ble_eq_true rfl, Nat.le_of_ble_eq_true rfl⟩ ⟨Nat.zero_le _, Nat.zero_le _⟩ hl.1 (Nat.le_of_ble_eq_true rfl) dX3_readClause_6 (fun H locs hV => ?_)
    refine lv_istore_n (lv' := [(2, .int v4), (1, .int (gI σ 13)), (0, .ref (eA E 57))]) hx hb dX3_readClause_9 rfl hl (by decide) rfl (fun ls hl => ?_)
    refine lv_aload_n hx hb dX3_readClause_10 rfl (lv_at hl 2 rfl) ?_
    refine lv_iload_n hx hb dX3_readClause_11 rfl (lv_at hl 0 rfl) ?_
    refine bd_e h (fun v6 hq h => ?_)
    refine k_X3_faultOfWord hq cx hV mk_4_94 ⟨Nat.le_of_ble_eq_true rfl, Nat.le_of_ble_eq_true rfl⟩ ⟨Nat.zero_le _, Nat.zero_le _⟩ hl.1 (Nat.le_of_ble_eq_true rfl) dX3_readClause_12 (fun H locs hV => ?_)
    refine lv_istore_n (lv' := [(3, .int v6), (2, .int v4), (1, .int (gI σ 13)), (0, .ref (eA E 57))]) hx hb dX3_readClause_15 rfl hl (by decide) rfl (fun ls hl => ?_)
    refine lv_iload_n hx hb dX3_readClause_16 rfl (lv_at hl 0 rfl) ?_
    refine lv_if_eq (tgt := 27) hx hb dX3_readClause_17 (by decide) (fun hc => ?_) (fun hc => ?_)
    · have h := ifp hc h
      refine lv_aload_n hx hb dX3_readClause_27 rfl (lv_at hl 3 rfl) ?_
      refine lv_dup hx hb dX3_readClause_28 rfl ?_
      refine G_X3_clauses cx hV mk_1_159 dX3_readClause_29 ?_
      refine lv_iconst (v := 1) hx hb dX3_readClause_32 (by decide) ?_
      refine lv_iadd hx hb dX3_readClause_33 ?_
      refine bd_e h (fun σ7 hq h => ?_)
      refine P_X3_clauses cx hV hq mk_1_159 dX3_readClause_34 (fun H locs hV => ?_)
      refine lv_iload_n hx hb dX3_readClause_37 rfl (lv_at hl 1 rfl) ?_
      refine lv_if_eq (tgt := 46) hx hb dX3_readClause_38 (by decide) (fun hc => ?_) (fun hc => ?_)
      · have h := ifp hc h
        exact hj46 v4 σ7 _ _ _ h hV (lv_sub hl [3, 1] rfl)
      · have h := ifn hc h
        refine lv_aload_n hx hb dX3_readClause_41 rfl (lv_at hl 3 rfl) ?_
        refine lv_iconst (v := 0) hx hb dX3_readClause_42 (by decide) ?_
        refine bd_e h (fun σ8 hq h => ?_)
        refine P_X3_onlyCrates cx hV (Or.inl rfl) hq mk_1_160 dX3_readClause_43 (fun H locs hV => ?_)
        exact hj46 v4 σ8 _ _ _ h hV (lv_sub hl [3, 1] rfl)
    · have h := ifn hc h
      refine lv_aload_n hx hb dX3_readClause_20 rfl (lv_at hl 3 rfl) ?_
      refine lv_iload_n hx hb dX3_readClause_21 rfl (lv_at hl 0 rfl) ?_
      refine lv_iload_n hx hb dX3_readClause_22 rfl (lv_at hl 2 rfl) ?_
      refine bd_e h (fun σ9 hq h => ?_)
      refine k_X3_blame hq cx hV mk_4_98 ⟨Nat.le_of_ble_eq_true rfl, Nat.le_of_ble_eq_true rfl⟩ ⟨Nat.zero_le _, Nat.zero_le _⟩ hl.1 (Nat.le_of_ble_eq_true rfl) dX3_readClause_23 (fun H locs hV => ?_)
      have h1 := Option.some.inj h
      subst h1
      subst hQ
      exact r_vret cx hr hlk hV dX3_readClause_26
  rw [hH, hlocs] at goal
  exact goal
theorem k_X3_readClause {p : Program} {l : Launch} {e : Env} {R : Room} {s : State} {m : MethodId} {a : Array Value} {below : List Frame} {meth : Method} {c : Code} {H : Heap} {locs : List Loc} {cells slots : Nat} {Q : State → Prop} {cc : ByteArray} {own : String} {nL pc : Nat} {ls : Array Slot} {rest : List Value} {A : Nat → Prop} {E : EV} {X : va_W} {σ : St} {σf : St} (h : x_X3_readClause σ = some σf) (cx : CallFix p m c cc nL s a TBL own) (hV : AtW E (wC E σ ++ X) A s H locs) (hF : FZ E A s s.heap) {idx : Nat} (w1 : Cond.methodLink own idx yX3_readClause ∈ TBL) (hR : (rm_X3_readClause).frames + 1 ≤ R.frames ∧ 8 + (4 + 11) + (rm_X3_readClause).locals ≤ R.locals) (hcs : cells ≤ R.cells ∧ slots ≤ R.slots) (hls : ls.size = nL) (hcat : (rest.map fun v => v.category).sum ≤ 8) (d : decode cc pc = .ok (.invokevirtual idx, 3)) (kk : ∀ (H1 : Heap) (locs1 : List Loc), AtW E (wC E σf ++ X) A s H1 locs1 → W p l e R s m a below meth c H1 locs1 cells slots Q (F0 m (pc + 3) ls (rest))) : W p l e R s m a below meth c H locs cells slots Q (F0 m pc ls (.ref (eA E 57) :: rest)) :=
  r_callFv (n := 0) (As := []) (q0 := 57) (ci := 3) (qq := (RX3, TX3, 9)) (c_X3_readClause h) wC_fst rfl rfl mk_4_24 mk_P_18 mk_1_5 mk_4_25 (by decide +kernel) rfl ⟨rfl, rfl⟩ cx hV hF w1 hR hcs hls rfl hcat d kk
def x_X3_read_L43 (u9 : Int32) (σ10 : St) : Option (Bool × (Int32 × St)) :=
  (if 60 < u9 then
  some (false, (u9, σ10))
  else
  (if (gI σ10 15) = 0 then
  (if (gI σ10 12) ≤ (gI σ10 13) then
  some (false, (u9, σ10))
  else
  bd (x_X3_readClause σ10) fun σ11 =>
  bd (x_X3_skipBlanks σ11) fun σ12 =>
  some (true, ((u9 + 1), σ12)))
  else
  some (false, (u9, σ10))))
def x_X3_read (p1 : Int32) (σ : St) : Option (Int32 × St) :=
  bd (some (sI σ 12 p1)) fun σ1 =>
  bd (some (sI σ1 13 0)) fun σ2 =>
  bd (some (sI σ2 15 0)) fun σ3 =>
  bd (some (sI σ3 11 (-1))) fun σ4 =>
  bd (some (sI σ4 16 0)) fun σ5 =>
  bd (some (sI σ5 17 1)) fun σ6 =>
  bd (x_X7_clear 1 σ6) fun σ7 =>
  bd (x_X3_skipBlanks σ7) fun σ8 =>
  bd2 (lp (fun v : (Int32 × St) => x_X3_read_L43 v.1 v.2) FU (0, σ8)) fun z13 σ14 =>
  some ((gI σ14 15), σ14)
abbrev rm_X3_read : Room := { frames := 7, cells := 0, slots := 0, locals := 153 }
set_option maxHeartbeats 4000000 in
set_option maxRecDepth 100000 in
theorem c_X3_read {l : Launch} {E : EV} {X : va_W} {σ : St} {p1 : Int32} {rv : Int32} {σf : St} (h : x_X3_read p1 σ = some (rv, σf)) : CMF l yX3_read cX3_read 3 (some .int) rm_X3_read [.ref (eA E 57), .int p1] E (wC E σ ++ X) (wC E σf ++ X) (qI rv) := by
  refine CMF.start (by decide) (Nat.le_of_ble_eq_true rfl) (fun p e s m a below meth c A ls cx hr hlk hV hF hl => ?_)
  have cx : CallFix p m c cX3_read 3 s a TBL RX3 := cx
  have hx := cx.1
  have hb := cx.2.1
  have hl : lv_has ls 3 [(0, .ref (eA E 57)), (1, .int p1)] := hl
  generalize hQ : EQ E (wC E σf ++ X) (qI rv) A s a below = QQ
  obtain ⟨H, hH⟩ : ∃ H, H = s.heap := ⟨_, rfl⟩
  obtain ⟨locs, hlocs⟩ : ∃ z, z = ([] : List Loc) := ⟨_, rfl⟩
  have hV : AtW E (wC E σ ++ X) A s H locs := by rw [hH, hlocs]; exact hV
  have goal : W p l e rm_X3_read s m a below meth c H locs 0 0 QQ (F0 m 0 ls []) := by
    unfold x_X3_read at h
    refine lv_aload_n hx hb dX3_read_0 rfl (lv_at hl 0 rfl) ?_
    refine lv_iload_n hx hb dX3_read_1 rfl (lv_at hl 1 rfl) ?_
    refine bd_e h (fun σ1 hq h => ?_)
    refine P_X3_end cx hV hq mk_1_155 dX3_read_2 (fun H locs hV => ?_)
    refine lv_aload_n hx hb dX3_read_5 rfl (lv_at hl 0 rfl) ?_
    refine lv_iconst (v := 0) hx hb dX3_read_6 (by decide) ?_
    refine bd_e h (fun σ2 hq h => ?_)
    refine P_X3_at cx hV hq mk_1_156 dX3_read_7 (fun H locs hV => ?_)
    refine lv_aload_n hx hb dX3_read_10 rfl (lv_at hl 0 rfl) ?_
    refine lv_iconst (v := 0) hx hb dX3_read_11 (by decide) ?_
    refine bd_e h (fun σ3 hq h => ?_)
    refine P_X3_fault cx hV hq mk_1_158 dX3_read_12 (fun H locs hV => ?_)
    refine lv_aload_n hx hb dX3_read_15 rfl (lv_at hl 0 rfl) ?_
    refine lv_iconst (v := (-1)) hx hb dX3_read_16 (by decide) ?_
    refine bd_e h (fun σ4 hq h => ?_)
    refine P_X3_place cx hV hq mk_1_152 dX3_read_17 (fun H locs hV => ?_)
    refine lv_aload_n hx hb dX3_read_20 rfl (lv_at hl 0 rfl) ?_
    refine lv_iconst (v := 0) hx hb dX3_read_21 (by decide) ?_
    refine bd_e h (fun σ5 hq h => ?_)
    refine P_X3_clauses cx hV hq mk_1_159 dX3_read_22 (fun H locs hV => ?_)
    refine lv_aload_n hx hb dX3_read_25 rfl (lv_at hl 0 rfl) ?_
    refine lv_iconst (v := 1) hx hb dX3_read_26 (by decide) ?_
    refine bd_e h (fun σ6 hq h => ?_)
    refine P_X3_onlyCrates cx hV (Or.inr rfl) hq mk_1_160 dX3_read_27 (fun H locs hV => ?_)
    refine lv_aload_n hx hb dX3_read_30 rfl (lv_at hl 0 rfl) ?_
    refine G_X3_draft cx hV mk_1_150 dX3_read_31 ?_
    refine bd_e h (fun σ7 hq h => ?_)
    refine k_X7_clear (by decide) hq cx hV mk_4_16 ⟨Nat.le_of_ble_eq_true rfl, Nat.le_of_ble_eq_true rfl⟩ ⟨Nat.zero_le _, Nat.zero_le _⟩ hl.1 (Nat.le_of_ble_eq_true rfl) dX3_read_34 (fun H locs hV => ?_)
    refine lv_aload_n hx hb dX3_read_37 rfl (lv_at hl 0 rfl) ?_
    refine bd_e h (fun σ8 hq h => ?_)
    refine k_X3_skipBlanks hq cx hV mk_4_17 ⟨Nat.le_of_ble_eq_true rfl, Nat.le_of_ble_eq_true rfl⟩ ⟨Nat.zero_le _, Nat.zero_le _⟩ hl.1 (Nat.le_of_ble_eq_true rfl) dX3_read_38 (fun H locs hV => ?_)
    refine lv_iconst (v := 0) hx hb dX3_read_41 (by decide) ?_
    refine lv_istore_n (lv' := [(2, .int 0), (0, .ref (eA E 57)), (1, .int p1)]) hx hb dX3_read_42 rfl hl (by decide) rfl (fun ls hl => ?_)
    refine bd2_e h (fun z13 σ14 ho h => ?_)
    refine (lp_rule (G := (fun v : (Int32 × St) => ∀ (H : Heap) (locs : List Loc) (ls : Array Slot), AtW E (wC E v.2 ++ X) A s H locs → lv_has ls 3 [(0, .ref (eA E 57)), (2, .int v.1)] → W p l e rm_X3_read s m a below meth c H locs 0 0 QQ (F0 m 43 ls []))) (K := (fun v : (Int32 × St) => ∀ (H : Heap) (locs : List Loc) (ls : Array Slot), AtW E (wC E v.2 ++ X) A s H locs → lv_has ls 3 [(0, .ref (eA E 57))] → W p l e rm_X3_read s m a below meth c H locs 0 0 QQ (F0 m 81 ls []))) (fun v b1 y1 h hT1 hF1 => ?_) ho (fun H locs ls hV hl => ?_)) _ _ _ hV (lv_sub hl [1, 0] rfl)
    · obtain ⟨u9, σ10⟩ := v
      have h : x_X3_read_L43 u9 σ10 = some (b1, y1) := h
      intro H locs ls hV hl
      have hV : AtW E (wC E σ10 ++ X) A s H locs := hV
      have hl : lv_has ls 3 [(0, .ref (eA E 57)), (2, .int u9)] := hl
      unfold x_X3_read_L43 at h
      refine lv_iload_n hx hb dX3_read_43 rfl (lv_at hl 1 rfl) ?_
      refine lv_bipush (v := 60) hx hb dX3_read_44 (by decide) ?_
      refine lv_icmp_gt (tgt := 81) hx hb dX3_read_46 (by decide) (fun hc => ?_) (fun hc => ?_)
      · have h := ifp hc h
        cases h
        exact hF1 rfl _ _ _ hV (lv_sub hl [0] rfl)
      · have h := ifn hc h
        refine lv_aload_n hx hb dX3_read_49 rfl (lv_at hl 0 rfl) ?_
        refine G_X3_fault cx hV mk_1_158 dX3_read_50 ?_
        refine lv_if_ne (tgt := 81) hx hb dX3_read_53 (by decide) (fun hc => ?_) (fun hc => ?_)
        · have h := ifn hc h
          cases h
          exact hF1 rfl _ _ _ hV (lv_sub hl [0] rfl)
        · have h := ifp hc h
          refine lv_aload_n hx hb dX3_read_56 rfl (lv_at hl 0 rfl) ?_
          refine G_X3_at cx hV mk_1_156 dX3_read_57 ?_
          refine lv_aload_n hx hb dX3_read_60 rfl (lv_at hl 0 rfl) ?_
          refine G_X3_end cx hV mk_1_155 dX3_read_61 ?_
          refine lv_icmp_ge (tgt := 81) hx hb dX3_read_64 (by decide) (fun hc => ?_) (fun hc => ?_)
          · have h := ifp hc h
            cases h
            exact hF1 rfl _ _ _ hV (lv_sub hl [0] rfl)
          · have h := ifn hc h
            refine lv_aload_n hx hb dX3_read_67 rfl (lv_at hl 0 rfl) ?_
            refine bd_e h (fun σ11 hq h => ?_)
            refine k_X3_readClause hq cx hV hF mk_4_22 ⟨Nat.le_of_ble_eq_true rfl, Nat.le_of_ble_eq_true rfl⟩ ⟨Nat.zero_le _, Nat.zero_le _⟩ hl.1 (Nat.le_of_ble_eq_true rfl) dX3_read_68 (fun H locs hV => ?_)
            refine lv_aload_n hx hb dX3_read_71 rfl (lv_at hl 0 rfl) ?_
            refine bd_e h (fun σ12 hq h => ?_)
            refine k_X3_skipBlanks hq cx hV mk_4_17 ⟨Nat.le_of_ble_eq_true rfl, Nat.le_of_ble_eq_true rfl⟩ ⟨Nat.zero_le _, Nat.zero_le _⟩ hl.1 (Nat.le_of_ble_eq_true rfl) dX3_read_72 (fun H locs hV => ?_)
            refine lv_iinc (v := (u9 + 1)) (lv' := [(2, .int (u9 + 1)), (0, .ref (eA E 57))]) hx hb dX3_read_75 hl (k := 1) rfl rfl (by decide) rfl (fun ls hl => ?_)
            refine lv_goto (tgt := 43) hx hb dX3_read_78 (by decide) ?_
            cases h
            exact hT1 rfl _ _ _ hV (lv_sub hl [1, 0] rfl)
    · have hV : AtW E (wC E σ14 ++ X) A s H locs := hV
      have hl : lv_has ls 3 [(0, .ref (eA E 57))] := hl
      refine lv_aload_n hx hb dX3_read_81 rfl (lv_at hl 0 rfl) ?_
      refine G_X3_fault cx hV mk_1_158 dX3_read_82 ?_
      obtain ⟨h1, h2⟩ := Prod.mk.inj (Option.some.inj h)
      subst h1
      subst h2
      subst hQ
      exact r_ireti cx hr hlk hV dX3_read_85
  rw [hH, hlocs] at goal
  exact goal
theorem k_X3_read {p : Program} {l : Launch} {e : Env} {R : Room} {s : State} {m : MethodId} {a : Array Value} {below : List Frame} {meth : Method} {c : Code} {H : Heap} {locs : List Loc} {cells slots : Nat} {Q : State → Prop} {cc : ByteArray} {own : String} {nL pc : Nat} {ls : Array Slot} {rest : List Value} {A : Nat → Prop} {E : EV} {X : va_W} {σ : St} {p1 : Int32} {rv : Int32} {σf : St} (h : x_X3_read p1 σ = some (rv, σf)) (cx : CallFix p m c cc nL s a TBL own) (hV : AtW E (wC E σ ++ X) A s H locs) (hF : FZ E A s s.heap) {idx : Nat} (w1 : Cond.methodLink own idx yX3_read ∈ TBL) (hR : (rm_X3_read).frames + 1 ≤ R.frames ∧ 8 + (3 + 11) + (rm_X3_read).locals ≤ R.locals) (hcs : cells ≤ R.cells ∧ slots ≤ R.slots) (hls : ls.size = nL) (hcat : (rest.map fun v => v.category).sum ≤ 8) (d : decode cc pc = .ok (.invokevirtual idx, 3)) (kk : ∀ (H1 : Heap) (locs1 : List Loc), AtW E (wC E σf ++ X) A s H1 locs1 → W p l e R s m a below meth c H1 locs1 cells slots Q (F0 m (pc + 3) ls (.int rv :: rest))) : W p l e R s m a below meth c H locs cells slots Q (F0 m pc ls (.int p1 :: .ref (eA E 57) :: rest)) :=
  r_callFi (n := 1) (As := [.int p1]) (q0 := 57) (ci := 3) (qq := (RX3, TX3, 9)) (c_X3_read h) wC_fst rfl rfl mk_4_13 mk_4_14 mk_1_5 mk_4_15 (by decide +kernel) rfl ⟨rfl, rfl⟩ cx hV hF w1 hR hcs hls rfl hcat d kk
