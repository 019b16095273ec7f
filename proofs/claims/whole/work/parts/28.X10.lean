def x_X10_thrown (σ : St) : Option Int32 :=
  some (gI σ 0)
abbrev rm_X10_thrown : Room := { frames := 0, cells := 0, slots := 0, locals := 0 }
set_option maxHeartbeats 4000000 in
set_option maxRecDepth 100000 in
theorem c_X10_thrown {l : Launch} {E : EV} {X : va_W} {σ : St} {rv : Int32} (h : x_X10_thrown σ = some rv) : CM l yX10_thrown cX10_thrown 1 (some .int) rm_X10_thrown [.ref (eA E 0)] E (wM E σ ++ X) (wM E σ ++ X) (qI rv) := by
  refine CM.start (by decide) (Nat.le_of_ble_eq_true rfl) (fun p e s m a below meth c A ls cx hr hlk hV hl => ?_)
  have cx : CallFix p m c cX10_thrown 1 s a TBL RX10 := cx
  have hx := cx.1
  have hb := cx.2.1
  have hl : lv_has ls 1 [(0, .ref (eA E 0))] := hl
  generalize hQ : EQ E (wM E σ ++ X) (qI rv) A s a below = QQ
  obtain ⟨H, hH⟩ : ∃ H, H = s.heap := ⟨_, rfl⟩
  obtain ⟨locs, hlocs⟩ : ∃ z, z = ([] : List Loc) := ⟨_, rfl⟩
  have hV : AtW E (wM E σ ++ X) A s H locs := by rw [hH, hlocs]; exact hV
  have goal : W p l e rm_X10_thrown s m a below meth c H locs 0 0 QQ (F0 m 0 ls []) := by
    unfold x_X10_thrown at h
    refine lv_aload_n hx hb dX10_thrown_0 rfl (lv_at hl 0 rfl) ?_
    refine G_X10_thrown cx hV mk_6_97 dX10_thrown_1 ?_
    have h1 := Option.some.inj h
    subst h1
    subst hQ
    exact r_ireti cx hr hlk hV dX10_thrown_4
  rw [hH, hlocs] at goal
  exact goal
theorem k_X10_thrown {p : Program} {l : Launch} {e : Env} {R : Room} {s : State} {m : MethodId} {a : Array Value} {below : List Frame} {meth : Method} {c : Code} {H : Heap} {locs : List Loc} {cells slots : Nat} {Q : State → Prop} {cc : ByteArray} {own : String} {nL pc : Nat} {ls : Array Slot} {rest : List Value} {A : Nat → Prop} {E : EV} {X : va_W} {σ : St} {rv : Int32} (h : x_X10_thrown σ = some rv) (cx : CallFix p m c cc nL s a TBL own) (hV : AtW E (wM E σ ++ X) A s H locs) {idx : Nat} (w1 : Cond.methodLink own idx yX10_thrown ∈ TBL) (hR : (rm_X10_thrown).frames + 1 ≤ R.frames ∧ 8 + (1 + 11) + (rm_X10_thrown).locals ≤ R.locals) (hcs : cells ≤ R.cells ∧ slots ≤ R.slots) (hls : ls.size = nL) (hcat : (rest.map fun v => v.category).sum ≤ 8) (d : decode cc pc = .ok (.invokevirtual idx, 3)) (kk : ∀ (H1 : Heap) (locs1 : List Loc), AtW E (wM E σ ++ X) A s H1 locs1 → W p l e R s m a below meth c H1 locs1 cells slots Q (F0 m (pc + 3) ls (.int rv :: rest))) : W p l e R s m a below meth c H locs cells slots Q (F0 m pc ls (.ref (eA E 0) :: rest)) :=
  r_calli (n := 0) (As := []) (q0 := 0) (ci := 10) (qq := (RX10, TX10, 64)) (c_X10_thrown h) rfl rfl rfl mk_6_76 mk_6_77 mk_1_11 mk_6_78 (by decide +kernel) rfl ⟨rfl, rfl⟩ cx hV w1 hR hcs hls rfl hcat d kk
def x_X10_may_b26 (σ1 : St) : Option (Int32 × St) :=
  (if (gI σ1 0) = 0 then
  some (1, σ1)
  else
  some (0, σ1))
def x_X10_may (p1 : Int32) (p2 : Int32) (p3 : Int32) (σ : St) : Option (Int32 × St) :=
  (if p1 = 0 then
  (if (gI σ 0) = 0 then
  bd (some (sI σ 0 p2)) fun σ2 =>
  bd (ldI (gA σ2 0) (lenM 0) p3) fun v3 =>
  bd (stI σ2 0 (lenM 0) p3 (v3 + 1)) fun σ4 =>
  x_X10_may_b26 σ4
  else
  x_X10_may_b26 σ)
  else
  x_X10_may_b26 σ)
abbrev rm_X10_may : Room := { frames := 0, cells := 0, slots := 0, locals := 0 }
set_option maxHeartbeats 4000000 in
set_option maxRecDepth 100000 in
theorem c_X10_may {l : Launch} {E : EV} {X : va_W} {σ : St} {p1 : Int32} {p2 : Int32} {p3 : Int32} {rv : Int32} {σf : St} (h : x_X10_may p1 p2 p3 σ = some (rv, σf)) : CM l yX10_may cX10_may 4 (some .boolean) rm_X10_may [.ref (eA E 0), .int p1, .int p2, .int p3] E (wM E σ ++ X) (wM E σf ++ X) (qI rv) := by
  refine CM.start (by decide) (Nat.le_of_ble_eq_true rfl) (fun p e s m a below meth c A ls cx hr hlk hV hl => ?_)
  have cx : CallFix p m c cX10_may 4 s a TBL RX10 := cx
  have hx := cx.1
  have hb := cx.2.1
  have hl : lv_has ls 4 [(0, .ref (eA E 0)), (1, .int p1), (2, .int p2), (3, .int p3)] := hl
  generalize hQ : EQ E (wM E σf ++ X) (qI rv) A s a below = QQ
  obtain ⟨H, hH⟩ : ∃ H, H = s.heap := ⟨_, rfl⟩
  obtain ⟨locs, hlocs⟩ : ∃ z, z = ([] : List Loc) := ⟨_, rfl⟩
  have hV : AtW E (wM E σ ++ X) A s H locs := by rw [hH, hlocs]; exact hV
  have goal : W p l e rm_X10_may s m a below meth c H locs 0 0 QQ (F0 m 0 ls []) := by
    unfold x_X10_may at h
    have hj26 : ∀ (σ1 : St) (H : Heap) (locs : List Loc) (ls : Array Slot), x_X10_may_b26 σ1 = some (rv, σf) → AtW E (wM E σ1 ++ X) A s H locs → lv_has ls 4 [(0, .ref (eA E 0))] → W p l e rm_X10_may s m a below meth c H locs 0 0 QQ (F0 m 26 ls []) := by
      intro σ1 H locs ls h hV hl
      unfold x_X10_may_b26 at h
      refine lv_aload_n hx hb dX10_may_26 rfl (lv_at hl 0 rfl) ?_
      refine G_X10_thrown cx hV mk_6_97 dX10_may_27 ?_
      refine lv_if_ne (tgt := 37) hx hb dX10_may_30 (by decide) (fun hc => ?_) (fun hc => ?_)
      · have h := ifn hc h
        refine lv_iconst (v := 0) hx hb dX10_may_37 (by decide) ?_
        obtain ⟨h1, h2⟩ := Prod.mk.inj (Option.some.inj h)
        subst h1
        subst h2
        subst hQ
        exact r_zreti cx hr hlk hV (Or.inl rfl) dX10_may_38
      · have h := ifp hc h
        refine lv_iconst (v := 1) hx hb dX10_may_33 (by decide) ?_
        refine lv_goto (tgt := 38) hx hb dX10_may_34 (by decide) ?_
        obtain ⟨h1, h2⟩ := Prod.mk.inj (Option.some.inj h)
        subst h1
        subst h2
        subst hQ
        exact r_zreti cx hr hlk hV (Or.inr rfl) dX10_may_38
    refine lv_iload_n hx hb dX10_may_0 rfl (lv_at hl 1 rfl) ?_
    refine lv_if_ne (tgt := 26) hx hb dX10_may_1 (by decide) (fun hc => ?_) (fun hc => ?_)
    · have h := ifn hc h
      exact hj26 σ _ _ _ h hV (lv_sub hl [0] rfl)
    · have h := ifp hc h
      refine lv_aload_n hx hb dX10_may_4 rfl (lv_at hl 0 rfl) ?_
      refine G_X10_thrown cx hV mk_6_97 dX10_may_5 ?_
      refine lv_if_ne (tgt := 26) hx hb dX10_may_8 (by decide) (fun hc => ?_) (fun hc => ?_)
      · have h := ifn hc h
        exact hj26 σ _ _ _ h hV (lv_sub hl [0] rfl)
      · have h := ifp hc h
        refine lv_aload_n hx hb dX10_may_11 rfl (lv_at hl 0 rfl) ?_
        refine lv_iload_n hx hb dX10_may_12 rfl (lv_at hl 2 rfl) ?_
        refine bd_e h (fun σ2 hq h => ?_)
        refine P_X10_thrown cx hV hq mk_6_97 dX10_may_13 (fun H locs hV => ?_)
        refine lv_aload_n hx hb dX10_may_16 rfl (lv_at hl 0 rfl) ?_
        refine G_X10_refused cx hV mk_6_98 dX10_may_17 ?_
        refine lv_iload_n hx hb dX10_may_20 rfl (lv_at hl 3 rfl) ?_
        refine lv_dup2_11 hx hb dX10_may_21 rfl rfl ?_
        refine bd_e h (fun v3 hq h => ?_)
        refine R_M_iald cx hV (by decide) hq dX10_may_22 ?_
        refine lv_iconst (v := 1) hx hb dX10_may_23 (by decide) ?_
        refine lv_iadd hx hb dX10_may_24 ?_
        refine bd_e h (fun σ4 hq h => ?_)
        refine R_M_iast cx hV (by decide) hq dX10_may_25 (fun H locs hV => ?_)
        exact hj26 σ4 _ _ _ h hV (lv_sub hl [0] rfl)
  rw [hH, hlocs] at goal
  exact goal
theorem k_X10_may {p : Program} {l : Launch} {e : Env} {R : Room} {s : State} {m : MethodId} {a : Array Value} {below : List Frame} {meth : Method} {c : Code} {H : Heap} {locs : List Loc} {cells slots : Nat} {Q : State → Prop} {cc : ByteArray} {own : String} {nL pc : Nat} {ls : Array Slot} {rest : List Value} {A : Nat → Prop} {E : EV} {X : va_W} {σ : St} {p1 : Int32} {p2 : Int32} {p3 : Int32} {rv : Int32} {σf : St} (h : x_X10_may p1 p2 p3 σ = some (rv, σf)) (cx : CallFix p m c cc nL s a TBL own) (hV : AtW E (wM E σ ++ X) A s H locs) {idx : Nat} (w1 : Cond.methodLink own idx yX10_may ∈ TBL) (hR : (rm_X10_may).frames + 1 ≤ R.frames ∧ 8 + (4 + 11) + (rm_X10_may).locals ≤ R.locals) (hcs : cells ≤ R.cells ∧ slots ≤ R.slots) (hls : ls.size = nL) (hcat : (rest.map fun v => v.category).sum ≤ 8) (d : decode cc pc = .ok (.invokevirtual idx, 3)) (kk : ∀ (H1 : Heap) (locs1 : List Loc), AtW E (wM E σf ++ X) A s H1 locs1 → W p l e R s m a below meth c H1 locs1 cells slots Q (F0 m (pc + 3) ls (.int rv :: rest))) : W p l e R s m a below meth c H locs cells slots Q (F0 m pc ls (.int p3 :: .int p2 :: .int p1 :: .ref (eA E 0) :: rest)) :=
  r_calli (n := 3) (As := [.int p1, .int p2, .int p3]) (q0 := 0) (ci := 10) (qq := (RX10, TX10, 64)) (c_X10_may h) wM_fst rfl rfl mk_7_64 mk_P_62 mk_1_11 mk_7_65 (by decide +kernel) rfl ⟨rfl, rfl⟩ cx hV w1 hR hcs hls rfl hcat d kk
def x_X10_within (p1 : Int32) (p2 : Int32) (p3 : Int32) : Option Int32 :=
  (if p1 < p2 then
  some 0
  else
  (if p3 < p1 then
  some 0
  else
  some 1))
abbrev rm_X10_within : Room := { frames := 0, cells := 0, slots := 0, locals := 0 }
set_option maxHeartbeats 4000000 in
set_option maxRecDepth 100000 in
theorem c_X10_within {l : Launch} {E : EV} {V : va_W} {p1 : Int32} {p2 : Int32} {p3 : Int32} {rv : Int32} (h : x_X10_within p1 p2 p3 = some rv) : CM l yX10_within cX10_within 3 (some .boolean) rm_X10_within [.int p1, .int p2, .int p3] E V V (qI rv) := by
  refine CM.start (by decide) (Nat.le_of_ble_eq_true rfl) (fun p e s m a below meth c A ls cx hr hlk hV hl => ?_)
  have cx : CallFix p m c cX10_within 3 s a TBL RX10 := cx
  have hx := cx.1
  have hb := cx.2.1
  have hl : lv_has ls 3 [(0, .int p1), (1, .int p2), (2, .int p3)] := hl
  generalize hQ : EQ E V (qI rv) A s a below = QQ
  obtain ⟨H, hH⟩ : ∃ H, H = s.heap := ⟨_, rfl⟩
  obtain ⟨locs, hlocs⟩ : ∃ z, z = ([] : List Loc) := ⟨_, rfl⟩
  have hV : AtW E V A s H locs := by rw [hH, hlocs]; exact hV
  have goal : W p l e rm_X10_within s m a below meth c H locs 0 0 QQ (F0 m 0 ls []) := by
    unfold x_X10_within at h
    refine lv_iload_n hx hb dX10_within_0 rfl (lv_at hl 0 rfl) ?_
    refine lv_iload_n hx hb dX10_within_1 rfl (lv_at hl 1 rfl) ?_
    refine lv_icmp_lt (tgt := 14) hx hb dX10_within_2 (by decide) (fun hc => ?_) (fun hc => ?_)
    · have h := ifp hc h
      refine lv_iconst (v := 0) hx hb dX10_within_14 (by decide) ?_
      have h1 := Option.some.inj h
      subst h1
      subst hQ
      exact r_zreti cx hr hlk hV (Or.inl rfl) dX10_within_15
    · have h := ifn hc h
      refine lv_iload_n hx hb dX10_within_5 rfl (lv_at hl 0 rfl) ?_
      refine lv_iload_n hx hb dX10_within_6 rfl (lv_at hl 2 rfl) ?_
      refine lv_icmp_gt (tgt := 14) hx hb dX10_within_7 (by decide) (fun hc => ?_) (fun hc => ?_)
      · have h := ifp hc h
        refine lv_iconst (v := 0) hx hb dX10_within_14 (by decide) ?_
        have h1 := Option.some.inj h
        subst h1
        subst hQ
        exact r_zreti cx hr hlk hV (Or.inl rfl) dX10_within_15
      · have h := ifn hc h
        refine lv_iconst (v := 1) hx hb dX10_within_10 (by decide) ?_
        refine lv_goto (tgt := 15) hx hb dX10_within_11 (by decide) ?_
        have h1 := Option.some.inj h
        subst h1
        subst hQ
        exact r_zreti cx hr hlk hV (Or.inr rfl) dX10_within_15
  rw [hH, hlocs] at goal
  exact goal
theorem k_X10_within {p : Program} {l : Launch} {e : Env} {R : Room} {s : State} {m : MethodId} {a : Array Value} {below : List Frame} {meth : Method} {c : Code} {H : Heap} {locs : List Loc} {cells slots : Nat} {Q : State → Prop} {cc : ByteArray} {own : String} {nL pc : Nat} {ls : Array Slot} {rest : List Value} {A : Nat → Prop} {E : EV} {V : va_W} {p1 : Int32} {p2 : Int32} {p3 : Int32} {rv : Int32} (h : x_X10_within p1 p2 p3 = some rv) (cx : CallFix p m c cc nL s a TBL own) (hV : AtW E V A s H locs) {idx : Nat} (w1 : Cond.methodLink own idx yX10_within ∈ TBL) (hR : (rm_X10_within).frames + 1 ≤ R.frames ∧ 8 + (3 + 11) + (rm_X10_within).locals ≤ R.locals) (hcs : cells ≤ R.cells ∧ slots ≤ R.slots) (hls : ls.size = nL) (hcat : (rest.map fun v => v.category).sum ≤ 8) (d : decode cc pc = .ok (.invokestatic idx, 3)) (kk : ∀ (H1 : Heap) (locs1 : List Loc), AtW E V A s H1 locs1 → W p l e R s m a below meth c H1 locs1 cells slots Q (F0 m (pc + 3) ls (.int rv :: rest))) : W p l e R s m a below meth c H locs cells slots Q (F0 m pc ls (.int p3 :: .int p2 :: .int p1 :: rest)) :=
  r_sti (n := 3) (As := [.int p1, .int p2, .int p3]) (c_X10_within h) rfl mk_7_142 mk_1_11 mk_7_143 (by decide +kernel) rfl ⟨rfl, rfl⟩ cx hV w1 hR hcs hls rfl hcat d kk
def x_X10_clears_L22 (u5 : Int32) (σ6 : St) : Option (Bool × (Int32 × St)) :=
  (if 24 ≤ u5 then
  some (false, (u5, σ6))
  else
  bd (stI σ6 15 (lenM 15) u5 u5) fun σ7 =>
  some (true, ((u5 + 1), σ7)))
def x_X10_clears_b43_65 (w12 : Int32) (w13 : Int32) (w14 : Int32) (σ15 : St) : Option (Bool × (Int32 × St)) :=
  bd (stI σ15 12 (lenM 12) w13 w14) fun σ16 =>
  some (true, ((w12 + 1), σ16))
def x_X10_clears_L43 (u10 : Int32) (σ11 : St) : Option (Bool × (Int32 × St)) :=
  (if 9 ≤ u10 then
  some (false, (u10, σ11))
  else
  (if u10 = 0 then
  x_X10_clears_b43_65 u10 u10 0 σ11
  else
  x_X10_clears_b43_65 u10 u10 (u10 - 1) σ11))
def x_X10_clears_b74_93 (w21 : Int32) (w22 : Int32) (w23 : Int32) (σ24 : St) : Option (Bool × (Int32 × St)) :=
  bd (stI σ24 13 (lenM 13) w22 w23) fun σ25 =>
  some (true, ((w21 + 1), σ25))
def x_X10_clears_L74 (u19 : Int32) (σ20 : St) : Option (Bool × (Int32 × St)) :=
  (if 4 ≤ u19 then
  some (false, (u19, σ20))
  else
  (if u19 = 0 then
  x_X10_clears_b74_93 u19 u19 1 σ20
  else
  x_X10_clears_b74_93 u19 u19 0 σ20))
def x_X10_clears (σ : St) : Option St :=
  bd (some (sI σ 12 0)) fun σ1 =>
  bd (some (sI σ1 13 0)) fun σ2 =>
  bd (some (sI σ2 14 0)) fun σ3 =>
  bd (some (sI σ3 15 5)) fun σ4 =>
  bd2 (lp (fun v : (Int32 × St) => x_X10_clears_L22 v.1 v.2) FU (0, σ4)) fun z8 σ9 =>
  bd2 (lp (fun v : (Int32 × St) => x_X10_clears_L43 v.1 v.2) FU (0, σ9)) fun z17 σ18 =>
  bd2 (lp (fun v : (Int32 × St) => x_X10_clears_L74 v.1 v.2) FU (0, σ18)) fun z26 σ27 =>
  some σ27
abbrev rm_X10_clears : Room := { frames := 0, cells := 0, slots := 0, locals := 0 }
set_option maxHeartbeats 4000000 in
set_option maxRecDepth 100000 in
theorem c_X10_clears {l : Launch} {E : EV} {X : va_W} {σ : St} {σf : St} (h : x_X10_clears σ = some σf) : CM l yX10_clears cX10_clears 2 none rm_X10_clears [.ref (eA E 0)] E (wM E σ ++ X) (wM E σf ++ X) qV := by
  refine CM.start (by decide) (Nat.le_of_ble_eq_true rfl) (fun p e s m a below meth c A ls cx hr hlk hV hl => ?_)
  have cx : CallFix p m c cX10_clears 2 s a TBL RX10 := cx
  have hx := cx.1
  have hb := cx.2.1
  have hl : lv_has ls 2 [(0, .ref (eA E 0))] := hl
  generalize hQ : EQ E (wM E σf ++ X) qV A s a below = QQ
  obtain ⟨H, hH⟩ : ∃ H, H = s.heap := ⟨_, rfl⟩
  obtain ⟨locs, hlocs⟩ : ∃ z, z = ([] : List Loc) := ⟨_, rfl⟩
  have hV : AtW E (wM E σ ++ X) A s H locs := by rw [hH, hlocs]; exact hV
  have goal : W p l e rm_X10_clears s m a below meth c H locs 0 0 QQ (F0 m 0 ls []) := by
    unfold x_X10_clears at h
    refine lv_aload_n hx hb dX10_clears_0 rfl (lv_at hl 0 rfl) ?_
    refine lv_iconst (v := 0) hx hb dX10_clears_1 (by decide) ?_
    refine bd_e h (fun σ1 hq h => ?_)
    refine P_X10_newCrates cx hV hq mk_6_125 dX10_clears_2 (fun H locs hV => ?_)
    refine lv_aload_n hx hb dX10_clears_5 rfl (lv_at hl 0 rfl) ?_
    refine lv_iconst (v := 0) hx hb dX10_clears_6 (by decide) ?_
    refine bd_e h (fun σ2 hq h => ?_)
    refine P_X10_newSleeves cx hV hq mk_6_126 dX10_clears_7 (fun H locs hV => ?_)
    refine lv_aload_n hx hb dX10_clears_10 rfl (lv_at hl 0 rfl) ?_
    refine lv_iconst (v := 0) hx hb dX10_clears_11 (by decide) ?_
    refine bd_e h (fun σ3 hq h => ?_)
    refine P_X10_newLookers cx hV hq mk_6_127 dX10_clears_12 (fun H locs hV => ?_)
    refine lv_aload_n hx hb dX10_clears_15 rfl (lv_at hl 0 rfl) ?_
    refine lv_iconst (v := 5) hx hb dX10_clears_16 (by decide) ?_
    refine bd_e h (fun σ4 hq h => ?_)
    refine P_X10_newStop cx hV hq mk_6_128 dX10_clears_17 (fun H locs hV => ?_)
    refine lv_iconst (v := 0) hx hb dX10_clears_20 (by decide) ?_
    refine lv_istore_n (lv' := [(1, .int 0), (0, .ref (eA E 0))]) hx hb dX10_clears_21 rfl hl (by decide) rfl (fun ls hl => ?_)
    refine bd2_e h (fun z8 σ9 ho h => ?_)
    refine (lp_rule (G := (fun v : (Int32 × St) => ∀ (H : Heap) (locs : List Loc) (ls : Array Slot), AtW E (wM E v.2 ++ X) A s H locs → lv_has ls 2 [(0, .ref (eA E 0)), (1, .int v.1)] → W p l e rm_X10_clears s m a below meth c H locs 0 0 QQ (F0 m 22 ls []))) (K := (fun v : (Int32 × St) => ∀ (H : Heap) (locs : List Loc) (ls : Array Slot), AtW E (wM E v.2 ++ X) A s H locs → lv_has ls 2 [(0, .ref (eA E 0))] → W p l e rm_X10_clears s m a below meth c H locs 0 0 QQ (F0 m 41 ls []))) (fun v b1 y1 h hT1 hF1 => ?_) ho (fun H locs ls hV hl => ?_)) _ _ _ hV (lv_sub hl [1, 0] rfl)
    · obtain ⟨u5, σ6⟩ := v
      have h : x_X10_clears_L22 u5 σ6 = some (b1, y1) := h
      intro H locs ls hV hl
      have hV : AtW E (wM E σ6 ++ X) A s H locs := hV
      have hl : lv_has ls 2 [(0, .ref (eA E 0)), (1, .int u5)] := hl
      unfold x_X10_clears_L22 at h
      refine lv_iload_n hx hb dX10_clears_22 rfl (lv_at hl 1 rfl) ?_
      refine lv_bipush (v := 24) hx hb dX10_clears_23 (by decide) ?_
      refine lv_icmp_ge (tgt := 41) hx hb dX10_clears_25 (by decide) (fun hc => ?_) (fun hc => ?_)
      · have h := ifp hc h
        cases h
        exact hF1 rfl _ _ _ hV (lv_sub hl [0] rfl)
      · have h := ifn hc h
        refine lv_aload_n hx hb dX10_clears_28 rfl (lv_at hl 0 rfl) ?_
        refine G_X10_newDisc cx hV mk_6_120 dX10_clears_29 ?_
        refine lv_iload_n hx hb dX10_clears_32 rfl (lv_at hl 1 rfl) ?_
        refine lv_iload_n hx hb dX10_clears_33 rfl (lv_at hl 1 rfl) ?_
        refine bd_e h (fun σ7 hq h => ?_)
        refine R_M_iast cx hV (by decide) hq dX10_clears_34 (fun H locs hV => ?_)
        refine lv_iinc (v := (u5 + 1)) (lv' := [(1, .int (u5 + 1)), (0, .ref (eA E 0))]) hx hb dX10_clears_35 hl (k := 1) rfl rfl (by decide) rfl (fun ls hl => ?_)
        refine lv_goto (tgt := 22) hx hb dX10_clears_38 (by decide) ?_
        cases h
        exact hT1 rfl _ _ _ hV (lv_sub hl [1, 0] rfl)
    · have hV : AtW E (wM E σ9 ++ X) A s H locs := hV
      have hl : lv_has ls 2 [(0, .ref (eA E 0))] := hl
      refine lv_iconst (v := 0) hx hb dX10_clears_41 (by decide) ?_
      refine lv_istore_n (lv' := [(1, .int 0), (0, .ref (eA E 0))]) hx hb dX10_clears_42 rfl hl (by decide) rfl (fun ls hl => ?_)
      refine bd2_e h (fun z17 σ18 ho h => ?_)
      refine (lp_rule (G := (fun v : (Int32 × St) => ∀ (H : Heap) (locs : List Loc) (ls : Array Slot), AtW E (wM E v.2 ++ X) A s H locs → lv_has ls 2 [(0, .ref (eA E 0)), (1, .int v.1)] → W p l e rm_X10_clears s m a below meth c H locs 0 0 QQ (F0 m 43 ls []))) (K := (fun v : (Int32 × St) => ∀ (H : Heap) (locs : List Loc) (ls : Array Slot), AtW E (wM E v.2 ++ X) A s H locs → lv_has ls 2 [(0, .ref (eA E 0))] → W p l e rm_X10_clears s m a below meth c H locs 0 0 QQ (F0 m 72 ls []))) (fun v b1 y1 h hT1 hF1 => ?_) ho (fun H locs ls hV hl => ?_)) _ _ _ hV (lv_sub hl [1, 0] rfl)
      · have hj43_65 : ∀ (w12 : Int32) (w13 : Int32) (w14 : Int32) (σ15 : St) (H : Heap) (locs : List Loc) (ls : Array Slot), x_X10_clears_b43_65 w12 w13 w14 σ15 = some (b1, y1) → AtW E (wM E σ15 ++ X) A s H locs → lv_has ls 2 [(0, .ref (eA E 0)), (1, .int w12)] → W p l e rm_X10_clears s m a below meth c H locs 0 0 QQ (F0 m 65 ls [.int w14, .int w13, .ref (eA E (pM 12))]) := by
          intro w12 w13 w14 σ15 H locs ls h hV hl
          unfold x_X10_clears_b43_65 at h
          refine bd_e h (fun σ16 hq h => ?_)
          refine R_M_iast cx hV (by decide) hq dX10_clears_65 (fun H locs hV => ?_)
          refine lv_iinc (v := (w12 + 1)) (lv' := [(1, .int (w12 + 1)), (0, .ref (eA E 0))]) hx hb dX10_clears_66 hl (k := 1) rfl rfl (by decide) rfl (fun ls hl => ?_)
          refine lv_goto (tgt := 43) hx hb dX10_clears_69 (by decide) ?_
          cases h
          exact hT1 rfl _ _ _ hV (lv_sub hl [1, 0] rfl)
        obtain ⟨u10, σ11⟩ := v
        have h : x_X10_clears_L43 u10 σ11 = some (b1, y1) := h
        intro H locs ls hV hl
        have hV : AtW E (wM E σ11 ++ X) A s H locs := hV
        have hl : lv_has ls 2 [(0, .ref (eA E 0)), (1, .int u10)] := hl
        unfold x_X10_clears_L43 at h
        refine lv_iload_n hx hb dX10_clears_43 rfl (lv_at hl 1 rfl) ?_
        refine lv_bipush (v := 9) hx hb dX10_clears_44 (by decide) ?_
        refine lv_icmp_ge (tgt := 72) hx hb dX10_clears_46 (by decide) (fun hc => ?_) (fun hc => ?_)
        · have h := ifp hc h
          cases h
          exact hF1 rfl _ _ _ hV (lv_sub hl [0] rfl)
        · have h := ifn hc h
          refine lv_aload_n hx hb dX10_clears_49 rfl (lv_at hl 0 rfl) ?_
          refine G_X10_newMissed cx hV mk_6_117 dX10_clears_50 ?_
          refine lv_iload_n hx hb dX10_clears_53 rfl (lv_at hl 1 rfl) ?_
          refine lv_iload_n hx hb dX10_clears_54 rfl (lv_at hl 1 rfl) ?_
          refine lv_if_ne (tgt := 62) hx hb dX10_clears_55 (by decide) (fun hc => ?_) (fun hc => ?_)
          · have h := ifn hc h
            refine lv_iload_n hx hb dX10_clears_62 rfl (lv_at hl 1 rfl) ?_
            refine lv_iconst (v := 1) hx hb dX10_clears_63 (by decide) ?_
            refine lv_isub hx hb dX10_clears_64 ?_
            exact hj43_65 u10 u10 (u10 - 1) σ11 _ _ _ h hV (lv_sub hl [0, 1] rfl)
          · have h := ifp hc h
            refine lv_iconst (v := 0) hx hb dX10_clears_58 (by decide) ?_
            refine lv_goto (tgt := 65) hx hb dX10_clears_59 (by decide) ?_
            exact hj43_65 u10 u10 0 σ11 _ _ _ h hV (lv_sub hl [0, 1] rfl)
      · have hV : AtW E (wM E σ18 ++ X) A s H locs := hV
        have hl : lv_has ls 2 [(0, .ref (eA E 0))] := hl
        refine lv_iconst (v := 0) hx hb dX10_clears_72 (by decide) ?_
        refine lv_istore_n (lv' := [(1, .int 0), (0, .ref (eA E 0))]) hx hb dX10_clears_73 rfl hl (by decide) rfl (fun ls hl => ?_)
        refine bd2_e h (fun z26 σ27 ho h => ?_)
        refine (lp_rule (G := (fun v : (Int32 × St) => ∀ (H : Heap) (locs : List Loc) (ls : Array Slot), AtW E (wM E v.2 ++ X) A s H locs → lv_has ls 2 [(0, .ref (eA E 0)), (1, .int v.1)] → W p l e rm_X10_clears s m a below meth c H locs 0 0 QQ (F0 m 74 ls []))) (K := (fun v : (Int32 × St) => ∀ (H : Heap) (locs : List Loc) (ls : Array Slot), AtW E (wM E v.2 ++ X) A s H locs → lv_has ls 2 [] → W p l e rm_X10_clears s m a below meth c H locs 0 0 QQ (F0 m 100 ls []))) (fun v b1 y1 h hT1 hF1 => ?_) ho (fun H locs ls hV hl => ?_)) _ _ _ hV (lv_sub hl [1, 0] rfl)
        · have hj74_93 : ∀ (w21 : Int32) (w22 : Int32) (w23 : Int32) (σ24 : St) (H : Heap) (locs : List Loc) (ls : Array Slot), x_X10_clears_b74_93 w21 w22 w23 σ24 = some (b1, y1) → AtW E (wM E σ24 ++ X) A s H locs → lv_has ls 2 [(0, .ref (eA E 0)), (1, .int w21)] → W p l e rm_X10_clears s m a below meth c H locs 0 0 QQ (F0 m 93 ls [.int w23, .int w22, .ref (eA E (pM 13))]) := by
            intro w21 w22 w23 σ24 H locs ls h hV hl
            unfold x_X10_clears_b74_93 at h
            refine bd_e h (fun σ25 hq h => ?_)
            refine R_M_iast cx hV (by decide) hq dX10_clears_93 (fun H locs hV => ?_)
            refine lv_iinc (v := (w21 + 1)) (lv' := [(1, .int (w21 + 1)), (0, .ref (eA E 0))]) hx hb dX10_clears_94 hl (k := 1) rfl rfl (by decide) rfl (fun ls hl => ?_)
            refine lv_goto (tgt := 74) hx hb dX10_clears_97 (by decide) ?_
            cases h
            exact hT1 rfl _ _ _ hV (lv_sub hl [1, 0] rfl)
          obtain ⟨u19, σ20⟩ := v
          have h : x_X10_clears_L74 u19 σ20 = some (b1, y1) := h
          intro H locs ls hV hl
          have hV : AtW E (wM E σ20 ++ X) A s H locs := hV
          have hl : lv_has ls 2 [(0, .ref (eA E 0)), (1, .int u19)] := hl
          unfold x_X10_clears_L74 at h
          refine lv_iload_n hx hb dX10_clears_74 rfl (lv_at hl 1 rfl) ?_
          refine lv_iconst (v := 4) hx hb dX10_clears_75 (by decide) ?_
          refine lv_icmp_ge (tgt := 100) hx hb dX10_clears_76 (by decide) (fun hc => ?_) (fun hc => ?_)
          · have h := ifp hc h
            cases h
            exact hF1 rfl _ _ _ hV (lv_sub hl [] rfl)
          · have h := ifn hc h
            refine lv_aload_n hx hb dX10_clears_79 rfl (lv_at hl 0 rfl) ?_
            refine G_X10_newWeight cx hV mk_6_118 dX10_clears_80 ?_
            refine lv_iload_n hx hb dX10_clears_83 rfl (lv_at hl 1 rfl) ?_
            refine lv_iload_n hx hb dX10_clears_84 rfl (lv_at hl 1 rfl) ?_
            refine lv_if_ne (tgt := 92) hx hb dX10_clears_85 (by decide) (fun hc => ?_) (fun hc => ?_)
            · have h := ifn hc h
              refine lv_iconst (v := 0) hx hb dX10_clears_92 (by decide) ?_
              exact hj74_93 u19 u19 0 σ20 _ _ _ h hV (lv_sub hl [0, 1] rfl)
            · have h := ifp hc h
              refine lv_iconst (v := 1) hx hb dX10_clears_88 (by decide) ?_
              refine lv_goto (tgt := 93) hx hb dX10_clears_89 (by decide) ?_
              exact hj74_93 u19 u19 1 σ20 _ _ _ h hV (lv_sub hl [0, 1] rfl)
        · have hV : AtW E (wM E σ27 ++ X) A s H locs := hV
          have hl : lv_has ls 2 [] := hl
          have h1 := Option.some.inj h
          subst h1
          subst hQ
          exact r_vret cx hr hlk hV dX10_clears_100
  rw [hH, hlocs] at goal
  exact goal
theorem k_X10_clears {p : Program} {l : Launch} {e : Env} {R : Room} {s : State} {m : MethodId} {a : Array Value} {below : List Frame} {meth : Method} {c : Code} {H : Heap} {locs : List Loc} {cells slots : Nat} {Q : State → Prop} {cc : ByteArray} {own : String} {nL pc : Nat} {ls : Array Slot} {rest : List Value} {A : Nat → Prop} {E : EV} {X : va_W} {σ : St} {σf : St} (h : x_X10_clears σ = some σf) (cx : CallFix p m c cc nL s a TBL own) (hV : AtW E (wM E σ ++ X) A s H locs) {idx : Nat} (w1 : Cond.methodLink own idx yX10_clears ∈ TBL) (hR : (rm_X10_clears).frames + 1 ≤ R.frames ∧ 8 + (2 + 11) + (rm_X10_clears).locals ≤ R.locals) (hcs : cells ≤ R.cells ∧ slots ≤ R.slots) (hls : ls.size = nL) (hcat : (rest.map fun v => v.category).sum ≤ 8) (d : decode cc pc = .ok (.invokevirtual idx, 3)) (kk : ∀ (H1 : Heap) (locs1 : List Loc), AtW E (wM E σf ++ X) A s H1 locs1 → W p l e R s m a below meth c H1 locs1 cells slots Q (F0 m (pc + 3) ls (rest))) : W p l e R s m a below meth c H locs cells slots Q (F0 m pc ls (.ref (eA E 0) :: rest)) :=
  r_callv (n := 0) (As := []) (q0 := 0) (ci := 10) (qq := (RX10, TX10, 64)) (c_X10_clears h) wM_fst rfl rfl mk_6_87 mk_P_59 mk_1_11 mk_6_88 (by decide +kernel) rfl ⟨rfl, rfl⟩ cx hV w1 hR hcs hls rfl hcat d kk
def x_X10_comesTo (p1 : Int32) (p2 : Int32) (σ : St) : Option St :=
  bd (ldI (gA σ 16) (lenM 16) p1) fun v1 =>
  bd (stI σ 17 (lenM 17) ((24 * p1) + v1) p2) fun σ2 =>
  bd (ldI (gA σ2 16) (lenM 16) p1) fun v3 =>
  bd (stI σ2 16 (lenM 16) p1 (v3 + 1)) fun σ4 =>
  bd (stI σ4 7 (lenM 7) p2 p1) fun σ5 =>
  some σ5
abbrev rm_X10_comesTo : Room := { frames := 0, cells := 0, slots := 0, locals := 0 }
set_option maxHeartbeats 4000000 in
set_option maxRecDepth 100000 in
theorem c_X10_comesTo {l : Launch} {E : EV} {X : va_W} {σ : St} {p1 : Int32} {p2 : Int32} {σf : St} (h : x_X10_comesTo p1 p2 σ = some σf) : CM l yX10_comesTo cX10_comesTo 3 none rm_X10_comesTo [.ref (eA E 0), .int p1, .int p2] E (wM E σ ++ X) (wM E σf ++ X) qV := by
  refine CM.start (by decide) (Nat.le_of_ble_eq_true rfl) (fun p e s m a below meth c A ls cx hr hlk hV hl => ?_)
  have cx : CallFix p m c cX10_comesTo 3 s a TBL RX10 := cx
  have hx := cx.1
  have hb := cx.2.1
  have hl : lv_has ls 3 [(0, .ref (eA E 0)), (1, .int p1), (2, .int p2)] := hl
  generalize hQ : EQ E (wM E σf ++ X) qV A s a below = QQ
  obtain ⟨H, hH⟩ : ∃ H, H = s.heap := ⟨_, rfl⟩
  obtain ⟨locs, hlocs⟩ : ∃ z, z = ([] : List Loc) := ⟨_, rfl⟩
  have hV : AtW E (wM E σ ++ X) A s H locs := by rw [hH, hlocs]; exact hV
  have goal : W p l e rm_X10_comesTo s m a below meth c H locs 0 0 QQ (F0 m 0 ls []) := by
    unfold x_X10_comesTo at h
    refine lv_aload_n hx hb dX10_comesTo_0 rfl (lv_at hl 0 rfl) ?_
    refine G_X10_row cx hV mk_6_130 dX10_comesTo_1 ?_
    refine lv_bipush (v := 24) hx hb dX10_comesTo_4 (by decide) ?_
    refine lv_iload_n hx hb dX10_comesTo_6 rfl (lv_at hl 1 rfl) ?_
    refine lv_imul hx hb dX10_comesTo_7 ?_
    refine lv_aload_n hx hb dX10_comesTo_8 rfl (lv_at hl 0 rfl) ?_
    refine G_X10_many cx hV mk_6_129 dX10_comesTo_9 ?_
    refine lv_iload_n hx hb dX10_comesTo_12 rfl (lv_at hl 1 rfl) ?_
    refine bd_e h (fun v1 hq h => ?_)
    refine R_M_iald cx hV (by decide) hq dX10_comesTo_13 ?_
    refine lv_iadd hx hb dX10_comesTo_14 ?_
    refine lv_iload_n hx hb dX10_comesTo_15 rfl (lv_at hl 2 rfl) ?_
    refine bd_e h (fun σ2 hq h => ?_)
    refine R_M_iast cx hV (by decide) hq dX10_comesTo_16 (fun H locs hV => ?_)
    refine lv_aload_n hx hb dX10_comesTo_17 rfl (lv_at hl 0 rfl) ?_
    refine G_X10_many cx hV mk_6_129 dX10_comesTo_18 ?_
    refine lv_iload_n hx hb dX10_comesTo_21 rfl (lv_at hl 1 rfl) ?_
    refine lv_dup2_11 hx hb dX10_comesTo_22 rfl rfl ?_
    refine bd_e h (fun v3 hq h => ?_)
    refine R_M_iald cx hV (by decide) hq dX10_comesTo_23 ?_
    refine lv_iconst (v := 1) hx hb dX10_comesTo_24 (by decide) ?_
    refine lv_iadd hx hb dX10_comesTo_25 ?_
    refine bd_e h (fun σ4 hq h => ?_)
    refine R_M_iast cx hV (by decide) hq dX10_comesTo_26 (fun H locs hV => ?_)
    refine lv_aload_n hx hb dX10_comesTo_27 rfl (lv_at hl 0 rfl) ?_
    refine G_X10_liesAt cx hV mk_6_112 dX10_comesTo_28 ?_
    refine lv_iload_n hx hb dX10_comesTo_31 rfl (lv_at hl 2 rfl) ?_
    refine lv_iload_n hx hb dX10_comesTo_32 rfl (lv_at hl 1 rfl) ?_
    refine bd_e h (fun σ5 hq h => ?_)
    refine R_M_iast cx hV (by decide) hq dX10_comesTo_33 (fun H locs hV => ?_)
    have h1 := Option.some.inj h
    subst h1
    subst hQ
    exact r_vret cx hr hlk hV dX10_comesTo_34
  rw [hH, hlocs] at goal
  exact goal
theorem k_X10_comesTo {p : Program} {l : Launch} {e : Env} {R : Room} {s : State} {m : MethodId} {a : Array Value} {below : List Frame} {meth : Method} {c : Code} {H : Heap} {locs : List Loc} {cells slots : Nat} {Q : State → Prop} {cc : ByteArray} {own : String} {nL pc : Nat} {ls : Array Slot} {rest : List Value} {A : Nat → Prop} {E : EV} {X : va_W} {σ : St} {p1 : Int32} {p2 : Int32} {σf : St} (h : x_X10_comesTo p1 p2 σ = some σf) (cx : CallFix p m c cc nL s a TBL own) (hV : AtW E (wM E σ ++ X) A s H locs) {idx : Nat} (w1 : Cond.methodLink own idx yX10_comesTo ∈ TBL) (hR : (rm_X10_comesTo).frames + 1 ≤ R.frames ∧ 8 + (3 + 11) + (rm_X10_comesTo).locals ≤ R.locals) (hcs : cells ≤ R.cells ∧ slots ≤ R.slots) (hls : ls.size = nL) (hcat : (rest.map fun v => v.category).sum ≤ 8) (d : decode cc pc = .ok (.invokevirtual idx, 3)) (kk : ∀ (H1 : Heap) (locs1 : List Loc), AtW E (wM E σf ++ X) A s H1 locs1 → W p l e R s m a below meth c H1 locs1 cells slots Q (F0 m (pc + 3) ls (rest))) : W p l e R s m a below meth c H locs cells slots Q (F0 m pc ls (.int p2 :: .int p1 :: .ref (eA E 0) :: rest)) :=
  r_callv (n := 2) (As := [.int p1, .int p2]) (q0 := 0) (ci := 10) (qq := (RX10, TX10, 64)) (c_X10_comesTo h) wM_fst rfl rfl mk_6_95 mk_P_61 mk_1_11 mk_6_96 (by decide +kernel) rfl ⟨rfl, rfl⟩ cx hV w1 hR hcs hls rfl hcat d kk
def x_X10_sets_L34 (u5 : Int32) (σ6 : St) : Option (Bool × (Int32 × St)) :=
  (if 8 ≤ u5 then
  some (false, (u5, σ6))
  else
  bd (ldI (gA σ6 9) (lenM 9) u5) fun v7 =>
  bd (stI σ6 2 (lenM 2) u5 v7) fun σ8 =>
  some (true, ((u5 + 1), σ8)))
def x_X10_sets_L60 (u11 : Int32) (σ12 : St) : Option (Bool × (Int32 × St)) :=
  (if 72 ≤ u11 then
  some (false, (u11, σ12))
  else
  bd (ldI (gA σ12 10) (lenM 10) u11) fun v13 =>
  bd (stI σ12 3 (lenM 3) u11 v13) fun σ14 =>
  some (true, ((u11 + 1), σ14)))
def x_X10_sets_L86 (u17 : Int32) (σ18 : St) : Option (Bool × (Int32 × St)) :=
  (if 36 ≤ u17 then
  some (false, (u17, σ18))
  else
  bd (ldI (gA σ18 11) (lenM 11) u17) fun v19 =>
  bd (stI σ18 4 (lenM 4) u17 v19) fun σ20 =>
  some (true, ((u17 + 1), σ20)))
def x_X10_sets_L112 (u23 : Int32) (σ24 : St) : Option (Bool × (Int32 × St)) :=
  (if 9 ≤ u23 then
  some (false, (u23, σ24))
  else
  bd (ldI (gA σ24 12) (lenM 12) u23) fun v25 =>
  bd (stI σ24 5 (lenM 5) u23 v25) fun σ26 =>
  some (true, ((u23 + 1), σ26)))
def x_X10_sets_L138 (u29 : Int32) (σ30 : St) : Option (Bool × (Int32 × St)) :=
  (if 4 ≤ u29 then
  some (false, (u29, σ30))
  else
  bd (ldI (gA σ30 13) (lenM 13) u29) fun v31 =>
  bd (stI σ30 6 (lenM 6) u29 v31) fun σ32 =>
  some (true, ((u29 + 1), σ32)))
def x_X10_sets_L163 (u35 : Int32) (σ36 : St) : Option (Bool × (Int32 × St)) :=
  (if 24 ≤ u35 then
  some (false, (u35, σ36))
  else
  bd (ldI (gA σ36 14) (lenM 14) u35) fun v37 =>
  bd (stI σ36 7 (lenM 7) u35 v37) fun σ38 =>
  bd (ldI (gA σ38 15) (lenM 15) u35) fun v39 =>
  bd (stI σ38 8 (lenM 8) u35 v39) fun σ40 =>
  some (true, ((u35 + 1), σ40)))
def x_X10_sets_L216 (u43 : Int32) (u46 : Int32) (σ47 : St) : Option (Bool × (Int32 × St)) :=
  (if (gI σ47 9) ≤ u46 then
  some (false, (u46, σ47))
  else
  bd (ldI (gA σ47 7) (lenM 7) u46) fun v48 =>
  (if v48 = u43 then
  bd (x_X10_comesTo u43 u46 σ47) fun σ49 =>
  some (true, ((u46 + 1), σ49))
  else
  some (true, ((u46 + 1), σ47))))
def x_X10_sets_L201 (u43 : Int32) (σ44 : St) : Option (Bool × (Int32 × St)) :=
  (if 8 ≤ u43 then
  some (false, (u43, σ44))
  else
  bd (stI σ44 16 (lenM 16) u43 0) fun σ45 =>
  bd2 (lp (fun v : (Int32 × St) => x_X10_sets_L216 u43 v.1 v.2) FU (0, σ45)) fun z50 σ51 =>
  bd (stI σ51 18 (lenM 18) u43 u43) fun σ52 =>
  some (true, ((u43 + 1), σ52)))
def x_X10_sets (σ : St) : Option St :=
  bd (some (sI σ 8 (gI σ 12))) fun σ1 =>
  bd (some (sI σ1 9 (gI σ1 13))) fun σ2 =>
  bd (some (sI σ2 10 (gI σ2 14))) fun σ3 =>
  bd (some (sI σ3 11 (gI σ3 15))) fun σ4 =>
  bd2 (lp (fun v : (Int32 × St) => x_X10_sets_L34 v.1 v.2) FU (0, σ4)) fun z9 σ10 =>
  bd2 (lp (fun v : (Int32 × St) => x_X10_sets_L60 v.1 v.2) FU (0, σ10)) fun z15 σ16 =>
  bd2 (lp (fun v : (Int32 × St) => x_X10_sets_L86 v.1 v.2) FU (0, σ16)) fun z21 σ22 =>
  bd2 (lp (fun v : (Int32 × St) => x_X10_sets_L112 v.1 v.2) FU (0, σ22)) fun z27 σ28 =>
  bd2 (lp (fun v : (Int32 × St) => x_X10_sets_L138 v.1 v.2) FU (0, σ28)) fun z33 σ34 =>
  bd2 (lp (fun v : (Int32 × St) => x_X10_sets_L163 v.1 v.2) FU (0, σ34)) fun z41 σ42 =>
  bd2 (lp (fun v : (Int32 × St) => x_X10_sets_L201 v.1 v.2) FU (0, σ42)) fun z53 σ54 =>
  bd (some (sI σ54 23 0)) fun σ55 =>
  some σ55
abbrev rm_X10_sets : Room := { frames := 1, cells := 0, slots := 0, locals := 22 }
set_option maxHeartbeats 4000000 in
set_option maxRecDepth 100000 in
theorem c_X10_sets {l : Launch} {E : EV} {X : va_W} {σ : St} {σf : St} (h : x_X10_sets σ = some σf) : CM l yX10_sets cX10_sets 3 none rm_X10_sets [.ref (eA E 0)] E (wM E σ ++ X) (wM E σf ++ X) qV := by
  refine CM.start (by decide) (Nat.le_of_ble_eq_true rfl) (fun p e s m a below meth c A ls cx hr hlk hV hl => ?_)
  have cx : CallFix p m c cX10_sets 3 s a TBL RX10 := cx
  have hx := cx.1
  have hb := cx.2.1
  have hl : lv_has ls 3 [(0, .ref (eA E 0))] := hl
  generalize hQ : EQ E (wM E σf ++ X) qV A s a below = QQ
  obtain ⟨H, hH⟩ : ∃ H, H = s.heap := ⟨_, rfl⟩
  obtain ⟨locs, hlocs⟩ : ∃ z, z = ([] : List Loc) := ⟨_, rfl⟩
  have hV : AtW E (wM E σ ++ X) A s H locs := by rw [hH, hlocs]; exact hV
  have goal : W p l e rm_X10_sets s m a below meth c H locs 0 0 QQ (F0 m 0 ls []) := by
    unfold x_X10_sets at h
    refine lv_aload_n hx hb dX10_sets_0 rfl (lv_at hl 0 rfl) ?_
    refine lv_aload_n hx hb dX10_sets_1 rfl (lv_at hl 0 rfl) ?_
    refine G_X10_newCrates cx hV mk_6_125 dX10_sets_2 ?_
    refine bd_e h (fun σ1 hq h => ?_)
    refine P_X10_crates cx hV hq mk_6_121 dX10_sets_5 (fun H locs hV => ?_)
    refine lv_aload_n hx hb dX10_sets_8 rfl (lv_at hl 0 rfl) ?_
    refine lv_aload_n hx hb dX10_sets_9 rfl (lv_at hl 0 rfl) ?_
    refine G_X10_newSleeves cx hV mk_6_126 dX10_sets_10 ?_
    refine bd_e h (fun σ2 hq h => ?_)
    refine P_X10_sleeves cx hV hq mk_6_122 dX10_sets_13 (fun H locs hV => ?_)
    refine lv_aload_n hx hb dX10_sets_16 rfl (lv_at hl 0 rfl) ?_
    refine lv_aload_n hx hb dX10_sets_17 rfl (lv_at hl 0 rfl) ?_
    refine G_X10_newLookers cx hV mk_6_127 dX10_sets_18 ?_
    refine bd_e h (fun σ3 hq h => ?_)
    refine P_X10_lookers cx hV hq mk_6_123 dX10_sets_21 (fun H locs hV => ?_)
    refine lv_aload_n hx hb dX10_sets_24 rfl (lv_at hl 0 rfl) ?_
    refine lv_aload_n hx hb dX10_sets_25 rfl (lv_at hl 0 rfl) ?_
    refine G_X10_newStop cx hV mk_6_128 dX10_sets_26 ?_
    refine bd_e h (fun σ4 hq h => ?_)
    refine P_X10_stop cx hV hq mk_6_124 dX10_sets_29 (fun H locs hV => ?_)
    refine lv_iconst (v := 0) hx hb dX10_sets_32 (by decide) ?_
    refine lv_istore_n (lv' := [(1, .int 0), (0, .ref (eA E 0))]) hx hb dX10_sets_33 rfl hl (by decide) rfl (fun ls hl => ?_)
    refine bd2_e h (fun z9 σ10 ho h => ?_)
    refine (lp_rule (G := (fun v : (Int32 × St) => ∀ (H : Heap) (locs : List Loc) (ls : Array Slot), AtW E (wM E v.2 ++ X) A s H locs → lv_has ls 3 [(0, .ref (eA E 0)), (1, .int v.1)] → W p l e rm_X10_sets s m a below meth c H locs 0 0 QQ (F0 m 34 ls []))) (K := (fun v : (Int32 × St) => ∀ (H : Heap) (locs : List Loc) (ls : Array Slot), AtW E (wM E v.2 ++ X) A s H locs → lv_has ls 3 [(0, .ref (eA E 0))] → W p l e rm_X10_sets s m a below meth c H locs 0 0 QQ (F0 m 58 ls []))) (fun v b1 y1 h hT1 hF1 => ?_) ho (fun H locs ls hV hl => ?_)) _ _ _ hV (lv_sub hl [1, 0] rfl)
    · obtain ⟨u5, σ6⟩ := v
      have h : x_X10_sets_L34 u5 σ6 = some (b1, y1) := h
      intro H locs ls hV hl
      have hV : AtW E (wM E σ6 ++ X) A s H locs := hV
      have hl : lv_has ls 3 [(0, .ref (eA E 0)), (1, .int u5)] := hl
      unfold x_X10_sets_L34 at h
      refine lv_iload_n hx hb dX10_sets_34 rfl (lv_at hl 1 rfl) ?_
      refine lv_bipush (v := 8) hx hb dX10_sets_35 (by decide) ?_
      refine lv_icmp_ge (tgt := 58) hx hb dX10_sets_37 (by decide) (fun hc => ?_) (fun hc => ?_)
      · have h := ifp hc h
        cases h
        exact hF1 rfl _ _ _ hV (lv_sub hl [0] rfl)
      · have h := ifn hc h
        refine lv_aload_n hx hb dX10_sets_40 rfl (lv_at hl 0 rfl) ?_
        refine G_X10_letterOf cx hV mk_6_107 dX10_sets_41 ?_
        refine lv_iload_n hx hb dX10_sets_44 rfl (lv_at hl 1 rfl) ?_
        refine lv_aload_n hx hb dX10_sets_45 rfl (lv_at hl 0 rfl) ?_
        refine G_X10_newLetter cx hV mk_6_114 dX10_sets_46 ?_
        refine lv_iload_n hx hb dX10_sets_49 rfl (lv_at hl 1 rfl) ?_
        refine bd_e h (fun v7 hq h => ?_)
        refine R_M_iald cx hV (by decide) hq dX10_sets_50 ?_
        refine bd_e h (fun σ8 hq h => ?_)
        refine R_M_iast cx hV (by decide) hq dX10_sets_51 (fun H locs hV => ?_)
        refine lv_iinc (v := (u5 + 1)) (lv' := [(1, .int (u5 + 1)), (0, .ref (eA E 0))]) hx hb dX10_sets_52 hl (k := 1) rfl rfl (by decide) rfl (fun ls hl => ?_)
        refine lv_goto (tgt := 34) hx hb dX10_sets_55 (by decide) ?_
        cases h
        exact hT1 rfl _ _ _ hV (lv_sub hl [1, 0] rfl)
    · have hV : AtW E (wM E σ10 ++ X) A s H locs := hV
      have hl : lv_has ls 3 [(0, .ref (eA E 0))] := hl
      refine lv_iconst (v := 0) hx hb dX10_sets_58 (by decide) ?_
      refine lv_istore_n (lv' := [(1, .int 0), (0, .ref (eA E 0))]) hx hb dX10_sets_59 rfl hl (by decide) rfl (fun ls hl => ?_)
      refine bd2_e h (fun z15 σ16 ho h => ?_)
      refine (lp_rule (G := (fun v : (Int32 × St) => ∀ (H : Heap) (locs : List Loc) (ls : Array Slot), AtW E (wM E v.2 ++ X) A s H locs → lv_has ls 3 [(0, .ref (eA E 0)), (1, .int v.1)] → W p l e rm_X10_sets s m a below meth c H locs 0 0 QQ (F0 m 60 ls []))) (K := (fun v : (Int32 × St) => ∀ (H : Heap) (locs : List Loc) (ls : Array Slot), AtW E (wM E v.2 ++ X) A s H locs → lv_has ls 3 [(0, .ref (eA E 0))] → W p l e rm_X10_sets s m a below meth c H locs 0 0 QQ (F0 m 84 ls []))) (fun v b1 y1 h hT1 hF1 => ?_) ho (fun H locs ls hV hl => ?_)) _ _ _ hV (lv_sub hl [1, 0] rfl)
      · obtain ⟨u11, σ12⟩ := v
        have h : x_X10_sets_L60 u11 σ12 = some (b1, y1) := h
        intro H locs ls hV hl
        have hV : AtW E (wM E σ12 ++ X) A s H locs := hV
        have hl : lv_has ls 3 [(0, .ref (eA E 0)), (1, .int u11)] := hl
        unfold x_X10_sets_L60 at h
        refine lv_iload_n hx hb dX10_sets_60 rfl (lv_at hl 1 rfl) ?_
        refine lv_bipush (v := 72) hx hb dX10_sets_61 (by decide) ?_
        refine lv_icmp_ge (tgt := 84) hx hb dX10_sets_63 (by decide) (fun hc => ?_) (fun hc => ?_)
        · have h := ifp hc h
          cases h
          exact hF1 rfl _ _ _ hV (lv_sub hl [0] rfl)
        · have h := ifn hc h
          refine lv_aload_n hx hb dX10_sets_66 rfl (lv_at hl 0 rfl) ?_
          refine G_X10_sleeve cx hV mk_6_108 dX10_sets_67 ?_
          refine lv_iload_n hx hb dX10_sets_70 rfl (lv_at hl 1 rfl) ?_
          refine lv_aload_n hx hb dX10_sets_71 rfl (lv_at hl 0 rfl) ?_
          refine G_X10_newSleeve cx hV mk_6_115 dX10_sets_72 ?_
          refine lv_iload_n hx hb dX10_sets_75 rfl (lv_at hl 1 rfl) ?_
          refine bd_e h (fun v13 hq h => ?_)
          refine R_M_iald cx hV (by decide) hq dX10_sets_76 ?_
          refine bd_e h (fun σ14 hq h => ?_)
          refine R_M_iast cx hV (by decide) hq dX10_sets_77 (fun H locs hV => ?_)
          refine lv_iinc (v := (u11 + 1)) (lv' := [(1, .int (u11 + 1)), (0, .ref (eA E 0))]) hx hb dX10_sets_78 hl (k := 1) rfl rfl (by decide) rfl (fun ls hl => ?_)
          refine lv_goto (tgt := 60) hx hb dX10_sets_81 (by decide) ?_
          cases h
          exact hT1 rfl _ _ _ hV (lv_sub hl [1, 0] rfl)
      · have hV : AtW E (wM E σ16 ++ X) A s H locs := hV
        have hl : lv_has ls 3 [(0, .ref (eA E 0))] := hl
        refine lv_iconst (v := 0) hx hb dX10_sets_84 (by decide) ?_
        refine lv_istore_n (lv' := [(1, .int 0), (0, .ref (eA E 0))]) hx hb dX10_sets_85 rfl hl (by decide) rfl (fun ls hl => ?_)
        refine bd2_e h (fun z21 σ22 ho h => ?_)
        refine (lp_rule (G := (fun v : (Int32 × St) => ∀ (H : Heap) (locs : List Loc) (ls : Array Slot), AtW E (wM E v.2 ++ X) A s H locs → lv_has ls 3 [(0, .ref (eA E 0)), (1, .int v.1)] → W p l e rm_X10_sets s m a below meth c H locs 0 0 QQ (F0 m 86 ls []))) (K := (fun v : (Int32 × St) => ∀ (H : Heap) (locs : List Loc) (ls : Array Slot), AtW E (wM E v.2 ++ X) A s H locs → lv_has ls 3 [(0, .ref (eA E 0))] → W p l e rm_X10_sets s m a below meth c H locs 0 0 QQ (F0 m 110 ls []))) (fun v b1 y1 h hT1 hF1 => ?_) ho (fun H locs ls hV hl => ?_)) _ _ _ hV (lv_sub hl [1, 0] rfl)
        · obtain ⟨u17, σ18⟩ := v
          have h : x_X10_sets_L86 u17 σ18 = some (b1, y1) := h
          intro H locs ls hV hl
          have hV : AtW E (wM E σ18 ++ X) A s H locs := hV
          have hl : lv_has ls 3 [(0, .ref (eA E 0)), (1, .int u17)] := hl
          unfold x_X10_sets_L86 at h
          refine lv_iload_n hx hb dX10_sets_86 rfl (lv_at hl 1 rfl) ?_
          refine lv_bipush (v := 36) hx hb dX10_sets_87 (by decide) ?_
          refine lv_icmp_ge (tgt := 110) hx hb dX10_sets_89 (by decide) (fun hc => ?_) (fun hc => ?_)
          · have h := ifp hc h
            cases h
            exact hF1 rfl _ _ _ hV (lv_sub hl [0] rfl)
          · have h := ifn hc h
            refine lv_aload_n hx hb dX10_sets_92 rfl (lv_at hl 0 rfl) ?_
            refine G_X10_looker cx hV mk_6_109 dX10_sets_93 ?_
            refine lv_iload_n hx hb dX10_sets_96 rfl (lv_at hl 1 rfl) ?_
            refine lv_aload_n hx hb dX10_sets_97 rfl (lv_at hl 0 rfl) ?_
            refine G_X10_newLooker cx hV mk_6_116 dX10_sets_98 ?_
            refine lv_iload_n hx hb dX10_sets_101 rfl (lv_at hl 1 rfl) ?_
            refine bd_e h (fun v19 hq h => ?_)
            refine R_M_iald cx hV (by decide) hq dX10_sets_102 ?_
            refine bd_e h (fun σ20 hq h => ?_)
            refine R_M_iast cx hV (by decide) hq dX10_sets_103 (fun H locs hV => ?_)
            refine lv_iinc (v := (u17 + 1)) (lv' := [(1, .int (u17 + 1)), (0, .ref (eA E 0))]) hx hb dX10_sets_104 hl (k := 1) rfl rfl (by decide) rfl (fun ls hl => ?_)
            refine lv_goto (tgt := 86) hx hb dX10_sets_107 (by decide) ?_
            cases h
            exact hT1 rfl _ _ _ hV (lv_sub hl [1, 0] rfl)
        · have hV : AtW E (wM E σ22 ++ X) A s H locs := hV
          have hl : lv_has ls 3 [(0, .ref (eA E 0))] := hl
          refine lv_iconst (v := 0) hx hb dX10_sets_110 (by decide) ?_
          refine lv_istore_n (lv' := [(1, .int 0), (0, .ref (eA E 0))]) hx hb dX10_sets_111 rfl hl (by decide) rfl (fun ls hl => ?_)
          refine bd2_e h (fun z27 σ28 ho h => ?_)
          refine (lp_rule (G := (fun v : (Int32 × St) => ∀ (H : Heap) (locs : List Loc) (ls : Array Slot), AtW E (wM E v.2 ++ X) A s H locs → lv_has ls 3 [(0, .ref (eA E 0)), (1, .int v.1)] → W p l e rm_X10_sets s m a below meth c H locs 0 0 QQ (F0 m 112 ls []))) (K := (fun v : (Int32 × St) => ∀ (H : Heap) (locs : List Loc) (ls : Array Slot), AtW E (wM E v.2 ++ X) A s H locs → lv_has ls 3 [(0, .ref (eA E 0))] → W p l e rm_X10_sets s m a below meth c H locs 0 0 QQ (F0 m 136 ls []))) (fun v b1 y1 h hT1 hF1 => ?_) ho (fun H locs ls hV hl => ?_)) _ _ _ hV (lv_sub hl [1, 0] rfl)
          · obtain ⟨u23, σ24⟩ := v
            have h : x_X10_sets_L112 u23 σ24 = some (b1, y1) := h
            intro H locs ls hV hl
            have hV : AtW E (wM E σ24 ++ X) A s H locs := hV
            have hl : lv_has ls 3 [(0, .ref (eA E 0)), (1, .int u23)] := hl
            unfold x_X10_sets_L112 at h
            refine lv_iload_n hx hb dX10_sets_112 rfl (lv_at hl 1 rfl) ?_
            refine lv_bipush (v := 9) hx hb dX10_sets_113 (by decide) ?_
            refine lv_icmp_ge (tgt := 136) hx hb dX10_sets_115 (by decide) (fun hc => ?_) (fun hc => ?_)
            · have h := ifp hc h
              cases h
              exact hF1 rfl _ _ _ hV (lv_sub hl [0] rfl)
            · have h := ifn hc h
              refine lv_aload_n hx hb dX10_sets_118 rfl (lv_at hl 0 rfl) ?_
              refine G_X10_missed cx hV mk_6_110 dX10_sets_119 ?_
              refine lv_iload_n hx hb dX10_sets_122 rfl (lv_at hl 1 rfl) ?_
              refine lv_aload_n hx hb dX10_sets_123 rfl (lv_at hl 0 rfl) ?_
              refine G_X10_newMissed cx hV mk_6_117 dX10_sets_124 ?_
              refine lv_iload_n hx hb dX10_sets_127 rfl (lv_at hl 1 rfl) ?_
              refine bd_e h (fun v25 hq h => ?_)
              refine R_M_iald cx hV (by decide) hq dX10_sets_128 ?_
              refine bd_e h (fun σ26 hq h => ?_)
              refine R_M_iast cx hV (by decide) hq dX10_sets_129 (fun H locs hV => ?_)
              refine lv_iinc (v := (u23 + 1)) (lv' := [(1, .int (u23 + 1)), (0, .ref (eA E 0))]) hx hb dX10_sets_130 hl (k := 1) rfl rfl (by decide) rfl (fun ls hl => ?_)
              refine lv_goto (tgt := 112) hx hb dX10_sets_133 (by decide) ?_
              cases h
              exact hT1 rfl _ _ _ hV (lv_sub hl [1, 0] rfl)
          · have hV : AtW E (wM E σ28 ++ X) A s H locs := hV
            have hl : lv_has ls 3 [(0, .ref (eA E 0))] := hl
            refine lv_iconst (v := 0) hx hb dX10_sets_136 (by decide) ?_
            refine lv_istore_n (lv' := [(1, .int 0), (0, .ref (eA E 0))]) hx hb dX10_sets_137 rfl hl (by decide) rfl (fun ls hl => ?_)
            refine bd2_e h (fun z33 σ34 ho h => ?_)
            refine (lp_rule (G := (fun v : (Int32 × St) => ∀ (H : Heap) (locs : List Loc) (ls : Array Slot), AtW E (wM E v.2 ++ X) A s H locs → lv_has ls 3 [(0, .ref (eA E 0)), (1, .int v.1)] → W p l e rm_X10_sets s m a below meth c H locs 0 0 QQ (F0 m 138 ls []))) (K := (fun v : (Int32 × St) => ∀ (H : Heap) (locs : List Loc) (ls : Array Slot), AtW E (wM E v.2 ++ X) A s H locs → lv_has ls 3 [(0, .ref (eA E 0))] → W p l e rm_X10_sets s m a below meth c H locs 0 0 QQ (F0 m 161 ls []))) (fun v b1 y1 h hT1 hF1 => ?_) ho (fun H locs ls hV hl => ?_)) _ _ _ hV (lv_sub hl [1, 0] rfl)
            · obtain ⟨u29, σ30⟩ := v
              have h : x_X10_sets_L138 u29 σ30 = some (b1, y1) := h
              intro H locs ls hV hl
              have hV : AtW E (wM E σ30 ++ X) A s H locs := hV
              have hl : lv_has ls 3 [(0, .ref (eA E 0)), (1, .int u29)] := hl
              unfold x_X10_sets_L138 at h
              refine lv_iload_n hx hb dX10_sets_138 rfl (lv_at hl 1 rfl) ?_
              refine lv_iconst (v := 4) hx hb dX10_sets_139 (by decide) ?_
              refine lv_icmp_ge (tgt := 161) hx hb dX10_sets_140 (by decide) (fun hc => ?_) (fun hc => ?_)
              · have h := ifp hc h
                cases h
                exact hF1 rfl _ _ _ hV (lv_sub hl [0] rfl)
              · have h := ifn hc h
                refine lv_aload_n hx hb dX10_sets_143 rfl (lv_at hl 0 rfl) ?_
                refine G_X10_weight cx hV mk_6_111 dX10_sets_144 ?_
                refine lv_iload_n hx hb dX10_sets_147 rfl (lv_at hl 1 rfl) ?_
                refine lv_aload_n hx hb dX10_sets_148 rfl (lv_at hl 0 rfl) ?_
                refine G_X10_newWeight cx hV mk_6_118 dX10_sets_149 ?_
                refine lv_iload_n hx hb dX10_sets_152 rfl (lv_at hl 1 rfl) ?_
                refine bd_e h (fun v31 hq h => ?_)
                refine R_M_iald cx hV (by decide) hq dX10_sets_153 ?_
                refine bd_e h (fun σ32 hq h => ?_)
                refine R_M_iast cx hV (by decide) hq dX10_sets_154 (fun H locs hV => ?_)
                refine lv_iinc (v := (u29 + 1)) (lv' := [(1, .int (u29 + 1)), (0, .ref (eA E 0))]) hx hb dX10_sets_155 hl (k := 1) rfl rfl (by decide) rfl (fun ls hl => ?_)
                refine lv_goto (tgt := 138) hx hb dX10_sets_158 (by decide) ?_
                cases h
                exact hT1 rfl _ _ _ hV (lv_sub hl [1, 0] rfl)
            · have hV : AtW E (wM E σ34 ++ X) A s H locs := hV
              have hl : lv_has ls 3 [(0, .ref (eA E 0))] := hl
              refine lv_iconst (v := 0) hx hb dX10_sets_161 (by decide) ?_
              refine lv_istore_n (lv' := [(1, .int 0), (0, .ref (eA E 0))]) hx hb dX10_sets_162 rfl hl (by decide) rfl (fun ls hl => ?_)
              refine bd2_e h (fun z41 σ42 ho h => ?_)
              refine (lp_rule (G := (fun v : (Int32 × St) => ∀ (H : Heap) (locs : List Loc) (ls : Array Slot), AtW E (wM E v.2 ++ X) A s H locs → lv_has ls 3 [(0, .ref (eA E 0)), (1, .int v.1)] → W p l e rm_X10_sets s m a below meth c H locs 0 0 QQ (F0 m 163 ls []))) (K := (fun v : (Int32 × St) => ∀ (H : Heap) (locs : List Loc) (ls : Array Slot), AtW E (wM E v.2 ++ X) A s H locs → lv_has ls 3 [(0, .ref (eA E 0))] → W p l e rm_X10_sets s m a below meth c H locs 0 0 QQ (F0 m 199 ls []))) (fun v b1 y1 h hT1 hF1 => ?_) ho (fun H locs ls hV hl => ?_)) _ _ _ hV (lv_sub hl [1, 0] rfl)
              · obtain ⟨u35, σ36⟩ := v
                have h : x_X10_sets_L163 u35 σ36 = some (b1, y1) := h
                intro H locs ls hV hl
                have hV : AtW E (wM E σ36 ++ X) A s H locs := hV
                have hl : lv_has ls 3 [(0, .ref (eA E 0)), (1, .int u35)] := hl
                unfold x_X10_sets_L163 at h
                refine lv_iload_n hx hb dX10_sets_163 rfl (lv_at hl 1 rfl) ?_
                refine lv_bipush (v := 24) hx hb dX10_sets_164 (by decide) ?_
                refine lv_icmp_ge (tgt := 199) hx hb dX10_sets_166 (by decide) (fun hc => ?_) (fun hc => ?_)
                · have h := ifp hc h
                  cases h
                  exact hF1 rfl _ _ _ hV (lv_sub hl [0] rfl)
                · have h := ifn hc h
                  refine lv_aload_n hx hb dX10_sets_169 rfl (lv_at hl 0 rfl) ?_
                  refine G_X10_liesAt cx hV mk_6_112 dX10_sets_170 ?_
                  refine lv_iload_n hx hb dX10_sets_173 rfl (lv_at hl 1 rfl) ?_
                  refine lv_aload_n hx hb dX10_sets_174 rfl (lv_at hl 0 rfl) ?_
                  refine G_X10_newLies cx hV mk_6_119 dX10_sets_175 ?_
                  refine lv_iload_n hx hb dX10_sets_178 rfl (lv_at hl 1 rfl) ?_
                  refine bd_e h (fun v37 hq h => ?_)
                  refine R_M_iald cx hV (by decide) hq dX10_sets_179 ?_
                  refine bd_e h (fun σ38 hq h => ?_)
                  refine R_M_iast cx hV (by decide) hq dX10_sets_180 (fun H locs hV => ?_)
                  refine lv_aload_n hx hb dX10_sets_181 rfl (lv_at hl 0 rfl) ?_
                  refine G_X10_discAt cx hV mk_6_113 dX10_sets_182 ?_
                  refine lv_iload_n hx hb dX10_sets_185 rfl (lv_at hl 1 rfl) ?_
                  refine lv_aload_n hx hb dX10_sets_186 rfl (lv_at hl 0 rfl) ?_
                  refine G_X10_newDisc cx hV mk_6_120 dX10_sets_187 ?_
                  refine lv_iload_n hx hb dX10_sets_190 rfl (lv_at hl 1 rfl) ?_
                  refine bd_e h (fun v39 hq h => ?_)
                  refine R_M_iald cx hV (by decide) hq dX10_sets_191 ?_
                  refine bd_e h (fun σ40 hq h => ?_)
                  refine R_M_iast cx hV (by decide) hq dX10_sets_192 (fun H locs hV => ?_)
                  refine lv_iinc (v := (u35 + 1)) (lv' := [(1, .int (u35 + 1)), (0, .ref (eA E 0))]) hx hb dX10_sets_193 hl (k := 1) rfl rfl (by decide) rfl (fun ls hl => ?_)
                  refine lv_goto (tgt := 163) hx hb dX10_sets_196 (by decide) ?_
                  cases h
                  exact hT1 rfl _ _ _ hV (lv_sub hl [1, 0] rfl)
              · have hV : AtW E (wM E σ42 ++ X) A s H locs := hV
                have hl : lv_has ls 3 [(0, .ref (eA E 0))] := hl
                refine lv_iconst (v := 0) hx hb dX10_sets_199 (by decide) ?_
                refine lv_istore_n (lv' := [(1, .int 0), (0, .ref (eA E 0))]) hx hb dX10_sets_200 rfl hl (by decide) rfl (fun ls hl => ?_)
                refine bd2_e h (fun z53 σ54 ho h => ?_)
                refine (lp_rule (G := (fun v : (Int32 × St) => ∀ (H : Heap) (locs : List Loc) (ls : Array Slot), AtW E (wM E v.2 ++ X) A s H locs → lv_has ls 3 [(0, .ref (eA E 0)), (1, .int v.1)] → W p l e rm_X10_sets s m a below meth c H locs 0 0 QQ (F0 m 201 ls []))) (K := (fun v : (Int32 × St) => ∀ (H : Heap) (locs : List Loc) (ls : Array Slot), AtW E (wM E v.2 ++ X) A s H locs → lv_has ls 3 [(0, .ref (eA E 0))] → W p l e rm_X10_sets s m a below meth c H locs 0 0 QQ (F0 m 259 ls []))) (fun v b1 y1 h hT1 hF1 => ?_) ho (fun H locs ls hV hl => ?_)) _ _ _ hV (lv_sub hl [1, 0] rfl)
                · obtain ⟨u43, σ44⟩ := v
                  have h : x_X10_sets_L201 u43 σ44 = some (b1, y1) := h
                  intro H locs ls hV hl
                  have hV : AtW E (wM E σ44 ++ X) A s H locs := hV
                  have hl : lv_has ls 3 [(0, .ref (eA E 0)), (1, .int u43)] := hl
                  unfold x_X10_sets_L201 at h
                  refine lv_iload_n hx hb dX10_sets_201 rfl (lv_at hl 1 rfl) ?_
                  refine lv_bipush (v := 8) hx hb dX10_sets_202 (by decide) ?_
                  refine lv_icmp_ge (tgt := 259) hx hb dX10_sets_204 (by decide) (fun hc => ?_) (fun hc => ?_)
                  · have h := ifp hc h
                    cases h
                    exact hF1 rfl _ _ _ hV (lv_sub hl [0] rfl)
                  · have h := ifn hc h
                    refine lv_aload_n hx hb dX10_sets_207 rfl (lv_at hl 0 rfl) ?_
                    refine G_X10_many cx hV mk_6_129 dX10_sets_208 ?_
                    refine lv_iload_n hx hb dX10_sets_211 rfl (lv_at hl 1 rfl) ?_
                    refine lv_iconst (v := 0) hx hb dX10_sets_212 (by decide) ?_
                    refine bd_e h (fun σ45 hq h => ?_)
                    refine R_M_iast cx hV (by decide) hq dX10_sets_213 (fun H locs hV => ?_)
                    refine lv_iconst (v := 0) hx hb dX10_sets_214 (by decide) ?_
                    refine lv_istore_n (lv' := [(2, .int 0), (0, .ref (eA E 0)), (1, .int u43)]) hx hb dX10_sets_215 rfl hl (by decide) rfl (fun ls hl => ?_)
                    refine bd2_e h (fun z50 σ51 ho h => ?_)
                    refine (lp_rule (G := (fun v : (Int32 × St) => ∀ (H : Heap) (locs : List Loc) (ls : Array Slot), AtW E (wM E v.2 ++ X) A s H locs → lv_has ls 3 [(0, .ref (eA E 0)), (1, .int u43), (2, .int v.1)] → W p l e rm_X10_sets s m a below meth c H locs 0 0 QQ (F0 m 216 ls []))) (K := (fun v : (Int32 × St) => ∀ (H : Heap) (locs : List Loc) (ls : Array Slot), AtW E (wM E v.2 ++ X) A s H locs → lv_has ls 3 [(0, .ref (eA E 0)), (1, .int u43)] → W p l e rm_X10_sets s m a below meth c H locs 0 0 QQ (F0 m 246 ls []))) (fun v b2 y2 h hT2 hF2 => ?_) ho (fun H locs ls hV hl => ?_)) _ _ _ hV (lv_sub hl [1, 2, 0] rfl)
                    · obtain ⟨u46, σ47⟩ := v
                      have h : x_X10_sets_L216 u43 u46 σ47 = some (b2, y2) := h
                      intro H locs ls hV hl
                      have hV : AtW E (wM E σ47 ++ X) A s H locs := hV
                      have hl : lv_has ls 3 [(0, .ref (eA E 0)), (1, .int u43), (2, .int u46)] := hl
                      unfold x_X10_sets_L216 at h
                      refine lv_iload_n hx hb dX10_sets_216 rfl (lv_at hl 2 rfl) ?_
                      refine lv_aload_n hx hb dX10_sets_217 rfl (lv_at hl 0 rfl) ?_
                      refine G_X10_sleeves cx hV mk_6_122 dX10_sets_218 ?_
                      refine lv_icmp_ge (tgt := 246) hx hb dX10_sets_221 (by decide) (fun hc => ?_) (fun hc => ?_)
                      · have h := ifp hc h
                        cases h
                        exact hF2 rfl _ _ _ hV (lv_sub hl [0, 1] rfl)
                      · have h := ifn hc h
                        refine lv_aload_n hx hb dX10_sets_224 rfl (lv_at hl 0 rfl) ?_
                        refine G_X10_liesAt cx hV mk_6_112 dX10_sets_225 ?_
                        refine lv_iload_n hx hb dX10_sets_228 rfl (lv_at hl 2 rfl) ?_
                        refine bd_e h (fun v48 hq h => ?_)
                        refine R_M_iald cx hV (by decide) hq dX10_sets_229 ?_
                        refine lv_iload_n hx hb dX10_sets_230 rfl (lv_at hl 1 rfl) ?_
                        refine lv_icmp_ne (tgt := 240) hx hb dX10_sets_231 (by decide) (fun hc => ?_) (fun hc => ?_)
                        · have h := ifn hc h
                          refine lv_iinc (v := (u46 + 1)) (lv' := [(2, .int (u46 + 1)), (0, .ref (eA E 0)), (1, .int u43)]) hx hb dX10_sets_240 hl (k := 2) rfl rfl (by decide) rfl (fun ls hl => ?_)
                          refine lv_goto (tgt := 216) hx hb dX10_sets_243 (by decide) ?_
                          cases h
                          exact hT2 rfl _ _ _ hV (lv_sub hl [1, 2, 0] rfl)
                        · have h := ifp hc h
                          refine lv_aload_n hx hb dX10_sets_234 rfl (lv_at hl 0 rfl) ?_
                          refine lv_iload_n hx hb dX10_sets_235 rfl (lv_at hl 1 rfl) ?_
                          refine lv_iload_n hx hb dX10_sets_236 rfl (lv_at hl 2 rfl) ?_
                          refine bd_e h (fun σ49 hq h => ?_)
                          refine k_X10_comesTo hq cx hV mk_6_93 ⟨Nat.le_of_ble_eq_true rfl, Nat.le_of_ble_eq_true rfl⟩ ⟨Nat.zero_le _, Nat.zero_le _⟩ hl.1 (Nat.le_of_ble_eq_true rfl) dX10_sets_237 (fun H locs hV => ?_)
                          refine lv_iinc (v := (u46 + 1)) (lv' := [(2, .int (u46 + 1)), (0, .ref (eA E 0)), (1, .int u43)]) hx hb dX10_sets_240 hl (k := 2) rfl rfl (by decide) rfl (fun ls hl => ?_)
                          refine lv_goto (tgt := 216) hx hb dX10_sets_243 (by decide) ?_
                          cases h
                          exact hT2 rfl _ _ _ hV (lv_sub hl [1, 2, 0] rfl)
                    · have hV : AtW E (wM E σ51 ++ X) A s H locs := hV
                      have hl : lv_has ls 3 [(0, .ref (eA E 0)), (1, .int u43)] := hl
                      refine lv_aload_n hx hb dX10_sets_246 rfl (lv_at hl 0 rfl) ?_
                      refine G_X10_standing cx hV mk_6_131 dX10_sets_247 ?_
                      refine lv_iload_n hx hb dX10_sets_250 rfl (lv_at hl 1 rfl) ?_
                      refine lv_iload_n hx hb dX10_sets_251 rfl (lv_at hl 1 rfl) ?_
                      refine bd_e h (fun σ52 hq h => ?_)
                      refine R_M_iast cx hV (by decide) hq dX10_sets_252 (fun H locs hV => ?_)
                      refine lv_iinc (v := (u43 + 1)) (lv' := [(1, .int (u43 + 1)), (0, .ref (eA E 0))]) hx hb dX10_sets_253 hl (k := 1) rfl rfl (by decide) rfl (fun ls hl => ?_)
                      refine lv_goto (tgt := 201) hx hb dX10_sets_256 (by decide) ?_
                      cases h
                      exact hT1 rfl _ _ _ hV (lv_sub hl [1, 0] rfl)
                · have hV : AtW E (wM E σ54 ++ X) A s H locs := hV
                  have hl : lv_has ls 3 [(0, .ref (eA E 0))] := hl
                  refine lv_aload_n hx hb dX10_sets_259 rfl (lv_at hl 0 rfl) ?_
                  refine lv_iconst (v := 0) hx hb dX10_sets_260 (by decide) ?_
                  refine bd_e h (fun σ55 hq h => ?_)
                  refine P_X10_images cx hV hq mk_6_160 dX10_sets_261 (fun H locs hV => ?_)
                  have h1 := Option.some.inj h
                  subst h1
                  subst hQ
                  exact r_vret cx hr hlk hV dX10_sets_264
  rw [hH, hlocs] at goal
  exact goal
theorem k_X10_sets {p : Program} {l : Launch} {e : Env} {R : Room} {s : State} {m : MethodId} {a : Array Value} {below : List Frame} {meth : Method} {c : Code} {H : Heap} {locs : List Loc} {cells slots : Nat} {Q : State → Prop} {cc : ByteArray} {own : String} {nL pc : Nat} {ls : Array Slot} {rest : List Value} {A : Nat → Prop} {E : EV} {X : va_W} {σ : St} {σf : St} (h : x_X10_sets σ = some σf) (cx : CallFix p m c cc nL s a TBL own) (hV : AtW E (wM E σ ++ X) A s H locs) {idx : Nat} (w1 : Cond.methodLink own idx yX10_sets ∈ TBL) (hR : (rm_X10_sets).frames + 1 ≤ R.frames ∧ 8 + (3 + 11) + (rm_X10_sets).locals ≤ R.locals) (hcs : cells ≤ R.cells ∧ slots ≤ R.slots) (hls : ls.size = nL) (hcat : (rest.map fun v => v.category).sum ≤ 8) (d : decode cc pc = .ok (.invokevirtual idx, 3)) (kk : ∀ (H1 : Heap) (locs1 : List Loc), AtW E (wM E σf ++ X) A s H1 locs1 → W p l e R s m a below meth c H1 locs1 cells slots Q (F0 m (pc + 3) ls (rest))) : W p l e R s m a below meth c H locs cells slots Q (F0 m pc ls (.ref (eA E 0) :: rest)) :=
  r_callv (n := 0) (As := []) (q0 := 0) (ci := 10) (qq := (RX10, TX10, 64)) (c_X10_sets h) wM_fst rfl rfl mk_6_91 mk_P_60 mk_1_11 mk_6_92 (by decide +kernel) rfl ⟨rfl, rfl⟩ cx hV w1 hR hcs hls rfl hcat d kk
def x_X10_feed_b23_76 (p1 : Int32) (p2 : Int32) (p3 : Int32) (p4 : Int32) (p5 : Int32) (w4 : Int32) (w5 : Int32) (σ6 : St) : Option (Bool × (Int32 × St)) :=
  bd (rmI w4 4) fun v7 =>
  bd (stI σ6 1 (lenM 1) (gI σ6 1) ((w5 >>> ((24 - (8 * v7)) &&& 31)) &&& 255)) fun σ8 =>
  bd (some (sI σ8 1 ((gI σ8 1) + 1))) fun σ9 =>
  some (true, ((w4 + 1), σ9))
def x_X10_feed_L23 (p1 : Int32) (p2 : Int32) (p3 : Int32) (p4 : Int32) (p5 : Int32) (u2 : Int32) (σ3 : St) : Option (Bool × (Int32 × St)) :=
  (if 20 ≤ u2 then
  some (false, (u2, σ3))
  else
  (if 4 ≤ u2 then
  (if 8 ≤ u2 then
  (if 12 ≤ u2 then
  (if 16 ≤ u2 then
  x_X10_feed_b23_76 p1 p2 p3 p4 p5 u2 p5 σ3
  else
  x_X10_feed_b23_76 p1 p2 p3 p4 p5 u2 p4 σ3)
  else
  x_X10_feed_b23_76 p1 p2 p3 p4 p5 u2 p3 σ3)
  else
  x_X10_feed_b23_76 p1 p2 p3 p4 p5 u2 p2 σ3)
  else
  x_X10_feed_b23_76 p1 p2 p3 p4 p5 u2 p1 σ3))
def x_X10_feed (p1 : Int32) (p2 : Int32) (p3 : Int32) (p4 : Int32) (p5 : Int32) (σ : St) : Option (Int32 × St) :=
  bd (some (sI σ 0 0)) fun σ1 =>
  (if ((gI σ1 1) + 20) ≤ 600 then
  bd2 (lp (fun v : (Int32 × St) => x_X10_feed_L23 p1 p2 p3 p4 p5 v.1 v.2) FU (0, σ1)) fun z10 σ11 =>
  some ((gI σ11 1), σ11)
  else
  some ((-1), σ1))
abbrev rm_X10_feed : Room := { frames := 0, cells := 0, slots := 0, locals := 0 }
set_option maxHeartbeats 4000000 in
set_option maxRecDepth 100000 in
theorem c_X10_feed {l : Launch} {E : EV} {X : va_W} {σ : St} {p1 : Int32} {p2 : Int32} {p3 : Int32} {p4 : Int32} {p5 : Int32} {rv : Int32} {σf : St} (h : x_X10_feed p1 p2 p3 p4 p5 σ = some (rv, σf)) : CM l yX10_feed cX10_feed 8 (some .int) rm_X10_feed [.ref (eA E 0), .int p1, .int p2, .int p3, .int p4, .int p5] E (wM E σ ++ X) (wM E σf ++ X) (qI rv) := by
  refine CM.start (by decide) (Nat.le_of_ble_eq_true rfl) (fun p e s m a below meth c A ls cx hr hlk hV hl => ?_)
  have cx : CallFix p m c cX10_feed 8 s a TBL RX10 := cx
  have hx := cx.1
  have hb := cx.2.1
  have hl : lv_has ls 8 [(0, .ref (eA E 0)), (1, .int p1), (2, .int p2), (3, .int p3), (4, .int p4), (5, .int p5)] := hl
  generalize hQ : EQ E (wM E σf ++ X) (qI rv) A s a below = QQ
  obtain ⟨H, hH⟩ : ∃ H, H = s.heap := ⟨_, rfl⟩
  obtain ⟨locs, hlocs⟩ : ∃ z, z = ([] : List Loc) := ⟨_, rfl⟩
  have hV : AtW E (wM E σ ++ X) A s H locs := by rw [hH, hlocs]; exact hV
  have goal : W p l e rm_X10_feed s m a below meth c H locs 0 0 QQ (F0 m 0 ls []) := by
    unfold x_X10_feed at h
    refine lv_aload_n hx hb dX10_feed_0 rfl (lv_at hl 0 rfl) ?_
    refine lv_iconst (v := 0) hx hb dX10_feed_1 (by decide) ?_
    refine bd_e h (fun σ1 hq h => ?_)
    refine P_X10_thrown cx hV hq mk_6_97 dX10_feed_2 (fun H locs hV => ?_)
    refine lv_aload_n hx hb dX10_feed_5 rfl (lv_at hl 0 rfl) ?_
    refine G_X10_taped cx hV mk_6_99 dX10_feed_6 ?_
    refine lv_bipush (v := 20) hx hb dX10_feed_9 (by decide) ?_
    refine lv_iadd hx hb dX10_feed_11 ?_
    refine lv_sipush (v := 600) hx hb dX10_feed_12 (by decide) ?_
    refine lv_icmp_le (tgt := 20) hx hb dX10_feed_15 (by decide) (fun hc => ?_) (fun hc => ?_)
    · have h := ifp hc h
      refine lv_iconst (v := 0) hx hb dX10_feed_20 (by decide) ?_
      refine lv_istore (lv' := [(6, .int 0), (0, .ref (eA E 0)), (1, .int p1), (2, .int p2), (3, .int p3), (4, .int p4), (5, .int p5)]) hx hb dX10_feed_21 hl (by decide) rfl (fun ls hl => ?_)
      refine bd2_e h (fun z10 σ11 ho h => ?_)
      refine (lp_rule (G := (fun v : (Int32 × St) => ∀ (H : Heap) (locs : List Loc) (ls : Array Slot), AtW E (wM E v.2 ++ X) A s H locs → lv_has ls 8 [(0, .ref (eA E 0)), (1, .int p1), (2, .int p2), (3, .int p3), (4, .int p4), (5, .int p5), (6, .int v.1)] → W p l e rm_X10_feed s m a below meth c H locs 0 0 QQ (F0 m 23 ls []))) (K := (fun v : (Int32 × St) => ∀ (H : Heap) (locs : List Loc) (ls : Array Slot), AtW E (wM E v.2 ++ X) A s H locs → lv_has ls 8 [(0, .ref (eA E 0))] → W p l e rm_X10_feed s m a below meth c H locs 0 0 QQ (F0 m 120 ls []))) (fun v b1 y1 h hT1 hF1 => ?_) ho (fun H locs ls hV hl => ?_)) _ _ _ hV (lv_sub hl [1, 2, 3, 4, 5, 6, 0] rfl)
      · have hj23_76 : ∀ (w4 : Int32) (w5 : Int32) (σ6 : St) (H : Heap) (locs : List Loc) (ls : Array Slot), x_X10_feed_b23_76 p1 p2 p3 p4 p5 w4 w5 σ6 = some (b1, y1) → AtW E (wM E σ6 ++ X) A s H locs → lv_has ls 8 [(0, .ref (eA E 0)), (1, .int p1), (2, .int p2), (3, .int p3), (4, .int p4), (5, .int p5), (6, .int w4)] → W p l e rm_X10_feed s m a below meth c H locs 0 0 QQ (F0 m 76 ls [.int w5]) := by
          intro w4 w5 σ6 H locs ls h hV hl
          unfold x_X10_feed_b23_76 at h
          refine lv_istore (lv' := [(7, .int w5), (0, .ref (eA E 0)), (1, .int p1), (2, .int p2), (3, .int p3), (4, .int p4), (5, .int p5), (6, .int w4)]) hx hb dX10_feed_76 hl (by decide) rfl (fun ls hl => ?_)
          refine lv_aload_n hx hb dX10_feed_78 rfl (lv_at hl 1 rfl) ?_
          refine G_X10_tape cx hV mk_6_106 dX10_feed_79 ?_
          refine lv_aload_n hx hb dX10_feed_82 rfl (lv_at hl 1 rfl) ?_
          refine G_X10_taped cx hV mk_6_99 dX10_feed_83 ?_
          refine lv_iload hx hb dX10_feed_86 (lv_at hl 0 rfl) ?_
          refine lv_bipush (v := 24) hx hb dX10_feed_88 (by decide) ?_
          refine lv_bipush (v := 8) hx hb dX10_feed_90 (by decide) ?_
          refine lv_iload hx hb dX10_feed_92 (lv_at hl 7 rfl) ?_
          refine lv_iconst (v := 4) hx hb dX10_feed_94 (by decide) ?_
          refine bd_e h (fun v7 hq h => ?_)
          obtain ⟨hne, hq⟩ := rmI_e hq
          refine lv_irem hx hb dX10_feed_95 hne ?_
          rw [hq]
          refine lv_imul hx hb dX10_feed_96 ?_
          refine lv_isub hx hb dX10_feed_97 ?_
          refine lv_ishr hx hb dX10_feed_98 ?_
          refine lv_sipush (v := 255) hx hb dX10_feed_99 (by decide) ?_
          refine lv_iand hx hb dX10_feed_102 ?_
          refine bd_e h (fun σ8 hq h => ?_)
          refine R_M_iast cx hV (by decide) hq dX10_feed_103 (fun H locs hV => ?_)
          refine lv_aload_n hx hb dX10_feed_104 rfl (lv_at hl 1 rfl) ?_
          refine lv_dup hx hb dX10_feed_105 rfl ?_
          refine G_X10_taped cx hV mk_6_99 dX10_feed_106 ?_
          refine lv_iconst (v := 1) hx hb dX10_feed_109 (by decide) ?_
          refine lv_iadd hx hb dX10_feed_110 ?_
          refine bd_e h (fun σ9 hq h => ?_)
          refine P_X10_taped cx hV hq mk_6_99 dX10_feed_111 (fun H locs hV => ?_)
          refine lv_iinc (v := (w4 + 1)) (lv' := [(6, .int (w4 + 1)), (7, .int w5), (0, .ref (eA E 0)), (1, .int p1), (2, .int p2), (3, .int p3), (4, .int p4), (5, .int p5)]) hx hb dX10_feed_114 hl (k := 7) rfl rfl (by decide) rfl (fun ls hl => ?_)
          refine lv_goto (tgt := 23) hx hb dX10_feed_117 (by decide) ?_
          cases h
          exact hT1 rfl _ _ _ hV (lv_sub hl [2, 3, 4, 5, 6, 7, 0] rfl)
        obtain ⟨u2, σ3⟩ := v
        have h : x_X10_feed_L23 p1 p2 p3 p4 p5 u2 σ3 = some (b1, y1) := h
        intro H locs ls hV hl
        have hV : AtW E (wM E σ3 ++ X) A s H locs := hV
        have hl : lv_has ls 8 [(0, .ref (eA E 0)), (1, .int p1), (2, .int p2), (3, .int p3), (4, .int p4), (5, .int p5), (6, .int u2)] := hl
        unfold x_X10_feed_L23 at h
        refine lv_iload hx hb dX10_feed_23 (lv_at hl 6 rfl) ?_
        refine lv_bipush (v := 20) hx hb dX10_feed_25 (by decide) ?_
        refine lv_icmp_ge (tgt := 120) hx hb dX10_feed_27 (by decide) (fun hc => ?_) (fun hc => ?_)
        · have h := ifp hc h
          cases h
          exact hF1 rfl _ _ _ hV (lv_sub hl [0] rfl)
        · have h := ifn hc h
          refine lv_iload hx hb dX10_feed_30 (lv_at hl 6 rfl) ?_
          refine lv_iconst (v := 4) hx hb dX10_feed_32 (by decide) ?_
          refine lv_icmp_ge (tgt := 40) hx hb dX10_feed_33 (by decide) (fun hc => ?_) (fun hc => ?_)
          · have h := ifp hc h
            refine lv_iload hx hb dX10_feed_40 (lv_at hl 6 rfl) ?_
            refine lv_bipush (v := 8) hx hb dX10_feed_42 (by decide) ?_
            refine lv_icmp_ge (tgt := 51) hx hb dX10_feed_44 (by decide) (fun hc => ?_) (fun hc => ?_)
            · have h := ifp hc h
              refine lv_iload hx hb dX10_feed_51 (lv_at hl 6 rfl) ?_
              refine lv_bipush (v := 12) hx hb dX10_feed_53 (by decide) ?_
              refine lv_icmp_ge (tgt := 62) hx hb dX10_feed_55 (by decide) (fun hc => ?_) (fun hc => ?_)
              · have h := ifp hc h
                refine lv_iload hx hb dX10_feed_62 (lv_at hl 6 rfl) ?_
                refine lv_bipush (v := 16) hx hb dX10_feed_64 (by decide) ?_
                refine lv_icmp_ge (tgt := 74) hx hb dX10_feed_66 (by decide) (fun hc => ?_) (fun hc => ?_)
                · have h := ifp hc h
                  refine lv_iload hx hb dX10_feed_74 (lv_at hl 5 rfl) ?_
                  exact hj23_76 u2 p5 σ3 _ _ _ h hV (lv_sub hl [0, 1, 2, 3, 4, 5, 6] rfl)
                · have h := ifn hc h
                  refine lv_iload hx hb dX10_feed_69 (lv_at hl 4 rfl) ?_
                  refine lv_goto (tgt := 76) hx hb dX10_feed_71 (by decide) ?_
                  exact hj23_76 u2 p4 σ3 _ _ _ h hV (lv_sub hl [0, 1, 2, 3, 4, 5, 6] rfl)
              · have h := ifn hc h
                refine lv_iload_n hx hb dX10_feed_58 rfl (lv_at hl 3 rfl) ?_
                refine lv_goto (tgt := 76) hx hb dX10_feed_59 (by decide) ?_
                exact hj23_76 u2 p3 σ3 _ _ _ h hV (lv_sub hl [0, 1, 2, 3, 4, 5, 6] rfl)
            · have h := ifn hc h
              refine lv_iload_n hx hb dX10_feed_47 rfl (lv_at hl 2 rfl) ?_
              refine lv_goto (tgt := 76) hx hb dX10_feed_48 (by decide) ?_
              exact hj23_76 u2 p2 σ3 _ _ _ h hV (lv_sub hl [0, 1, 2, 3, 4, 5, 6] rfl)
          · have h := ifn hc h
            refine lv_iload_n hx hb dX10_feed_36 rfl (lv_at hl 1 rfl) ?_
            refine lv_goto (tgt := 76) hx hb dX10_feed_37 (by decide) ?_
            exact hj23_76 u2 p1 σ3 _ _ _ h hV (lv_sub hl [0, 1, 2, 3, 4, 5, 6] rfl)
      · have hV : AtW E (wM E σ11 ++ X) A s H locs := hV
        have hl : lv_has ls 8 [(0, .ref (eA E 0))] := hl
        refine lv_aload_n hx hb dX10_feed_120 rfl (lv_at hl 0 rfl) ?_
        refine G_X10_taped cx hV mk_6_99 dX10_feed_121 ?_
        obtain ⟨h1, h2⟩ := Prod.mk.inj (Option.some.inj h)
        subst h1
        subst h2
        subst hQ
        exact r_ireti cx hr hlk hV dX10_feed_124
    · have h := ifn hc h
      refine lv_iconst (v := (-1)) hx hb dX10_feed_18 (by decide) ?_
      obtain ⟨h1, h2⟩ := Prod.mk.inj (Option.some.inj h)
      subst h1
      subst h2
      subst hQ
      exact r_ireti cx hr hlk hV dX10_feed_19
  rw [hH, hlocs] at goal
  exact goal
theorem k_X10_feed {p : Program} {l : Launch} {e : Env} {R : Room} {s : State} {m : MethodId} {a : Array Value} {below : List Frame} {meth : Method} {c : Code} {H : Heap} {locs : List Loc} {cells slots : Nat} {Q : State → Prop} {cc : ByteArray} {own : String} {nL pc : Nat} {ls : Array Slot} {rest : List Value} {A : Nat → Prop} {E : EV} {X : va_W} {σ : St} {p1 : Int32} {p2 : Int32} {p3 : Int32} {p4 : Int32} {p5 : Int32} {rv : Int32} {σf : St} (h : x_X10_feed p1 p2 p3 p4 p5 σ = some (rv, σf)) (cx : CallFix p m c cc nL s a TBL own) (hV : AtW E (wM E σ ++ X) A s H locs) {idx : Nat} (w1 : Cond.methodLink own idx yX10_feed ∈ TBL) (hR : (rm_X10_feed).frames + 1 ≤ R.frames ∧ 8 + (8 + 11) + (rm_X10_feed).locals ≤ R.locals) (hcs : cells ≤ R.cells ∧ slots ≤ R.slots) (hls : ls.size = nL) (hcat : (rest.map fun v => v.category).sum ≤ 8) (d : decode cc pc = .ok (.invokevirtual idx, 3)) (kk : ∀ (H1 : Heap) (locs1 : List Loc), AtW E (wM E σf ++ X) A s H1 locs1 → W p l e R s m a below meth c H1 locs1 cells slots Q (F0 m (pc + 3) ls (.int rv :: rest))) : W p l e R s m a below meth c H locs cells slots Q (F0 m pc ls (.int p5 :: .int p4 :: .int p3 :: .int p2 :: .int p1 :: .ref (eA E 0) :: rest)) :=
  r_calli (n := 5) (As := [.int p1, .int p2, .int p3, .int p4, .int p5]) (q0 := 0) (ci := 10) (qq := (RX10, TX10, 64)) (c_X10_feed h) wM_fst rfl rfl mk_7_51 mk_7_52 mk_1_11 mk_7_53 (by decide +kernel) rfl ⟨rfl, rfl⟩ cx hV w1 hR hcs hls rfl hcat d kk
def x_X10_fine (σ : St) : Option Int32 :=
  (if (gI σ 4) = (-1) then
  some 1
  else
  some 0)
abbrev rm_X10_fine : Room := { frames := 0, cells := 0, slots := 0, locals := 0 }
set_option maxHeartbeats 4000000 in
set_option maxRecDepth 100000 in
theorem c_X10_fine {l : Launch} {E : EV} {X : va_W} {σ : St} {rv : Int32} (h : x_X10_fine σ = some rv) : CM l yX10_fine cX10_fine 1 (some .boolean) rm_X10_fine [.ref (eA E 0)] E (wM E σ ++ X) (wM E σ ++ X) (qI rv) := by
  refine CM.start (by decide) (Nat.le_of_ble_eq_true rfl) (fun p e s m a below meth c A ls cx hr hlk hV hl => ?_)
  have cx : CallFix p m c cX10_fine 1 s a TBL RX10 := cx
  have hx := cx.1
  have hb := cx.2.1
  have hl : lv_has ls 1 [(0, .ref (eA E 0))] := hl
  generalize hQ : EQ E (wM E σ ++ X) (qI rv) A s a below = QQ
  obtain ⟨H, hH⟩ : ∃ H, H = s.heap := ⟨_, rfl⟩
  obtain ⟨locs, hlocs⟩ : ∃ z, z = ([] : List Loc) := ⟨_, rfl⟩
  have hV : AtW E (wM E σ ++ X) A s H locs := by rw [hH, hlocs]; exact hV
  have goal : W p l e rm_X10_fine s m a below meth c H locs 0 0 QQ (F0 m 0 ls []) := by
    unfold x_X10_fine at h
    refine lv_aload_n hx hb dX10_fine_0 rfl (lv_at hl 0 rfl) ?_
    refine G_X10_bad cx hV mk_6_102 dX10_fine_1 ?_
    refine lv_iconst (v := (-1)) hx hb dX10_fine_4 (by decide) ?_
    refine lv_icmp_ne (tgt := 12) hx hb dX10_fine_5 (by decide) (fun hc => ?_) (fun hc => ?_)
    · have h := ifn hc h
      refine lv_iconst (v := 0) hx hb dX10_fine_12 (by decide) ?_
      have h1 := Option.some.inj h
      subst h1
      subst hQ
      exact r_zreti cx hr hlk hV (Or.inl rfl) dX10_fine_13
    · have h := ifp hc h
      refine lv_iconst (v := 1) hx hb dX10_fine_8 (by decide) ?_
      refine lv_goto (tgt := 13) hx hb dX10_fine_9 (by decide) ?_
      have h1 := Option.some.inj h
      subst h1
      subst hQ
      exact r_zreti cx hr hlk hV (Or.inr rfl) dX10_fine_13
  rw [hH, hlocs] at goal
  exact goal
theorem k_X10_fine {p : Program} {l : Launch} {e : Env} {R : Room} {s : State} {m : MethodId} {a : Array Value} {below : List Frame} {meth : Method} {c : Code} {H : Heap} {locs : List Loc} {cells slots : Nat} {Q : State → Prop} {cc : ByteArray} {own : String} {nL pc : Nat} {ls : Array Slot} {rest : List Value} {A : Nat → Prop} {E : EV} {X : va_W} {σ : St} {rv : Int32} (h : x_X10_fine σ = some rv) (cx : CallFix p m c cc nL s a TBL own) (hV : AtW E (wM E σ ++ X) A s H locs) {idx : Nat} (w1 : Cond.methodLink own idx yX10_fine ∈ TBL) (hR : (rm_X10_fine).frames + 1 ≤ R.frames ∧ 8 + (1 + 11) + (rm_X10_fine).locals ≤ R.locals) (hcs : cells ≤ R.cells ∧ slots ≤ R.slots) (hls : ls.size = nL) (hcat : (rest.map fun v => v.category).sum ≤ 8) (d : decode cc pc = .ok (.invokevirtual idx, 3)) (kk : ∀ (H1 : Heap) (locs1 : List Loc), AtW E (wM E σ ++ X) A s H1 locs1 → W p l e R s m a below meth c H1 locs1 cells slots Q (F0 m (pc + 3) ls (.int rv :: rest))) : W p l e R s m a below meth c H locs cells slots Q (F0 m pc ls (.ref (eA E 0) :: rest)) :=
  r_calli (n := 0) (As := []) (q0 := 0) (ci := 10) (qq := (RX10, TX10, 64)) (c_X10_fine h) rfl rfl rfl mk_7_72 mk_P_64 mk_1_11 mk_7_73 (by decide +kernel) rfl ⟨rfl, rfl⟩ cx hV w1 hR hcs hls rfl hcat d kk
def x_X10_wrong (p1 : Int32) (p2 : Int32) (σ : St) : Option St :=
  (if (gI σ 4) = (-1) then
  bd (some (sI σ 4 p2)) fun σ1 =>
  bd (some (sI σ1 5 p1)) fun σ2 =>
  some σ2
  else
  some σ)
abbrev rm_X10_wrong : Room := { frames := 0, cells := 0, slots := 0, locals := 0 }
set_option maxHeartbeats 4000000 in
set_option maxRecDepth 100000 in
theorem c_X10_wrong {l : Launch} {E : EV} {X : va_W} {σ : St} {p1 : Int32} {p2 : Int32} {σf : St} (h : x_X10_wrong p1 p2 σ = some σf) : CM l yX10_wrong cX10_wrong 3 none rm_X10_wrong [.ref (eA E 0), .int p1, .int p2] E (wM E σ ++ X) (wM E σf ++ X) qV := by
  refine CM.start (by decide) (Nat.le_of_ble_eq_true rfl) (fun p e s m a below meth c A ls cx hr hlk hV hl => ?_)
  have cx : CallFix p m c cX10_wrong 3 s a TBL RX10 := cx
  have hx := cx.1
  have hb := cx.2.1
  have hl : lv_has ls 3 [(0, .ref (eA E 0)), (1, .int p1), (2, .int p2)] := hl
  generalize hQ : EQ E (wM E σf ++ X) qV A s a below = QQ
  obtain ⟨H, hH⟩ : ∃ H, H = s.heap := ⟨_, rfl⟩
  obtain ⟨locs, hlocs⟩ : ∃ z, z = ([] : List Loc) := ⟨_, rfl⟩
  have hV : AtW E (wM E σ ++ X) A s H locs := by rw [hH, hlocs]; exact hV
  have goal : W p l e rm_X10_wrong s m a below meth c H locs 0 0 QQ (F0 m 0 ls []) := by
    unfold x_X10_wrong at h
    refine lv_aload_n hx hb dX10_wrong_0 rfl (lv_at hl 0 rfl) ?_
    refine G_X10_bad cx hV mk_6_102 dX10_wrong_1 ?_
    refine lv_iconst (v := (-1)) hx hb dX10_wrong_4 (by decide) ?_
    refine lv_icmp_eq (tgt := 9) hx hb dX10_wrong_5 (by decide) (fun hc => ?_) (fun hc => ?_)
    · have h := ifp hc h
      refine lv_aload_n hx hb dX10_wrong_9 rfl (lv_at hl 0 rfl) ?_
      refine lv_iload_n hx hb dX10_wrong_10 rfl (lv_at hl 2 rfl) ?_
      refine bd_e h (fun σ1 hq h => ?_)
      refine P_X10_bad cx hV hq mk_6_102 dX10_wrong_11 (fun H locs hV => ?_)
      refine lv_aload_n hx hb dX10_wrong_14 rfl (lv_at hl 0 rfl) ?_
      refine lv_iload_n hx hb dX10_wrong_15 rfl (lv_at hl 1 rfl) ?_
      refine bd_e h (fun σ2 hq h => ?_)
      refine P_X10_badKind cx hV hq mk_6_103 dX10_wrong_16 (fun H locs hV => ?_)
      have h1 := Option.some.inj h
      subst h1
      subst hQ
      exact r_vret cx hr hlk hV dX10_wrong_19
    · have h := ifn hc h
      have h1 := Option.some.inj h
      subst h1
      subst hQ
      exact r_vret cx hr hlk hV dX10_wrong_8
  rw [hH, hlocs] at goal
  exact goal
theorem k_X10_wrong {p : Program} {l : Launch} {e : Env} {R : Room} {s : State} {m : MethodId} {a : Array Value} {below : List Frame} {meth : Method} {c : Code} {H : Heap} {locs : List Loc} {cells slots : Nat} {Q : State → Prop} {cc : ByteArray} {own : String} {nL pc : Nat} {ls : Array Slot} {rest : List Value} {A : Nat → Prop} {E : EV} {X : va_W} {σ : St} {p1 : Int32} {p2 : Int32} {σf : St} (h : x_X10_wrong p1 p2 σ = some σf) (cx : CallFix p m c cc nL s a TBL own) (hV : AtW E (wM E σ ++ X) A s H locs) {idx : Nat} (w1 : Cond.methodLink own idx yX10_wrong ∈ TBL) (hR : (rm_X10_wrong).frames + 1 ≤ R.frames ∧ 8 + (3 + 11) + (rm_X10_wrong).locals ≤ R.locals) (hcs : cells ≤ R.cells ∧ slots ≤ R.slots) (hls : ls.size = nL) (hcat : (rest.map fun v => v.category).sum ≤ 8) (d : decode cc pc = .ok (.invokevirtual idx, 3)) (kk : ∀ (H1 : Heap) (locs1 : List Loc), AtW E (wM E σf ++ X) A s H1 locs1 → W p l e R s m a below meth c H1 locs1 cells slots Q (F0 m (pc + 3) ls (rest))) : W p l e R s m a below meth c H locs cells slots Q (F0 m pc ls (.int p2 :: .int p1 :: .ref (eA E 0) :: rest)) :=
  r_callv (n := 2) (As := [.int p1, .int p2]) (q0 := 0) (ci := 10) (qq := (RX10, TX10, 64)) (c_X10_wrong h) wM_fst rfl rfl mk_7_108 mk_P_68 mk_1_11 mk_7_109 (by decide +kernel) rfl ⟨rfl, rfl⟩ cx hV w1 hR hcs hls rfl hcat d kk
def x_X10_here_L0 (σ1 : St) : Option (Bool × St) :=
  (if (gI σ1 2) ≤ (gI σ1 3) then
  some (false, σ1)
  else
  bd (ldI (gA σ1 1) (lenM 1) (gI σ1 3)) fun v2 =>
  (if v2 = 32 then
  bd (some (sI σ1 3 ((gI σ1 3) + 1))) fun σ3 =>
  some (true, σ3)
  else
  some (false, σ1)))
def x_X10_here (σ : St) : Option (Int32 × St) :=
  bd (lp (fun v : St => x_X10_here_L0 v) FU σ) fun σ4 =>
  (if (gI σ4 2) ≤ (gI σ4 3) then
  some (0, σ4)
  else
  bd (ldI (gA σ4 1) (lenM 1) (gI σ4 3)) fun v5 =>
  some (v5, σ4))
abbrev rm_X10_here : Room := { frames := 0, cells := 0, slots := 0, locals := 0 }
set_option maxHeartbeats 4000000 in
set_option maxRecDepth 100000 in
theorem c_X10_here {l : Launch} {E : EV} {X : va_W} {σ : St} {rv : Int32} {σf : St} (h : x_X10_here σ = some (rv, σf)) : CM l yX10_here cX10_here 1 (some .int) rm_X10_here [.ref (eA E 0)] E (wM E σ ++ X) (wM E σf ++ X) (qI rv) := by
  refine CM.start (by decide) (Nat.le_of_ble_eq_true rfl) (fun p e s m a below meth c A ls cx hr hlk hV hl => ?_)
  have cx : CallFix p m c cX10_here 1 s a TBL RX10 := cx
  have hx := cx.1
  have hb := cx.2.1
  have hl : lv_has ls 1 [(0, .ref (eA E 0))] := hl
  generalize hQ : EQ E (wM E σf ++ X) (qI rv) A s a below = QQ
  obtain ⟨H, hH⟩ : ∃ H, H = s.heap := ⟨_, rfl⟩
  obtain ⟨locs, hlocs⟩ : ∃ z, z = ([] : List Loc) := ⟨_, rfl⟩
  have hV : AtW E (wM E σ ++ X) A s H locs := by rw [hH, hlocs]; exact hV
  have goal : W p l e rm_X10_here s m a below meth c H locs 0 0 QQ (F0 m 0 ls []) := by
    unfold x_X10_here at h
    refine bd_e h (fun σ4 ho h => ?_)
    refine (lp_rule (G := (fun v : St => ∀ (H : Heap) (locs : List Loc) (ls : Array Slot), AtW E (wM E v ++ X) A s H locs → lv_has ls 1 [(0, .ref (eA E 0))] → W p l e rm_X10_here s m a below meth c H locs 0 0 QQ (F0 m 0 ls []))) (K := (fun v : St => ∀ (H : Heap) (locs : List Loc) (ls : Array Slot), AtW E (wM E v ++ X) A s H locs → lv_has ls 1 [(0, .ref (eA E 0))] → W p l e rm_X10_here s m a below meth c H locs 0 0 QQ (F0 m 38 ls []))) (fun v b1 y1 h hT1 hF1 => ?_) ho (fun H locs ls hV hl => ?_)) _ _ _ hV (lv_sub hl [0] rfl)
    · obtain ⟨σ1, rfl⟩ : ∃ z, z = v := ⟨_, rfl⟩
      have h : x_X10_here_L0 σ1 = some (b1, y1) := h
      intro H locs ls hV hl
      have hV : AtW E (wM E σ1 ++ X) A s H locs := hV
      have hl : lv_has ls 1 [(0, .ref (eA E 0))] := hl
      unfold x_X10_here_L0 at h
      refine lv_aload_n hx hb dX10_here_0 rfl (lv_at hl 0 rfl) ?_
      refine G_X10_at cx hV mk_6_101 dX10_here_1 ?_
      refine lv_aload_n hx hb dX10_here_4 rfl (lv_at hl 0 rfl) ?_
      refine G_X10_size cx hV mk_6_100 dX10_here_5 ?_
      refine lv_icmp_ge (tgt := 38) hx hb dX10_here_8 (by decide) (fun hc => ?_) (fun hc => ?_)
      · have h := ifp hc h
        cases h
        exact hF1 rfl _ _ _ hV (lv_sub hl [0] rfl)
      · have h := ifn hc h
        refine lv_aload_n hx hb dX10_here_11 rfl (lv_at hl 0 rfl) ?_
        refine G_X10_tape cx hV mk_6_106 dX10_here_12 ?_
        refine lv_aload_n hx hb dX10_here_15 rfl (lv_at hl 0 rfl) ?_
        refine G_X10_at cx hV mk_6_101 dX10_here_16 ?_
        refine bd_e h (fun v2 hq h => ?_)
        refine R_M_iald cx hV (by decide) hq dX10_here_19 ?_
        refine lv_bipush (v := 32) hx hb dX10_here_20 (by decide) ?_
        refine lv_icmp_ne (tgt := 38) hx hb dX10_here_22 (by decide) (fun hc => ?_) (fun hc => ?_)
        · have h := ifn hc h
          cases h
          exact hF1 rfl _ _ _ hV (lv_sub hl [0] rfl)
        · have h := ifp hc h
          refine lv_aload_n hx hb dX10_here_25 rfl (lv_at hl 0 rfl) ?_
          refine lv_dup hx hb dX10_here_26 rfl ?_
          refine G_X10_at cx hV mk_6_101 dX10_here_27 ?_
          refine lv_iconst (v := 1) hx hb dX10_here_30 (by decide) ?_
          refine lv_iadd hx hb dX10_here_31 ?_
          refine bd_e h (fun σ3 hq h => ?_)
          refine P_X10_at cx hV hq mk_6_101 dX10_here_32 (fun H locs hV => ?_)
          refine lv_goto (tgt := 0) hx hb dX10_here_35 (by decide) ?_
          cases h
          exact hT1 rfl _ _ _ hV (lv_sub hl [0] rfl)
    · have hV : AtW E (wM E σ4 ++ X) A s H locs := hV
      have hl : lv_has ls 1 [(0, .ref (eA E 0))] := hl
      refine lv_aload_n hx hb dX10_here_38 rfl (lv_at hl 0 rfl) ?_
      refine G_X10_at cx hV mk_6_101 dX10_here_39 ?_
      refine lv_aload_n hx hb dX10_here_42 rfl (lv_at hl 0 rfl) ?_
      refine G_X10_size cx hV mk_6_100 dX10_here_43 ?_
      refine lv_icmp_ge (tgt := 61) hx hb dX10_here_46 (by decide) (fun hc => ?_) (fun hc => ?_)
      · have h := ifp hc h
        refine lv_iconst (v := 0) hx hb dX10_here_61 (by decide) ?_
        obtain ⟨h1, h2⟩ := Prod.mk.inj (Option.some.inj h)
        subst h1
        subst h2
        subst hQ
        exact r_ireti cx hr hlk hV dX10_here_62
      · have h := ifn hc h
        refine lv_aload_n hx hb dX10_here_49 rfl (lv_at hl 0 rfl) ?_
        refine G_X10_tape cx hV mk_6_106 dX10_here_50 ?_
        refine lv_aload_n hx hb dX10_here_53 rfl (lv_at hl 0 rfl) ?_
        refine G_X10_at cx hV mk_6_101 dX10_here_54 ?_
        refine bd_e h (fun v5 hq h => ?_)
        refine R_M_iald cx hV (by decide) hq dX10_here_57 ?_
        refine lv_goto (tgt := 62) hx hb dX10_here_58 (by decide) ?_
        obtain ⟨h1, h2⟩ := Prod.mk.inj (Option.some.inj h)
        subst h1
        subst h2
        subst hQ
        exact r_ireti cx hr hlk hV dX10_here_62
  rw [hH, hlocs] at goal
  exact goal
theorem k_X10_here {p : Program} {l : Launch} {e : Env} {R : Room} {s : State} {m : MethodId} {a : Array Value} {below : List Frame} {meth : Method} {c : Code} {H : Heap} {locs : List Loc} {cells slots : Nat} {Q : State → Prop} {cc : ByteArray} {own : String} {nL pc : Nat} {ls : Array Slot} {rest : List Value} {A : Nat → Prop} {E : EV} {X : va_W} {σ : St} {rv : Int32} {σf : St} (h : x_X10_here σ = some (rv, σf)) (cx : CallFix p m c cc nL s a TBL own) (hV : AtW E (wM E σ ++ X) A s H locs) {idx : Nat} (w1 : Cond.methodLink own idx yX10_here ∈ TBL) (hR : (rm_X10_here).frames + 1 ≤ R.frames ∧ 8 + (1 + 11) + (rm_X10_here).locals ≤ R.locals) (hcs : cells ≤ R.cells ∧ slots ≤ R.slots) (hls : ls.size = nL) (hcat : (rest.map fun v => v.category).sum ≤ 8) (d : decode cc pc = .ok (.invokevirtual idx, 3)) (kk : ∀ (H1 : Heap) (locs1 : List Loc), AtW E (wM E σf ++ X) A s H1 locs1 → W p l e R s m a below meth c H1 locs1 cells slots Q (F0 m (pc + 3) ls (.int rv :: rest))) : W p l e R s m a below meth c H locs cells slots Q (F0 m pc ls (.ref (eA E 0) :: rest)) :=
  r_calli (n := 0) (As := []) (q0 := 0) (ci := 10) (qq := (RX10, TX10, 64)) (c_X10_here h) wM_fst rfl rfl mk_7_80 mk_P_66 mk_1_11 mk_7_81 (by decide +kernel) rfl ⟨rfl, rfl⟩ cx hV w1 hR hcs hls rfl hcat d kk
def x_X10_isSmall (p1 : Int32) : Option Int32 :=
  (if p1 < 97 then
  some 0
  else
  (if 122 < p1 then
  some 0
  else
  some 1))
abbrev rm_X10_isSmall : Room := { frames := 0, cells := 0, slots := 0, locals := 0 }
set_option maxHeartbeats 4000000 in
set_option maxRecDepth 100000 in
theorem c_X10_isSmall {l : Launch} {E : EV} {V : va_W} {p1 : Int32} {rv : Int32} (h : x_X10_isSmall p1 = some rv) : CM l yX10_isSmall cX10_isSmall 1 (some .boolean) rm_X10_isSmall [.int p1] E V V (qI rv) := by
  refine CM.start (by decide) (Nat.le_of_ble_eq_true rfl) (fun p e s m a below meth c A ls cx hr hlk hV hl => ?_)
  have cx : CallFix p m c cX10_isSmall 1 s a TBL RX10 := cx
  have hx := cx.1
  have hb := cx.2.1
  have hl : lv_has ls 1 [(0, .int p1)] := hl
  generalize hQ : EQ E V (qI rv) A s a below = QQ
  obtain ⟨H, hH⟩ : ∃ H, H = s.heap := ⟨_, rfl⟩
  obtain ⟨locs, hlocs⟩ : ∃ z, z = ([] : List Loc) := ⟨_, rfl⟩
  have hV : AtW E V A s H locs := by rw [hH, hlocs]; exact hV
  have goal : W p l e rm_X10_isSmall s m a below meth c H locs 0 0 QQ (F0 m 0 ls []) := by
    unfold x_X10_isSmall at h
    refine lv_iload_n hx hb dX10_isSmall_0 rfl (lv_at hl 0 rfl) ?_
    refine lv_bipush (v := 97) hx hb dX10_isSmall_1 (by decide) ?_
    refine lv_icmp_lt (tgt := 16) hx hb dX10_isSmall_3 (by decide) (fun hc => ?_) (fun hc => ?_)
    · have h := ifp hc h
      refine lv_iconst (v := 0) hx hb dX10_isSmall_16 (by decide) ?_
      have h1 := Option.some.inj h
      subst h1
      subst hQ
      exact r_zreti cx hr hlk hV (Or.inl rfl) dX10_isSmall_17
    · have h := ifn hc h
      refine lv_iload_n hx hb dX10_isSmall_6 rfl (lv_at hl 0 rfl) ?_
      refine lv_bipush (v := 122) hx hb dX10_isSmall_7 (by decide) ?_
      refine lv_icmp_gt (tgt := 16) hx hb dX10_isSmall_9 (by decide) (fun hc => ?_) (fun hc => ?_)
      · have h := ifp hc h
        refine lv_iconst (v := 0) hx hb dX10_isSmall_16 (by decide) ?_
        have h1 := Option.some.inj h
        subst h1
        subst hQ
        exact r_zreti cx hr hlk hV (Or.inl rfl) dX10_isSmall_17
      · have h := ifn hc h
        refine lv_iconst (v := 1) hx hb dX10_isSmall_12 (by decide) ?_
        refine lv_goto (tgt := 17) hx hb dX10_isSmall_13 (by decide) ?_
        have h1 := Option.some.inj h
        subst h1
        subst hQ
        exact r_zreti cx hr hlk hV (Or.inr rfl) dX10_isSmall_17
  rw [hH, hlocs] at goal
  exact goal
theorem k_X10_isSmall {p : Program} {l : Launch} {e : Env} {R : Room} {s : State} {m : MethodId} {a : Array Value} {below : List Frame} {meth : Method} {c : Code} {H : Heap} {locs : List Loc} {cells slots : Nat} {Q : State → Prop} {cc : ByteArray} {own : String} {nL pc : Nat} {ls : Array Slot} {rest : List Value} {A : Nat → Prop} {E : EV} {V : va_W} {p1 : Int32} {rv : Int32} (h : x_X10_isSmall p1 = some rv) (cx : CallFix p m c cc nL s a TBL own) (hV : AtW E V A s H locs) {idx : Nat} (w1 : Cond.methodLink own idx yX10_isSmall ∈ TBL) (hR : (rm_X10_isSmall).frames + 1 ≤ R.frames ∧ 8 + (1 + 11) + (rm_X10_isSmall).locals ≤ R.locals) (hcs : cells ≤ R.cells ∧ slots ≤ R.slots) (hls : ls.size = nL) (hcat : (rest.map fun v => v.category).sum ≤ 8) (d : decode cc pc = .ok (.invokestatic idx, 3)) (kk : ∀ (H1 : Heap) (locs1 : List Loc), AtW E V A s H1 locs1 → W p l e R s m a below meth c H1 locs1 cells slots Q (F0 m (pc + 3) ls (.int rv :: rest))) : W p l e R s m a below meth c H locs cells slots Q (F0 m pc ls (.int p1 :: rest)) :=
  r_sti (n := 1) (As := [.int p1]) (c_X10_isSmall h) rfl mk_7_87 mk_1_11 mk_7_88 (by decide +kernel) rfl ⟨rfl, rfl⟩ cx hV w1 hR hcs hls rfl hcat d kk
def x_X10_isDigit (p1 : Int32) : Option Int32 :=
  (if p1 < 48 then
  some 0
  else
  (if 57 < p1 then
  some 0
  else
  some 1))
abbrev rm_X10_isDigit : Room := { frames := 0, cells := 0, slots := 0, locals := 0 }
set_option maxHeartbeats 4000000 in
set_option maxRecDepth 100000 in
theorem c_X10_isDigit {l : Launch} {E : EV} {V : va_W} {p1 : Int32} {rv : Int32} (h : x_X10_isDigit p1 = some rv) : CM l yX10_isDigit cX10_isDigit 1 (some .boolean) rm_X10_isDigit [.int p1] E V V (qI rv) := by
  refine CM.start (by decide) (Nat.le_of_ble_eq_true rfl) (fun p e s m a below meth c A ls cx hr hlk hV hl => ?_)
  have cx : CallFix p m c cX10_isDigit 1 s a TBL RX10 := cx
  have hx := cx.1
  have hb := cx.2.1
  have hl : lv_has ls 1 [(0, .int p1)] := hl
  generalize hQ : EQ E V (qI rv) A s a below = QQ
  obtain ⟨H, hH⟩ : ∃ H, H = s.heap := ⟨_, rfl⟩
  obtain ⟨locs, hlocs⟩ : ∃ z, z = ([] : List Loc) := ⟨_, rfl⟩
  have hV : AtW E V A s H locs := by rw [hH, hlocs]; exact hV
  have goal : W p l e rm_X10_isDigit s m a below meth c H locs 0 0 QQ (F0 m 0 ls []) := by
    unfold x_X10_isDigit at h
    refine lv_iload_n hx hb dX10_isDigit_0 rfl (lv_at hl 0 rfl) ?_
    refine lv_bipush (v := 48) hx hb dX10_isDigit_1 (by decide) ?_
    refine lv_icmp_lt (tgt := 16) hx hb dX10_isDigit_3 (by decide) (fun hc => ?_) (fun hc => ?_)
    · have h := ifp hc h
      refine lv_iconst (v := 0) hx hb dX10_isDigit_16 (by decide) ?_
      have h1 := Option.some.inj h
      subst h1
      subst hQ
      exact r_zreti cx hr hlk hV (Or.inl rfl) dX10_isDigit_17
    · have h := ifn hc h
      refine lv_iload_n hx hb dX10_isDigit_6 rfl (lv_at hl 0 rfl) ?_
      refine lv_bipush (v := 57) hx hb dX10_isDigit_7 (by decide) ?_
      refine lv_icmp_gt (tgt := 16) hx hb dX10_isDigit_9 (by decide) (fun hc => ?_) (fun hc => ?_)
      · have h := ifp hc h
        refine lv_iconst (v := 0) hx hb dX10_isDigit_16 (by decide) ?_
        have h1 := Option.some.inj h
        subst h1
        subst hQ
        exact r_zreti cx hr hlk hV (Or.inl rfl) dX10_isDigit_17
      · have h := ifn hc h
        refine lv_iconst (v := 1) hx hb dX10_isDigit_12 (by decide) ?_
        refine lv_goto (tgt := 17) hx hb dX10_isDigit_13 (by decide) ?_
        have h1 := Option.some.inj h
        subst h1
        subst hQ
        exact r_zreti cx hr hlk hV (Or.inr rfl) dX10_isDigit_17
  rw [hH, hlocs] at goal
  exact goal
theorem k_X10_isDigit {p : Program} {l : Launch} {e : Env} {R : Room} {s : State} {m : MethodId} {a : Array Value} {below : List Frame} {meth : Method} {c : Code} {H : Heap} {locs : List Loc} {cells slots : Nat} {Q : State → Prop} {cc : ByteArray} {own : String} {nL pc : Nat} {ls : Array Slot} {rest : List Value} {A : Nat → Prop} {E : EV} {V : va_W} {p1 : Int32} {rv : Int32} (h : x_X10_isDigit p1 = some rv) (cx : CallFix p m c cc nL s a TBL own) (hV : AtW E V A s H locs) {idx : Nat} (w1 : Cond.methodLink own idx yX10_isDigit ∈ TBL) (hR : (rm_X10_isDigit).frames + 1 ≤ R.frames ∧ 8 + (1 + 11) + (rm_X10_isDigit).locals ≤ R.locals) (hcs : cells ≤ R.cells ∧ slots ≤ R.slots) (hls : ls.size = nL) (hcat : (rest.map fun v => v.category).sum ≤ 8) (d : decode cc pc = .ok (.invokestatic idx, 3)) (kk : ∀ (H1 : Heap) (locs1 : List Loc), AtW E V A s H1 locs1 → W p l e R s m a below meth c H1 locs1 cells slots Q (F0 m (pc + 3) ls (.int rv :: rest))) : W p l e R s m a below meth c H locs cells slots Q (F0 m pc ls (.int p1 :: rest)) :=
  r_sti (n := 1) (As := [.int p1]) (c_X10_isDigit h) rfl mk_7_119 mk_1_11 mk_7_120 (by decide +kernel) rfl ⟨rfl, rfl⟩ cx hV w1 hR hcs hls rfl hcat d kk
def x_X10_word_L14 (σ2 : St) (u3 : Int32) (u4 : Int32) (u5 : Int32) : Option (Bool × (Int32 × Int32 × Int32)) :=
  (if (gI σ2 2) ≤ u5 then
  some (false, (u3, u4, u5))
  else
  bd (ldI (gA σ2 1) (lenM 1) u5) fun v6 =>
  bd (x_X10_isSmall v6) fun v7 =>
  (if v7 = 0 then
  some (false, (u3, u4, u5))
  else
  (if 6 ≤ u4 then
  some (true, (0, (u4 + 1), (u5 + 1)))
  else
  bd (ldI (gA σ2 1) (lenM 1) u5) fun v8 =>
  some (true, (((u3 <<< (5 &&& 31)) ||| (v8 - 96)), (u4 + 1), (u5 + 1))))))
def x_X10_word (σ : St) : Option (Int32 × St) :=
  bd2 (x_X10_here σ) fun v1 σ2 =>
  bd3 (lp (fun v : (Int32 × Int32 × Int32) => x_X10_word_L14 σ2 v.1 v.2.1 v.2.2) FU (0, 0, (gI σ2 3))) fun z9 z10 z11 =>
  (if z10 ≤ 6 then
  some (z9, σ2)
  else
  some (0, σ2))
abbrev rm_X10_word : Room := { frames := 1, cells := 0, slots := 0, locals := 20 }
set_option maxHeartbeats 4000000 in
set_option maxRecDepth 100000 in
theorem c_X10_word {l : Launch} {E : EV} {X : va_W} {σ : St} {rv : Int32} {σf : St} (h : x_X10_word σ = some (rv, σf)) : CM l yX10_word cX10_word 4 (some .int) rm_X10_word [.ref (eA E 0)] E (wM E σ ++ X) (wM E σf ++ X) (qI rv) := by
  refine CM.start (by decide) (Nat.le_of_ble_eq_true rfl) (fun p e s m a below meth c A ls cx hr hlk hV hl => ?_)
  have cx : CallFix p m c cX10_word 4 s a TBL RX10 := cx
  have hx := cx.1
  have hb := cx.2.1
  have hl : lv_has ls 4 [(0, .ref (eA E 0))] := hl
  generalize hQ : EQ E (wM E σf ++ X) (qI rv) A s a below = QQ
  obtain ⟨H, hH⟩ : ∃ H, H = s.heap := ⟨_, rfl⟩
  obtain ⟨locs, hlocs⟩ : ∃ z, z = ([] : List Loc) := ⟨_, rfl⟩
  have hV : AtW E (wM E σ ++ X) A s H locs := by rw [hH, hlocs]; exact hV
  have goal : W p l e rm_X10_word s m a below meth c H locs 0 0 QQ (F0 m 0 ls []) := by
    unfold x_X10_word at h
    refine lv_aload_n hx hb dX10_word_0 rfl (lv_at hl 0 rfl) ?_
    refine bd2_e h (fun v1 σ2 hq h => ?_)
    refine k_X10_here hq cx hV mk_7_78 ⟨Nat.le_of_ble_eq_true rfl, Nat.le_of_ble_eq_true rfl⟩ ⟨Nat.zero_le _, Nat.zero_le _⟩ hl.1 (Nat.le_of_ble_eq_true rfl) dX10_word_1 (fun H locs hV => ?_)
    refine lv_pop hx hb dX10_word_4 rfl ?_
    refine lv_iconst (v := 0) hx hb dX10_word_5 (by decide) ?_
    refine lv_istore_n (lv' := [(1, .int 0), (0, .ref (eA E 0))]) hx hb dX10_word_6 rfl hl (by decide) rfl (fun ls hl => ?_)
    refine lv_iconst (v := 0) hx hb dX10_word_7 (by decide) ?_
    refine lv_istore_n (lv' := [(2, .int 0), (1, .int 0), (0, .ref (eA E 0))]) hx hb dX10_word_8 rfl hl (by decide) rfl (fun ls hl => ?_)
    refine lv_aload_n hx hb dX10_word_9 rfl (lv_at hl 2 rfl) ?_
    refine G_X10_at cx hV mk_6_101 dX10_word_10 ?_
    refine lv_istore_n (lv' := [(3, .int (gI σ2 3)), (2, .int 0), (1, .int 0), (0, .ref (eA E 0))]) hx hb dX10_word_13 rfl hl (by decide) rfl (fun ls hl => ?_)
    refine bd3_e h (fun z9 z10 z11 ho h => ?_)
    refine (lp_rule (G := (fun v : (Int32 × Int32 × Int32) => ∀ (H : Heap) (locs : List Loc) (ls : Array Slot), AtW E (wM E σ2 ++ X) A s H locs → lv_has ls 4 [(0, .ref (eA E 0)), (1, .int v.1), (2, .int v.2.1), (3, .int v.2.2)] → W p l e rm_X10_word s m a below meth c H locs 0 0 QQ (F0 m 14 ls []))) (K := (fun v : (Int32 × Int32 × Int32) => ∀ (H : Heap) (locs : List Loc) (ls : Array Slot), AtW E (wM E σ2 ++ X) A s H locs → lv_has ls 4 [(1, .int v.1), (2, .int v.2.1)] → W p l e rm_X10_word s m a below meth c H locs 0 0 QQ (F0 m 67 ls []))) (fun v b1 y1 h hT1 hF1 => ?_) ho (fun H locs ls hV hl => ?_)) _ _ _ hV (lv_sub hl [3, 2, 1, 0] rfl)
    · obtain ⟨u3, u4, u5⟩ := v
      have h : x_X10_word_L14 σ2 u3 u4 u5 = some (b1, y1) := h
      intro H locs ls hV hl
      have hV : AtW E (wM E σ2 ++ X) A s H locs := hV
      have hl : lv_has ls 4 [(0, .ref (eA E 0)), (1, .int u3), (2, .int u4), (3, .int u5)] := hl
      unfold x_X10_word_L14 at h
      refine lv_iload_n hx hb dX10_word_14 rfl (lv_at hl 3 rfl) ?_
      refine lv_aload_n hx hb dX10_word_15 rfl (lv_at hl 0 rfl) ?_
      refine G_X10_size cx hV mk_6_100 dX10_word_16 ?_
      refine lv_icmp_ge (tgt := 67) hx hb dX10_word_19 (by decide) (fun hc => ?_) (fun hc => ?_)
      · have h := ifp hc h
        cases h
        exact hF1 rfl _ _ _ hV (lv_sub hl [1, 2] rfl)
      · have h := ifn hc h
        refine lv_aload_n hx hb dX10_word_22 rfl (lv_at hl 0 rfl) ?_
        refine G_X10_tape cx hV mk_6_106 dX10_word_23 ?_
        refine lv_iload_n hx hb dX10_word_26 rfl (lv_at hl 3 rfl) ?_
        refine bd_e h (fun v6 hq h => ?_)
        refine R_M_iald cx hV (by decide) hq dX10_word_27 ?_
        refine bd_e h (fun v7 hq h => ?_)
        refine k_X10_isSmall hq cx hV mk_7_86 ⟨Nat.le_of_ble_eq_true rfl, Nat.le_of_ble_eq_true rfl⟩ ⟨Nat.zero_le _, Nat.zero_le _⟩ hl.1 (Nat.le_of_ble_eq_true rfl) dX10_word_28 (fun H locs hV => ?_)
        refine lv_if_eq (tgt := 67) hx hb dX10_word_31 (by decide) (fun hc => ?_) (fun hc => ?_)
        · have h := ifp hc h
          cases h
          exact hF1 rfl _ _ _ hV (lv_sub hl [1, 2] rfl)
        · have h := ifn hc h
          refine lv_iload_n hx hb dX10_word_34 rfl (lv_at hl 2 rfl) ?_
          refine lv_bipush (v := 6) hx hb dX10_word_35 (by decide) ?_
          refine lv_icmp_ge (tgt := 56) hx hb dX10_word_37 (by decide) (fun hc => ?_) (fun hc => ?_)
          · have h := ifp hc h
            refine lv_iconst (v := 0) hx hb dX10_word_56 (by decide) ?_
            refine lv_istore_n (lv' := [(1, .int 0), (0, .ref (eA E 0)), (2, .int u4), (3, .int u5)]) hx hb dX10_word_57 rfl hl (by decide) rfl (fun ls hl => ?_)
            refine lv_iinc (v := (u4 + 1)) (lv' := [(2, .int (u4 + 1)), (1, .int 0), (0, .ref (eA E 0)), (3, .int u5)]) hx hb dX10_word_58 hl (k := 2) rfl rfl (by decide) rfl (fun ls hl => ?_)
            refine lv_iinc (v := (u5 + 1)) (lv' := [(3, .int (u5 + 1)), (2, .int (u4 + 1)), (1, .int 0), (0, .ref (eA E 0))]) hx hb dX10_word_61 hl (k := 3) rfl rfl (by decide) rfl (fun ls hl => ?_)
            refine lv_goto (tgt := 14) hx hb dX10_word_64 (by decide) ?_
            cases h
            exact hT1 rfl _ _ _ hV (lv_sub hl [3, 2, 1, 0] rfl)
          · have h := ifn hc h
            refine lv_iload_n hx hb dX10_word_40 rfl (lv_at hl 1 rfl) ?_
            refine lv_iconst (v := 5) hx hb dX10_word_41 (by decide) ?_
            refine lv_ishl hx hb dX10_word_42 ?_
            refine lv_aload_n hx hb dX10_word_43 rfl (lv_at hl 0 rfl) ?_
            refine G_X10_tape cx hV mk_6_106 dX10_word_44 ?_
            refine lv_iload_n hx hb dX10_word_47 rfl (lv_at hl 3 rfl) ?_
            refine bd_e h (fun v8 hq h => ?_)
            refine R_M_iald cx hV (by decide) hq dX10_word_48 ?_
            refine lv_bipush (v := 96) hx hb dX10_word_49 (by decide) ?_
            refine lv_isub hx hb dX10_word_51 ?_
            refine lv_ior hx hb dX10_word_52 ?_
            refine lv_goto (tgt := 57) hx hb dX10_word_53 (by decide) ?_
            refine lv_istore_n (lv' := [(1, .int ((u3 <<< (5 &&& 31)) ||| (v8 - 96))), (0, .ref (eA E 0)), (2, .int u4), (3, .int u5)]) hx hb dX10_word_57 rfl hl (by decide) rfl (fun ls hl => ?_)
            refine lv_iinc (v := (u4 + 1)) (lv' := [(2, .int (u4 + 1)), (1, .int ((u3 <<< (5 &&& 31)) ||| (v8 - 96))), (0, .ref (eA E 0)), (3, .int u5)]) hx hb dX10_word_58 hl (k := 2) rfl rfl (by decide) rfl (fun ls hl => ?_)
            refine lv_iinc (v := (u5 + 1)) (lv' := [(3, .int (u5 + 1)), (2, .int (u4 + 1)), (1, .int ((u3 <<< (5 &&& 31)) ||| (v8 - 96))), (0, .ref (eA E 0))]) hx hb dX10_word_61 hl (k := 3) rfl rfl (by decide) rfl (fun ls hl => ?_)
            refine lv_goto (tgt := 14) hx hb dX10_word_64 (by decide) ?_
            cases h
            exact hT1 rfl _ _ _ hV (lv_sub hl [3, 2, 1, 0] rfl)
    · have hV : AtW E (wM E σ2 ++ X) A s H locs := hV
      have hl : lv_has ls 4 [(1, .int z9), (2, .int z10)] := hl
      refine lv_iload_n hx hb dX10_word_67 rfl (lv_at hl 1 rfl) ?_
      refine lv_bipush (v := 6) hx hb dX10_word_68 (by decide) ?_
      refine lv_icmp_le (tgt := 77) hx hb dX10_word_70 (by decide) (fun hc => ?_) (fun hc => ?_)
      · have h := ifp hc h
        refine lv_iload_n hx hb dX10_word_77 rfl (lv_at hl 0 rfl) ?_
        obtain ⟨h1, h2⟩ := Prod.mk.inj (Option.some.inj h)
        subst h1
        subst h2
        subst hQ
        exact r_ireti cx hr hlk hV dX10_word_78
      · have h := ifn hc h
        refine lv_iconst (v := 0) hx hb dX10_word_73 (by decide) ?_
        refine lv_goto (tgt := 78) hx hb dX10_word_74 (by decide) ?_
        obtain ⟨h1, h2⟩ := Prod.mk.inj (Option.some.inj h)
        subst h1
        subst h2
        subst hQ
        exact r_ireti cx hr hlk hV dX10_word_78
  rw [hH, hlocs] at goal
  exact goal
theorem k_X10_word {p : Program} {l : Launch} {e : Env} {R : Room} {s : State} {m : MethodId} {a : Array Value} {below : List Frame} {meth : Method} {c : Code} {H : Heap} {locs : List Loc} {cells slots : Nat} {Q : State → Prop} {cc : ByteArray} {own : String} {nL pc : Nat} {ls : Array Slot} {rest : List Value} {A : Nat → Prop} {E : EV} {X : va_W} {σ : St} {rv : Int32} {σf : St} (h : x_X10_word σ = some (rv, σf)) (cx : CallFix p m c cc nL s a TBL own) (hV : AtW E (wM E σ ++ X) A s H locs) {idx : Nat} (w1 : Cond.methodLink own idx yX10_word ∈ TBL) (hR : (rm_X10_word).frames + 1 ≤ R.frames ∧ 8 + (4 + 11) + (rm_X10_word).locals ≤ R.locals) (hcs : cells ≤ R.cells ∧ slots ≤ R.slots) (hls : ls.size = nL) (hcat : (rest.map fun v => v.category).sum ≤ 8) (d : decode cc pc = .ok (.invokevirtual idx, 3)) (kk : ∀ (H1 : Heap) (locs1 : List Loc), AtW E (wM E σf ++ X) A s H1 locs1 → W p l e R s m a below meth c H1 locs1 cells slots Q (F0 m (pc + 3) ls (.int rv :: rest))) : W p l e R s m a below meth c H locs cells slots Q (F0 m pc ls (.ref (eA E 0) :: rest)) :=
  r_calli (n := 0) (As := []) (q0 := 0) (ci := 10) (qq := (RX10, TX10, 64)) (c_X10_word h) wM_fst rfl rfl mk_7_84 mk_P_67 mk_1_11 mk_7_85 (by decide +kernel) rfl ⟨rfl, rfl⟩ cx hV w1 hR hcs hls rfl hcat d kk
def x_X10_of_L4 (i1 : Nat) (u1 : Int32) (u2 : Int32) : Option (Bool × (Int32 × Int32)) :=
  bd (x_J0_length_8abf5 i1) fun v3 =>
  (if v3 ≤ u2 then
  some (false, (u1, u2))
  else
  bd (x_J0_charAt_5068e i1 u2) fun v4 =>
  some (true, (((u1 <<< (5 &&& 31)) ||| (v4 - 96)), (u2 + 1))))
def x_X10_of (i1 : Nat) : Option Int32 :=
  bd2 (lp (fun v : (Int32 × Int32) => x_X10_of_L4 i1 v.1 v.2) FU (0, 0)) fun z5 z6 =>
  some z5
abbrev rm_X10_of : Room := { frames := 4, cells := 0, slots := 0, locals := 85 }
set_option maxHeartbeats 4000000 in
set_option maxRecDepth 100000 in
theorem c_X10_of {l : Launch} {E : EV} {V : va_W} {i1 : Nat} {rv : Int32} (hi1 : i1 < 9) (h : x_X10_of i1 = some rv) : CMF l yX10_of cX10_of 3 (some .int) rm_X10_of [.ref (adS E i1)] E V V (qI rv) := by
  refine CMF.start (by decide) (Nat.le_of_ble_eq_true rfl) (fun p e s m a below meth c A ls cx hr hlk hV hF hl => ?_)
  have cx : CallFix p m c cX10_of 3 s a TBL RX10 := cx
  have hx := cx.1
  have hb := cx.2.1
  have hl : lv_has ls 3 [(0, .ref (adS E i1))] := hl
  generalize hQ : EQ E V (qI rv) A s a below = QQ
  obtain ⟨H, hH⟩ : ∃ H, H = s.heap := ⟨_, rfl⟩
  obtain ⟨locs, hlocs⟩ : ∃ z, z = ([] : List Loc) := ⟨_, rfl⟩
  have hV : AtW E V A s H locs := by rw [hH, hlocs]; exact hV
  have goal : W p l e rm_X10_of s m a below meth c H locs 0 0 QQ (F0 m 0 ls []) := by
    unfold x_X10_of at h
    refine lv_iconst (v := 0) hx hb dX10_of_0 (by decide) ?_
    refine lv_istore_n (lv' := [(1, .int 0), (0, .ref (adS E i1))]) hx hb dX10_of_1 rfl hl (by decide) rfl (fun ls hl => ?_)
    refine lv_iconst (v := 0) hx hb dX10_of_2 (by decide) ?_
    refine lv_istore_n (lv' := [(2, .int 0), (1, .int 0), (0, .ref (adS E i1))]) hx hb dX10_of_3 rfl hl (by decide) rfl (fun ls hl => ?_)
    refine bd2_e h (fun z5 z6 ho h => ?_)
    refine (lp_rule (G := (fun v : (Int32 × Int32) => ∀ (H : Heap) (locs : List Loc) (ls : Array Slot), AtW E V A s H locs → lv_has ls 3 [(0, .ref (adS E i1)), (1, .int v.1), (2, .int v.2)] → W p l e rm_X10_of s m a below meth c H locs 0 0 QQ (F0 m 4 ls []))) (K := (fun v : (Int32 × Int32) => ∀ (H : Heap) (locs : List Loc) (ls : Array Slot), AtW E V A s H locs → lv_has ls 3 [(1, .int v.1)] → W p l e rm_X10_of s m a below meth c H locs 0 0 QQ (F0 m 31 ls []))) (fun v b1 y1 h hT1 hF1 => ?_) ho (fun H locs ls hV hl => ?_)) _ _ _ hV (lv_sub hl [2, 1, 0] rfl)
    · obtain ⟨u1, u2⟩ := v
      have h : x_X10_of_L4 i1 u1 u2 = some (b1, y1) := h
      intro H locs ls hV hl
      have hV : AtW E V A s H locs := hV
      have hl : lv_has ls 3 [(0, .ref (adS E i1)), (1, .int u1), (2, .int u2)] := hl
      unfold x_X10_of_L4 at h
      refine lv_iload_n hx hb dX10_of_4 rfl (lv_at hl 2 rfl) ?_
      refine lv_aload_n hx hb dX10_of_5 rfl (lv_at hl 0 rfl) ?_
      refine bd_e h (fun v3 hq h => ?_)
      refine k_J0_length_8abf5 hi1 hq cx hV hF mk_7_93 ⟨Nat.le_of_ble_eq_true rfl, Nat.le_of_ble_eq_true rfl⟩ ⟨Nat.zero_le _, Nat.zero_le _⟩ hl.1 (Nat.le_of_ble_eq_true rfl) dX10_of_6 (fun H locs hV => ?_)
      refine lv_icmp_ge (tgt := 31) hx hb dX10_of_9 (by decide) (fun hc => ?_) (fun hc => ?_)
      · have h := ifp hc h
        cases h
        exact hF1 rfl _ _ _ hV (lv_sub hl [1] rfl)
      · have h := ifn hc h
        refine lv_iload_n hx hb dX10_of_12 rfl (lv_at hl 1 rfl) ?_
        refine lv_iconst (v := 5) hx hb dX10_of_13 (by decide) ?_
        refine lv_ishl hx hb dX10_of_14 ?_
        refine lv_aload_n hx hb dX10_of_15 rfl (lv_at hl 0 rfl) ?_
        refine lv_iload_n hx hb dX10_of_16 rfl (lv_at hl 2 rfl) ?_
        refine bd_e h (fun v4 hq h => ?_)
        refine k_J0_charAt_5068e hi1 hq cx hV hF mk_7_94 ⟨Nat.le_of_ble_eq_true rfl, Nat.le_of_ble_eq_true rfl⟩ ⟨Nat.zero_le _, Nat.zero_le _⟩ hl.1 (Nat.le_of_ble_eq_true rfl) dX10_of_17 (fun H locs hV => ?_)
        refine lv_bipush (v := 96) hx hb dX10_of_20 (by decide) ?_
        refine lv_isub hx hb dX10_of_22 ?_
        refine lv_ior hx hb dX10_of_23 ?_
        refine lv_istore_n (lv' := [(1, .int ((u1 <<< (5 &&& 31)) ||| (v4 - 96))), (0, .ref (adS E i1)), (2, .int u2)]) hx hb dX10_of_24 rfl hl (by decide) rfl (fun ls hl => ?_)
        refine lv_iinc (v := (u2 + 1)) (lv' := [(2, .int (u2 + 1)), (1, .int ((u1 <<< (5 &&& 31)) ||| (v4 - 96))), (0, .ref (adS E i1))]) hx hb dX10_of_25 hl (k := 2) rfl rfl (by decide) rfl (fun ls hl => ?_)
        refine lv_goto (tgt := 4) hx hb dX10_of_28 (by decide) ?_
        cases h
        exact hT1 rfl _ _ _ hV (lv_sub hl [2, 1, 0] rfl)
    · have hV : AtW E V A s H locs := hV
      have hl : lv_has ls 3 [(1, .int z5)] := hl
      refine lv_iload_n hx hb dX10_of_31 rfl (lv_at hl 0 rfl) ?_
      have h1 := Option.some.inj h
      subst h1
      subst hQ
      exact r_ireti cx hr hlk hV dX10_of_32
  rw [hH, hlocs] at goal
  exact goal
theorem k_X10_of {p : Program} {l : Launch} {e : Env} {R : Room} {s : State} {m : MethodId} {a : Array Value} {below : List Frame} {meth : Method} {c : Code} {H : Heap} {locs : List Loc} {cells slots : Nat} {Q : State → Prop} {cc : ByteArray} {own : String} {nL pc : Nat} {ls : Array Slot} {rest : List Value} {A : Nat → Prop} {E : EV} {V : va_W} {i1 : Nat} {rv : Int32} (hi1 : i1 < 9) (h : x_X10_of i1 = some rv) (cx : CallFix p m c cc nL s a TBL own) (hV : AtW E V A s H locs) (hF : FZ E A s s.heap) {idx : Nat} (w1 : Cond.methodLink own idx yX10_of ∈ TBL) (hR : (rm_X10_of).frames + 1 ≤ R.frames ∧ 8 + (3 + 11) + (rm_X10_of).locals ≤ R.locals) (hcs : cells ≤ R.cells ∧ slots ≤ R.slots) (hls : ls.size = nL) (hcat : (rest.map fun v => v.category).sum ≤ 8) (d : decode cc pc = .ok (.invokestatic idx, 3)) (kk : ∀ (H1 : Heap) (locs1 : List Loc), AtW E V A s H1 locs1 → W p l e R s m a below meth c H1 locs1 cells slots Q (F0 m (pc + 3) ls (.int rv :: rest))) : W p l e R s m a below meth c H locs cells slots Q (F0 m pc ls (.ref (adS E i1) :: rest)) :=
  r_stFi (n := 1) (As := [.ref (adS E i1)]) (c_X10_of hi1 h) rfl mk_7_91 mk_1_11 mk_7_92 (by decide +kernel) rfl ⟨rfl, rfl⟩ cx hV hF w1 hR hcs hls rfl hcat d kk
def x_X10_pass_L0 (σ1 : St) : Option (Bool × St) :=
  (if (gI σ1 2) ≤ (gI σ1 3) then
  some (false, σ1)
  else
  bd (ldI (gA σ1 1) (lenM 1) (gI σ1 3)) fun v2 =>
  bd (x_X10_isSmall v2) fun v3 =>
  (if v3 = 0 then
  some (false, σ1)
  else
  bd (some (sI σ1 3 ((gI σ1 3) + 1))) fun σ4 =>
  some (true, σ4)))
def x_X10_pass (σ : St) : Option St :=
  bd (lp (fun v : St => x_X10_pass_L0 v) FU σ) fun σ5 =>
  some σ5
abbrev rm_X10_pass : Room := { frames := 1, cells := 0, slots := 0, locals := 20 }
set_option maxHeartbeats 4000000 in
set_option maxRecDepth 100000 in
theorem c_X10_pass {l : Launch} {E : EV} {X : va_W} {σ : St} {σf : St} (h : x_X10_pass σ = some σf) : CM l yX10_pass cX10_pass 1 none rm_X10_pass [.ref (eA E 0)] E (wM E σ ++ X) (wM E σf ++ X) qV := by
  refine CM.start (by decide) (Nat.le_of_ble_eq_true rfl) (fun p e s m a below meth c A ls cx hr hlk hV hl => ?_)
  have cx : CallFix p m c cX10_pass 1 s a TBL RX10 := cx
  have hx := cx.1
  have hb := cx.2.1
  have hl : lv_has ls 1 [(0, .ref (eA E 0))] := hl
  generalize hQ : EQ E (wM E σf ++ X) qV A s a below = QQ
  obtain ⟨H, hH⟩ : ∃ H, H = s.heap := ⟨_, rfl⟩
  obtain ⟨locs, hlocs⟩ : ∃ z, z = ([] : List Loc) := ⟨_, rfl⟩
  have hV : AtW E (wM E σ ++ X) A s H locs := by rw [hH, hlocs]; exact hV
  have goal : W p l e rm_X10_pass s m a below meth c H locs 0 0 QQ (F0 m 0 ls []) := by
    unfold x_X10_pass at h
    refine bd_e h (fun σ5 ho h => ?_)
    refine (lp_rule (G := (fun v : St => ∀ (H : Heap) (locs : List Loc) (ls : Array Slot), AtW E (wM E v ++ X) A s H locs → lv_has ls 1 [(0, .ref (eA E 0))] → W p l e rm_X10_pass s m a below meth c H locs 0 0 QQ (F0 m 0 ls []))) (K := (fun v : St => ∀ (H : Heap) (locs : List Loc) (ls : Array Slot), AtW E (wM E v ++ X) A s H locs → lv_has ls 1 [] → W p l e rm_X10_pass s m a below meth c H locs 0 0 QQ (F0 m 39 ls []))) (fun v b1 y1 h hT1 hF1 => ?_) ho (fun H locs ls hV hl => ?_)) _ _ _ hV (lv_sub hl [0] rfl)
    · obtain ⟨σ1, rfl⟩ : ∃ z, z = v := ⟨_, rfl⟩
      have h : x_X10_pass_L0 σ1 = some (b1, y1) := h
      intro H locs ls hV hl
      have hV : AtW E (wM E σ1 ++ X) A s H locs := hV
      have hl : lv_has ls 1 [(0, .ref (eA E 0))] := hl
      unfold x_X10_pass_L0 at h
      refine lv_aload_n hx hb dX10_pass_0 rfl (lv_at hl 0 rfl) ?_
      refine G_X10_at cx hV mk_6_101 dX10_pass_1 ?_
      refine lv_aload_n hx hb dX10_pass_4 rfl (lv_at hl 0 rfl) ?_
      refine G_X10_size cx hV mk_6_100 dX10_pass_5 ?_
      refine lv_icmp_ge (tgt := 39) hx hb dX10_pass_8 (by decide) (fun hc => ?_) (fun hc => ?_)
      · have h := ifp hc h
        cases h
        exact hF1 rfl _ _ _ hV (lv_sub hl [] rfl)
      · have h := ifn hc h
        refine lv_aload_n hx hb dX10_pass_11 rfl (lv_at hl 0 rfl) ?_
        refine G_X10_tape cx hV mk_6_106 dX10_pass_12 ?_
        refine lv_aload_n hx hb dX10_pass_15 rfl (lv_at hl 0 rfl) ?_
        refine G_X10_at cx hV mk_6_101 dX10_pass_16 ?_
        refine bd_e h (fun v2 hq h => ?_)
        refine R_M_iald cx hV (by decide) hq dX10_pass_19 ?_
        refine bd_e h (fun v3 hq h => ?_)
        refine k_X10_isSmall hq cx hV mk_7_86 ⟨Nat.le_of_ble_eq_true rfl, Nat.le_of_ble_eq_true rfl⟩ ⟨Nat.zero_le _, Nat.zero_le _⟩ hl.1 (Nat.le_of_ble_eq_true rfl) dX10_pass_20 (fun H locs hV => ?_)
        refine lv_if_eq (tgt := 39) hx hb dX10_pass_23 (by decide) (fun hc => ?_) (fun hc => ?_)
        · have h := ifp hc h
          cases h
          exact hF1 rfl _ _ _ hV (lv_sub hl [] rfl)
        · have h := ifn hc h
          refine lv_aload_n hx hb dX10_pass_26 rfl (lv_at hl 0 rfl) ?_
          refine lv_dup hx hb dX10_pass_27 rfl ?_
          refine G_X10_at cx hV mk_6_101 dX10_pass_28 ?_
          refine lv_iconst (v := 1) hx hb dX10_pass_31 (by decide) ?_
          refine lv_iadd hx hb dX10_pass_32 ?_
          refine bd_e h (fun σ4 hq h => ?_)
          refine P_X10_at cx hV hq mk_6_101 dX10_pass_33 (fun H locs hV => ?_)
          refine lv_goto (tgt := 0) hx hb dX10_pass_36 (by decide) ?_
          cases h
          exact hT1 rfl _ _ _ hV (lv_sub hl [0] rfl)
    · have hV : AtW E (wM E σ5 ++ X) A s H locs := hV
      have hl : lv_has ls 1 [] := hl
      have h1 := Option.some.inj h
      subst h1
      subst hQ
      exact r_vret cx hr hlk hV dX10_pass_39
  rw [hH, hlocs] at goal
  exact goal
theorem k_X10_pass {p : Program} {l : Launch} {e : Env} {R : Room} {s : State} {m : MethodId} {a : Array Value} {below : List Frame} {meth : Method} {c : Code} {H : Heap} {locs : List Loc} {cells slots : Nat} {Q : State → Prop} {cc : ByteArray} {own : String} {nL pc : Nat} {ls : Array Slot} {rest : List Value} {A : Nat → Prop} {E : EV} {X : va_W} {σ : St} {σf : St} (h : x_X10_pass σ = some σf) (cx : CallFix p m c cc nL s a TBL own) (hV : AtW E (wM E σ ++ X) A s H locs) {idx : Nat} (w1 : Cond.methodLink own idx yX10_pass ∈ TBL) (hR : (rm_X10_pass).frames + 1 ≤ R.frames ∧ 8 + (1 + 11) + (rm_X10_pass).locals ≤ R.locals) (hcs : cells ≤ R.cells ∧ slots ≤ R.slots) (hls : ls.size = nL) (hcat : (rest.map fun v => v.category).sum ≤ 8) (d : decode cc pc = .ok (.invokevirtual idx, 3)) (kk : ∀ (H1 : Heap) (locs1 : List Loc), AtW E (wM E σf ++ X) A s H1 locs1 → W p l e R s m a below meth c H1 locs1 cells slots Q (F0 m (pc + 3) ls (rest))) : W p l e R s m a below meth c H locs cells slots Q (F0 m pc ls (.ref (eA E 0) :: rest)) :=
  r_callv (n := 0) (As := []) (q0 := 0) (ci := 10) (qq := (RX10, TX10, 64)) (c_X10_pass h) wM_fst rfl rfl mk_7_112 mk_P_69 mk_1_11 mk_7_113 (by decide +kernel) rfl ⟨rfl, rfl⟩ cx hV w1 hR hcs hls rfl hcat d kk
def x_X10_readNumber_b126 (w1 : Int32) (σ2 : St) : Option (Int32 × St) :=
  bd (x_X10_wrong 2 w1 σ2) fun σ3 =>
  some (0, σ3)
def x_X10_readNumber_b41_99 (p1 : Int32) (p2 : Int32) (w8 : Int32) (w11 : Int32) (σ12 : St) : Option (Bool × (Int32 × St)) :=
  bd (some (sI σ12 3 ((gI σ12 3) + 1))) fun σ13 =>
  some (true, (w11, σ13))
def x_X10_readNumber_L41 (p1 : Int32) (p2 : Int32) (w8 : Int32) (u9 : Int32) (σ10 : St) : Option (Bool × (Int32 × St)) :=
  (if (gI σ10 2) ≤ (gI σ10 3) then
  some (false, (u9, σ10))
  else
  bd (ldI (gA σ10 1) (lenM 1) (gI σ10 3)) fun v14 =>
  bd (x_X10_isDigit v14) fun v15 =>
  (if v15 = 0 then
  some (false, (u9, σ10))
  else
  (if u9 ≤ 9999 then
  bd (ldI (gA σ10 1) (lenM 1) (gI σ10 3)) fun v16 =>
  x_X10_readNumber_b41_99 p1 p2 w8 (((10 * u9) + v16) - 48) σ10
  else
  x_X10_readNumber_b41_99 p1 p2 w8 10000 σ10)))
def x_X10_readNumber (p1 : Int32) (p2 : Int32) (σ : St) : Option (Int32 × St) :=
  bd (x_X10_fine σ) fun v4 =>
  (if v4 = 0 then
  some (0, σ)
  else
  bd2 (x_X10_here σ) fun v5 σ6 =>
  bd (x_X10_isDigit v5) fun v7 =>
  (if v7 = 0 then
  bd (x_X10_wrong 1 (gI σ6 3) σ6) fun σ19 =>
  some (0, σ19)
  else
  bd (some (gI σ6 3)) fun w8 =>
  bd2 (lp (fun v : (Int32 × St) => x_X10_readNumber_L41 p1 p2 w8 v.1 v.2) FU (0, σ6)) fun z17 σ18 =>
  (if z17 < p1 then
  x_X10_readNumber_b126 w8 σ18
  else
  (if z17 ≤ p2 then
  some (z17, σ18)
  else
  x_X10_readNumber_b126 w8 σ18))))
abbrev rm_X10_readNumber : Room := { frames := 1, cells := 0, slots := 0, locals := 22 }
set_option maxHeartbeats 4000000 in
set_option maxRecDepth 100000 in
theorem c_X10_readNumber {l : Launch} {E : EV} {X : va_W} {σ : St} {p1 : Int32} {p2 : Int32} {rv : Int32} {σf : St} (h : x_X10_readNumber p1 p2 σ = some (rv, σf)) : CM l yX10_readNumber cX10_readNumber 6 (some .int) rm_X10_readNumber [.ref (eA E 0), .int p1, .int p2] E (wM E σ ++ X) (wM E σf ++ X) (qI rv) := by
  refine CM.start (by decide) (Nat.le_of_ble_eq_true rfl) (fun p e s m a below meth c A ls cx hr hlk hV hl => ?_)
  have cx : CallFix p m c cX10_readNumber 6 s a TBL RX10 := cx
  have hx := cx.1
  have hb := cx.2.1
  have hl : lv_has ls 6 [(0, .ref (eA E 0)), (1, .int p1), (2, .int p2)] := hl
  generalize hQ : EQ E (wM E σf ++ X) (qI rv) A s a below = QQ
  obtain ⟨H, hH⟩ : ∃ H, H = s.heap := ⟨_, rfl⟩
  obtain ⟨locs, hlocs⟩ : ∃ z, z = ([] : List Loc) := ⟨_, rfl⟩
  have hV : AtW E (wM E σ ++ X) A s H locs := by rw [hH, hlocs]; exact hV
  have goal : W p l e rm_X10_readNumber s m a below meth c H locs 0 0 QQ (F0 m 0 ls []) := by
    unfold x_X10_readNumber at h
    have hj126 : ∀ (w1 : Int32) (σ2 : St) (H : Heap) (locs : List Loc) (ls : Array Slot), x_X10_readNumber_b126 w1 σ2 = some (rv, σf) → AtW E (wM E σ2 ++ X) A s H locs → lv_has ls 6 [(0, .ref (eA E 0)), (4, .int w1)] → W p l e rm_X10_readNumber s m a below meth c H locs 0 0 QQ (F0 m 126 ls []) := by
      intro w1 σ2 H locs ls h hV hl
      unfold x_X10_readNumber_b126 at h
      refine lv_aload_n hx hb dX10_readNumber_126 rfl (lv_at hl 0 rfl) ?_
      refine lv_iconst (v := 2) hx hb dX10_readNumber_127 (by decide) ?_
      refine lv_iload hx hb dX10_readNumber_128 (lv_at hl 1 rfl) ?_
      refine bd_e h (fun σ3 hq h => ?_)
      refine k_X10_wrong hq cx hV mk_7_106 ⟨Nat.le_of_ble_eq_true rfl, Nat.le_of_ble_eq_true rfl⟩ ⟨Nat.zero_le _, Nat.zero_le _⟩ hl.1 (Nat.le_of_ble_eq_true rfl) dX10_readNumber_130 (fun H locs hV => ?_)
      refine lv_iconst (v := 0) hx hb dX10_readNumber_133 (by decide) ?_
      obtain ⟨h1, h2⟩ := Prod.mk.inj (Option.some.inj h)
      subst h1
      subst h2
      subst hQ
      exact r_ireti cx hr hlk hV dX10_readNumber_134
    refine lv_aload_n hx hb dX10_readNumber_0 rfl (lv_at hl 0 rfl) ?_
    refine bd_e h (fun v4 hq h => ?_)
    refine k_X10_fine hq cx hV mk_7_70 ⟨Nat.le_of_ble_eq_true rfl, Nat.le_of_ble_eq_true rfl⟩ ⟨Nat.zero_le _, Nat.zero_le _⟩ hl.1 (Nat.le_of_ble_eq_true rfl) dX10_readNumber_1 (fun H locs hV => ?_)
    refine lv_if_ne (tgt := 9) hx hb dX10_readNumber_4 (by decide) (fun hc => ?_) (fun hc => ?_)
    · have h := ifn hc h
      refine lv_aload_n hx hb dX10_readNumber_9 rfl (lv_at hl 0 rfl) ?_
      refine bd2_e h (fun v5 σ6 hq h => ?_)
      refine k_X10_here hq cx hV mk_7_78 ⟨Nat.le_of_ble_eq_true rfl, Nat.le_of_ble_eq_true rfl⟩ ⟨Nat.zero_le _, Nat.zero_le _⟩ hl.1 (Nat.le_of_ble_eq_true rfl) dX10_readNumber_10 (fun H locs hV => ?_)
      refine lv_istore_n (lv' := [(3, .int v5), (0, .ref (eA E 0)), (1, .int p1), (2, .int p2)]) hx hb dX10_readNumber_13 rfl hl (by decide) rfl (fun ls hl => ?_)
      refine lv_aload_n hx hb dX10_readNumber_14 rfl (lv_at hl 1 rfl) ?_
      refine G_X10_at cx hV mk_6_101 dX10_readNumber_15 ?_
      refine lv_istore (lv' := [(4, .int (gI σ6 3)), (3, .int v5), (0, .ref (eA E 0)), (1, .int p1), (2, .int p2)]) hx hb dX10_readNumber_18 hl (by decide) rfl (fun ls hl => ?_)
      refine lv_iconst (v := 0) hx hb dX10_readNumber_20 (by decide) ?_
      refine lv_istore (lv' := [(5, .int 0), (4, .int (gI σ6 3)), (3, .int v5), (0, .ref (eA E 0)), (1, .int p1), (2, .int p2)]) hx hb dX10_readNumber_21 hl (by decide) rfl (fun ls hl => ?_)
      refine lv_iload_n hx hb dX10_readNumber_23 rfl (lv_at hl 2 rfl) ?_
      refine bd_e h (fun v7 hq h => ?_)
      refine k_X10_isDigit hq cx hV mk_7_118 ⟨Nat.le_of_ble_eq_true rfl, Nat.le_of_ble_eq_true rfl⟩ ⟨Nat.zero_le _, Nat.zero_le _⟩ hl.1 (Nat.le_of_ble_eq_true rfl) dX10_readNumber_24 (fun H locs hV => ?_)
      refine lv_if_ne (tgt := 41) hx hb dX10_readNumber_27 (by decide) (fun hc => ?_) (fun hc => ?_)
      · have h := ifn hc h
        refine bd_e h (fun w8 hq h => ?_)
        have hq := Option.some.inj hq
        have hl : lv_has ls 6 [(5, .int 0), (4, .int w8), (3, .int v5), (0, .ref (eA E 0)), (1, .int p1), (2, .int p2)] := by rw [← hq]; exact hl
        refine bd2_e h (fun z17 σ18 ho h => ?_)
        refine (lp_rule (G := (fun v : (Int32 × St) => ∀ (H : Heap) (locs : List Loc) (ls : Array Slot), AtW E (wM E v.2 ++ X) A s H locs → lv_has ls 6 [(0, .ref (eA E 0)), (1, .int p1), (2, .int p2), (4, .int w8), (5, .int v.1)] → W p l e rm_X10_readNumber s m a below meth c H locs 0 0 QQ (F0 m 41 ls []))) (K := (fun v : (Int32 × St) => ∀ (H : Heap) (locs : List Loc) (ls : Array Slot), AtW E (wM E v.2 ++ X) A s H locs → lv_has ls 6 [(0, .ref (eA E 0)), (1, .int p1), (2, .int p2), (4, .int w8), (5, .int v.1)] → W p l e rm_X10_readNumber s m a below meth c H locs 0 0 QQ (F0 m 114 ls []))) (fun v b1 y1 h hT1 hF1 => ?_) ho (fun H locs ls hV hl => ?_)) _ _ _ hV (lv_sub hl [3, 4, 5, 1, 0] rfl)
        · have hj41_99 : ∀ (w11 : Int32) (σ12 : St) (H : Heap) (locs : List Loc) (ls : Array Slot), x_X10_readNumber_b41_99 p1 p2 w8 w11 σ12 = some (b1, y1) → AtW E (wM E σ12 ++ X) A s H locs → lv_has ls 6 [(0, .ref (eA E 0)), (1, .int p1), (2, .int p2), (4, .int w8)] → W p l e rm_X10_readNumber s m a below meth c H locs 0 0 QQ (F0 m 99 ls [.int w11]) := by
            intro w11 σ12 H locs ls h hV hl
            unfold x_X10_readNumber_b41_99 at h
            refine lv_istore (lv' := [(5, .int w11), (0, .ref (eA E 0)), (1, .int p1), (2, .int p2), (4, .int w8)]) hx hb dX10_readNumber_99 hl (by decide) rfl (fun ls hl => ?_)
            refine lv_aload_n hx hb dX10_readNumber_101 rfl (lv_at hl 1 rfl) ?_
            refine lv_dup hx hb dX10_readNumber_102 rfl ?_
            refine G_X10_at cx hV mk_6_101 dX10_readNumber_103 ?_
            refine lv_iconst (v := 1) hx hb dX10_readNumber_106 (by decide) ?_
            refine lv_iadd hx hb dX10_readNumber_107 ?_
            refine bd_e h (fun σ13 hq h => ?_)
            refine P_X10_at cx hV hq mk_6_101 dX10_readNumber_108 (fun H locs hV => ?_)
            refine lv_goto (tgt := 41) hx hb dX10_readNumber_111 (by decide) ?_
            cases h
            exact hT1 rfl _ _ _ hV (lv_sub hl [1, 2, 3, 4, 0] rfl)
          obtain ⟨u9, σ10⟩ := v
          have h : x_X10_readNumber_L41 p1 p2 w8 u9 σ10 = some (b1, y1) := h
          intro H locs ls hV hl
          have hV : AtW E (wM E σ10 ++ X) A s H locs := hV
          have hl : lv_has ls 6 [(0, .ref (eA E 0)), (1, .int p1), (2, .int p2), (4, .int w8), (5, .int u9)] := hl
          unfold x_X10_readNumber_L41 at h
          refine lv_aload_n hx hb dX10_readNumber_41 rfl (lv_at hl 0 rfl) ?_
          refine G_X10_at cx hV mk_6_101 dX10_readNumber_42 ?_
          refine lv_aload_n hx hb dX10_readNumber_45 rfl (lv_at hl 0 rfl) ?_
          refine G_X10_size cx hV mk_6_100 dX10_readNumber_46 ?_
          refine lv_icmp_ge (tgt := 114) hx hb dX10_readNumber_49 (by decide) (fun hc => ?_) (fun hc => ?_)
          · have h := ifp hc h
            cases h
            exact hF1 rfl _ _ _ hV (lv_sub hl [0, 1, 2, 3, 4] rfl)
          · have h := ifn hc h
            refine lv_aload_n hx hb dX10_readNumber_52 rfl (lv_at hl 0 rfl) ?_
            refine G_X10_tape cx hV mk_6_106 dX10_readNumber_53 ?_
            refine lv_aload_n hx hb dX10_readNumber_56 rfl (lv_at hl 0 rfl) ?_
            refine G_X10_at cx hV mk_6_101 dX10_readNumber_57 ?_
            refine bd_e h (fun v14 hq h => ?_)
            refine R_M_iald cx hV (by decide) hq dX10_readNumber_60 ?_
            refine bd_e h (fun v15 hq h => ?_)
            refine k_X10_isDigit hq cx hV mk_7_118 ⟨Nat.le_of_ble_eq_true rfl, Nat.le_of_ble_eq_true rfl⟩ ⟨Nat.zero_le _, Nat.zero_le _⟩ hl.1 (Nat.le_of_ble_eq_true rfl) dX10_readNumber_61 (fun H locs hV => ?_)
            refine lv_if_eq (tgt := 114) hx hb dX10_readNumber_64 (by decide) (fun hc => ?_) (fun hc => ?_)
            · have h := ifp hc h
              cases h
              exact hF1 rfl _ _ _ hV (lv_sub hl [0, 1, 2, 3, 4] rfl)
            · have h := ifn hc h
              refine lv_iload hx hb dX10_readNumber_67 (lv_at hl 4 rfl) ?_
              refine lv_sipush (v := 9999) hx hb dX10_readNumber_69 (by decide) ?_
              refine lv_icmp_le (tgt := 81) hx hb dX10_readNumber_72 (by decide) (fun hc => ?_) (fun hc => ?_)
              · have h := ifp hc h
                refine lv_bipush (v := 10) hx hb dX10_readNumber_81 (by decide) ?_
                refine lv_iload hx hb dX10_readNumber_83 (lv_at hl 4 rfl) ?_
                refine lv_imul hx hb dX10_readNumber_85 ?_
                refine lv_aload_n hx hb dX10_readNumber_86 rfl (lv_at hl 0 rfl) ?_
                refine G_X10_tape cx hV mk_6_106 dX10_readNumber_87 ?_
                refine lv_aload_n hx hb dX10_readNumber_90 rfl (lv_at hl 0 rfl) ?_
                refine G_X10_at cx hV mk_6_101 dX10_readNumber_91 ?_
                refine bd_e h (fun v16 hq h => ?_)
                refine R_M_iald cx hV (by decide) hq dX10_readNumber_94 ?_
                refine lv_iadd hx hb dX10_readNumber_95 ?_
                refine lv_bipush (v := 48) hx hb dX10_readNumber_96 (by decide) ?_
                refine lv_isub hx hb dX10_readNumber_98 ?_
                exact hj41_99 (((10 * u9) + v16) - 48) σ10 _ _ _ h hV (lv_sub hl [0, 1, 2, 3] rfl)
              · have h := ifn hc h
                refine lv_sipush (v := 10000) hx hb dX10_readNumber_75 (by decide) ?_
                refine lv_goto (tgt := 99) hx hb dX10_readNumber_78 (by decide) ?_
                exact hj41_99 10000 σ10 _ _ _ h hV (lv_sub hl [0, 1, 2, 3] rfl)
        · have hV : AtW E (wM E σ18 ++ X) A s H locs := hV
          have hl : lv_has ls 6 [(0, .ref (eA E 0)), (1, .int p1), (2, .int p2), (4, .int w8), (5, .int z17)] := hl
          refine lv_iload hx hb dX10_readNumber_114 (lv_at hl 4 rfl) ?_
          refine lv_iload_n hx hb dX10_readNumber_116 rfl (lv_at hl 1 rfl) ?_
          refine lv_icmp_lt (tgt := 126) hx hb dX10_readNumber_117 (by decide) (fun hc => ?_) (fun hc => ?_)
          · have h := ifp hc h
            exact hj126 w8 σ18 _ _ _ h hV (lv_sub hl [0, 3] rfl)
          · have h := ifn hc h
            refine lv_iload hx hb dX10_readNumber_120 (lv_at hl 4 rfl) ?_
            refine lv_iload_n hx hb dX10_readNumber_122 rfl (lv_at hl 2 rfl) ?_
            refine lv_icmp_le (tgt := 135) hx hb dX10_readNumber_123 (by decide) (fun hc => ?_) (fun hc => ?_)
            · have h := ifp hc h
              refine lv_iload hx hb dX10_readNumber_135 (lv_at hl 4 rfl) ?_
              obtain ⟨h1, h2⟩ := Prod.mk.inj (Option.some.inj h)
              subst h1
              subst h2
              subst hQ
              exact r_ireti cx hr hlk hV dX10_readNumber_137
            · have h := ifn hc h
              exact hj126 w8 σ18 _ _ _ h hV (lv_sub hl [0, 3] rfl)
      · have h := ifp hc h
        refine lv_aload_n hx hb dX10_readNumber_30 rfl (lv_at hl 3 rfl) ?_
        refine lv_iconst (v := 1) hx hb dX10_readNumber_31 (by decide) ?_
        refine lv_aload_n hx hb dX10_readNumber_32 rfl (lv_at hl 3 rfl) ?_
        refine G_X10_at cx hV mk_6_101 dX10_readNumber_33 ?_
        refine bd_e h (fun σ19 hq h => ?_)
        refine k_X10_wrong hq cx hV mk_7_106 ⟨Nat.le_of_ble_eq_true rfl, Nat.le_of_ble_eq_true rfl⟩ ⟨Nat.zero_le _, Nat.zero_le _⟩ hl.1 (Nat.le_of_ble_eq_true rfl) dX10_readNumber_36 (fun H locs hV => ?_)
        refine lv_iconst (v := 0) hx hb dX10_readNumber_39 (by decide) ?_
        obtain ⟨h1, h2⟩ := Prod.mk.inj (Option.some.inj h)
        subst h1
        subst h2
        subst hQ
        exact r_ireti cx hr hlk hV dX10_readNumber_40
    · have h := ifp hc h
      refine lv_iconst (v := 0) hx hb dX10_readNumber_7 (by decide) ?_
      obtain ⟨h1, h2⟩ := Prod.mk.inj (Option.some.inj h)
      subst h1
      subst h2
      subst hQ
      exact r_ireti cx hr hlk hV dX10_readNumber_8
  rw [hH, hlocs] at goal
  exact goal
theorem k_X10_readNumber {p : Program} {l : Launch} {e : Env} {R : Room} {s : State} {m : MethodId} {a : Array Value} {below : List Frame} {meth : Method} {c : Code} {H : Heap} {locs : List Loc} {cells slots : Nat} {Q : State → Prop} {cc : ByteArray} {own : String} {nL pc : Nat} {ls : Array Slot} {rest : List Value} {A : Nat → Prop} {E : EV} {X : va_W} {σ : St} {p1 : Int32} {p2 : Int32} {rv : Int32} {σf : St} (h : x_X10_readNumber p1 p2 σ = some (rv, σf)) (cx : CallFix p m c cc nL s a TBL own) (hV : AtW E (wM E σ ++ X) A s H locs) {idx : Nat} (w1 : Cond.methodLink own idx yX10_readNumber ∈ TBL) (hR : (rm_X10_readNumber).frames + 1 ≤ R.frames ∧ 8 + (6 + 11) + (rm_X10_readNumber).locals ≤ R.locals) (hcs : cells ≤ R.cells ∧ slots ≤ R.slots) (hls : ls.size = nL) (hcat : (rest.map fun v => v.category).sum ≤ 8) (d : decode cc pc = .ok (.invokevirtual idx, 3)) (kk : ∀ (H1 : Heap) (locs1 : List Loc), AtW E (wM E σf ++ X) A s H1 locs1 → W p l e R s m a below meth c H1 locs1 cells slots Q (F0 m (pc + 3) ls (.int rv :: rest))) : W p l e R s m a below meth c H locs cells slots Q (F0 m pc ls (.int p2 :: .int p1 :: .ref (eA E 0) :: rest)) :=
  r_calli (n := 2) (As := [.int p1, .int p2]) (q0 := 0) (ci := 10) (qq := (RX10, TX10, 64)) (c_X10_readNumber h) wM_fst rfl rfl mk_7_116 mk_P_70 mk_1_11 mk_7_117 (by decide +kernel) rfl ⟨rfl, rfl⟩ cx hV w1 hR hcs hls rfl hcat d kk
def x_X10_sign_b24 (σ1 : St) : Option St :=
  bd (x_X10_fine σ1) fun v2 =>
  (if v2 = 0 then
  some σ1
  else
  bd (some (sI σ1 3 ((gI σ1 3) + 1))) fun σ3 =>
  some σ3)
def x_X10_sign (p1 : Int32) (σ : St) : Option St :=
  bd (x_X10_fine σ) fun v4 =>
  (if v4 = 0 then
  x_X10_sign_b24 σ
  else
  bd2 (x_X10_here σ) fun v5 σ6 =>
  (if v5 = p1 then
  x_X10_sign_b24 σ6
  else
  bd (x_X10_wrong 1 (gI σ6 3) σ6) fun σ7 =>
  x_X10_sign_b24 σ7))
abbrev rm_X10_sign : Room := { frames := 1, cells := 0, slots := 0, locals := 22 }
set_option maxHeartbeats 4000000 in
set_option maxRecDepth 100000 in
theorem c_X10_sign {l : Launch} {E : EV} {X : va_W} {σ : St} {p1 : Int32} {σf : St} (h : x_X10_sign p1 σ = some σf) : CM l yX10_sign cX10_sign 2 none rm_X10_sign [.ref (eA E 0), .int p1] E (wM E σ ++ X) (wM E σf ++ X) qV := by
  refine CM.start (by decide) (Nat.le_of_ble_eq_true rfl) (fun p e s m a below meth c A ls cx hr hlk hV hl => ?_)
  have cx : CallFix p m c cX10_sign 2 s a TBL RX10 := cx
  have hx := cx.1
  have hb := cx.2.1
  have hl : lv_has ls 2 [(0, .ref (eA E 0)), (1, .int p1)] := hl
  generalize hQ : EQ E (wM E σf ++ X) qV A s a below = QQ
  obtain ⟨H, hH⟩ : ∃ H, H = s.heap := ⟨_, rfl⟩
  obtain ⟨locs, hlocs⟩ : ∃ z, z = ([] : List Loc) := ⟨_, rfl⟩
  have hV : AtW E (wM E σ ++ X) A s H locs := by rw [hH, hlocs]; exact hV
  have goal : W p l e rm_X10_sign s m a below meth c H locs 0 0 QQ (F0 m 0 ls []) := by
    unfold x_X10_sign at h
    have hj24 : ∀ (σ1 : St) (H : Heap) (locs : List Loc) (ls : Array Slot), x_X10_sign_b24 σ1 = some σf → AtW E (wM E σ1 ++ X) A s H locs → lv_has ls 2 [(0, .ref (eA E 0))] → W p l e rm_X10_sign s m a below meth c H locs 0 0 QQ (F0 m 24 ls []) := by
      intro σ1 H locs ls h hV hl
      unfold x_X10_sign_b24 at h
      refine lv_aload_n hx hb dX10_sign_24 rfl (lv_at hl 0 rfl) ?_
      refine bd_e h (fun v2 hq h => ?_)
      refine k_X10_fine hq cx hV mk_7_70 ⟨Nat.le_of_ble_eq_true rfl, Nat.le_of_ble_eq_true rfl⟩ ⟨Nat.zero_le _, Nat.zero_le _⟩ hl.1 (Nat.le_of_ble_eq_true rfl) dX10_sign_25 (fun H locs hV => ?_)
      refine lv_if_eq (tgt := 41) hx hb dX10_sign_28 (by decide) (fun hc => ?_) (fun hc => ?_)
      · have h := ifp hc h
        have h1 := Option.some.inj h
        subst h1
        subst hQ
        exact r_vret cx hr hlk hV dX10_sign_41
      · have h := ifn hc h
        refine lv_aload_n hx hb dX10_sign_31 rfl (lv_at hl 0 rfl) ?_
        refine lv_dup hx hb dX10_sign_32 rfl ?_
        refine G_X10_at cx hV mk_6_101 dX10_sign_33 ?_
        refine lv_iconst (v := 1) hx hb dX10_sign_36 (by decide) ?_
        refine lv_iadd hx hb dX10_sign_37 ?_
        refine bd_e h (fun σ3 hq h => ?_)
        refine P_X10_at cx hV hq mk_6_101 dX10_sign_38 (fun H locs hV => ?_)
        have h1 := Option.some.inj h
        subst h1
        subst hQ
        exact r_vret cx hr hlk hV dX10_sign_41
    refine lv_aload_n hx hb dX10_sign_0 rfl (lv_at hl 0 rfl) ?_
    refine bd_e h (fun v4 hq h => ?_)
    refine k_X10_fine hq cx hV mk_7_70 ⟨Nat.le_of_ble_eq_true rfl, Nat.le_of_ble_eq_true rfl⟩ ⟨Nat.zero_le _, Nat.zero_le _⟩ hl.1 (Nat.le_of_ble_eq_true rfl) dX10_sign_1 (fun H locs hV => ?_)
    refine lv_if_eq (tgt := 24) hx hb dX10_sign_4 (by decide) (fun hc => ?_) (fun hc => ?_)
    · have h := ifp hc h
      exact hj24 σ _ _ _ h hV (lv_sub hl [0] rfl)
    · have h := ifn hc h
      refine lv_aload_n hx hb dX10_sign_7 rfl (lv_at hl 0 rfl) ?_
      refine bd2_e h (fun v5 σ6 hq h => ?_)
      refine k_X10_here hq cx hV mk_7_78 ⟨Nat.le_of_ble_eq_true rfl, Nat.le_of_ble_eq_true rfl⟩ ⟨Nat.zero_le _, Nat.zero_le _⟩ hl.1 (Nat.le_of_ble_eq_true rfl) dX10_sign_8 (fun H locs hV => ?_)
      refine lv_iload_n hx hb dX10_sign_11 rfl (lv_at hl 1 rfl) ?_
      refine lv_icmp_eq (tgt := 24) hx hb dX10_sign_12 (by decide) (fun hc => ?_) (fun hc => ?_)
      · have h := ifp hc h
        exact hj24 σ6 _ _ _ h hV (lv_sub hl [0] rfl)
      · have h := ifn hc h
        refine lv_aload_n hx hb dX10_sign_15 rfl (lv_at hl 0 rfl) ?_
        refine lv_iconst (v := 1) hx hb dX10_sign_16 (by decide) ?_
        refine lv_aload_n hx hb dX10_sign_17 rfl (lv_at hl 0 rfl) ?_
        refine G_X10_at cx hV mk_6_101 dX10_sign_18 ?_
        refine bd_e h (fun σ7 hq h => ?_)
        refine k_X10_wrong hq cx hV mk_7_106 ⟨Nat.le_of_ble_eq_true rfl, Nat.le_of_ble_eq_true rfl⟩ ⟨Nat.zero_le _, Nat.zero_le _⟩ hl.1 (Nat.le_of_ble_eq_true rfl) dX10_sign_21 (fun H locs hV => ?_)
        exact hj24 σ7 _ _ _ h hV (lv_sub hl [0] rfl)
  rw [hH, hlocs] at goal
  exact goal
theorem k_X10_sign {p : Program} {l : Launch} {e : Env} {R : Room} {s : State} {m : MethodId} {a : Array Value} {below : List Frame} {meth : Method} {c : Code} {H : Heap} {locs : List Loc} {cells slots : Nat} {Q : State → Prop} {cc : ByteArray} {own : String} {nL pc : Nat} {ls : Array Slot} {rest : List Value} {A : Nat → Prop} {E : EV} {X : va_W} {σ : St} {p1 : Int32} {σf : St} (h : x_X10_sign p1 σ = some σf) (cx : CallFix p m c cc nL s a TBL own) (hV : AtW E (wM E σ ++ X) A s H locs) {idx : Nat} (w1 : Cond.methodLink own idx yX10_sign ∈ TBL) (hR : (rm_X10_sign).frames + 1 ≤ R.frames ∧ 8 + (2 + 11) + (rm_X10_sign).locals ≤ R.locals) (hcs : cells ≤ R.cells ∧ slots ≤ R.slots) (hls : ls.size = nL) (hcat : (rest.map fun v => v.category).sum ≤ 8) (d : decode cc pc = .ok (.invokevirtual idx, 3)) (kk : ∀ (H1 : Heap) (locs1 : List Loc), AtW E (wM E σf ++ X) A s H1 locs1 → W p l e R s m a below meth c H1 locs1 cells slots Q (F0 m (pc + 3) ls (rest))) : W p l e R s m a below meth c H locs cells slots Q (F0 m pc ls (.int p1 :: .ref (eA E 0) :: rest)) :=
  r_callv (n := 1) (As := [.int p1]) (q0 := 0) (ci := 10) (qq := (RX10, TX10, 64)) (c_X10_sign h) wM_fst rfl rfl mk_7_131 mk_P_73 mk_1_11 mk_7_132 (by decide +kernel) rfl ⟨rfl, rfl⟩ cx hV w1 hR hcs hls rfl hcat d kk
def x_X10_isMore (σ : St) : Option (Int32 × St) :=
  bd2 (x_X10_here σ) fun v1 σ2 =>
  (if (gI σ2 2) ≤ (gI σ2 3) then
  some (0, σ2)
  else
  some (1, σ2))
abbrev rm_X10_isMore : Room := { frames := 1, cells := 0, slots := 0, locals := 20 }
set_option maxHeartbeats 4000000 in
set_option maxRecDepth 100000 in
theorem c_X10_isMore {l : Launch} {E : EV} {X : va_W} {σ : St} {rv : Int32} {σf : St} (h : x_X10_isMore σ = some (rv, σf)) : CM l yX10_isMore cX10_isMore 1 (some .boolean) rm_X10_isMore [.ref (eA E 0)] E (wM E σ ++ X) (wM E σf ++ X) (qI rv) := by
  refine CM.start (by decide) (Nat.le_of_ble_eq_true rfl) (fun p e s m a below meth c A ls cx hr hlk hV hl => ?_)
  have cx : CallFix p m c cX10_isMore 1 s a TBL RX10 := cx
  have hx := cx.1
  have hb := cx.2.1
  have hl : lv_has ls 1 [(0, .ref (eA E 0))] := hl
  generalize hQ : EQ E (wM E σf ++ X) (qI rv) A s a below = QQ
  obtain ⟨H, hH⟩ : ∃ H, H = s.heap := ⟨_, rfl⟩
  obtain ⟨locs, hlocs⟩ : ∃ z, z = ([] : List Loc) := ⟨_, rfl⟩
  have hV : AtW E (wM E σ ++ X) A s H locs := by rw [hH, hlocs]; exact hV
  have goal : W p l e rm_X10_isMore s m a below meth c H locs 0 0 QQ (F0 m 0 ls []) := by
    unfold x_X10_isMore at h
    refine lv_aload_n hx hb dX10_isMore_0 rfl (lv_at hl 0 rfl) ?_
    refine bd2_e h (fun v1 σ2 hq h => ?_)
    refine k_X10_here hq cx hV mk_7_78 ⟨Nat.le_of_ble_eq_true rfl, Nat.le_of_ble_eq_true rfl⟩ ⟨Nat.zero_le _, Nat.zero_le _⟩ hl.1 (Nat.le_of_ble_eq_true rfl) dX10_isMore_1 (fun H locs hV => ?_)
    refine lv_pop hx hb dX10_isMore_4 rfl ?_
    refine lv_aload_n hx hb dX10_isMore_5 rfl (lv_at hl 0 rfl) ?_
    refine G_X10_at cx hV mk_6_101 dX10_isMore_6 ?_
    refine lv_aload_n hx hb dX10_isMore_9 rfl (lv_at hl 0 rfl) ?_
    refine G_X10_size cx hV mk_6_100 dX10_isMore_10 ?_
    refine lv_icmp_ge (tgt := 20) hx hb dX10_isMore_13 (by decide) (fun hc => ?_) (fun hc => ?_)
    · have h := ifp hc h
      refine lv_iconst (v := 0) hx hb dX10_isMore_20 (by decide) ?_
      obtain ⟨h1, h2⟩ := Prod.mk.inj (Option.some.inj h)
      subst h1
      subst h2
      subst hQ
      exact r_zreti cx hr hlk hV (Or.inl rfl) dX10_isMore_21
    · have h := ifn hc h
      refine lv_iconst (v := 1) hx hb dX10_isMore_16 (by decide) ?_
      refine lv_goto (tgt := 21) hx hb dX10_isMore_17 (by decide) ?_
      obtain ⟨h1, h2⟩ := Prod.mk.inj (Option.some.inj h)
      subst h1
      subst h2
      subst hQ
      exact r_zreti cx hr hlk hV (Or.inr rfl) dX10_isMore_21
  rw [hH, hlocs] at goal
  exact goal
theorem k_X10_isMore {p : Program} {l : Launch} {e : Env} {R : Room} {s : State} {m : MethodId} {a : Array Value} {below : List Frame} {meth : Method} {c : Code} {H : Heap} {locs : List Loc} {cells slots : Nat} {Q : State → Prop} {cc : ByteArray} {own : String} {nL pc : Nat} {ls : Array Slot} {rest : List Value} {A : Nat → Prop} {E : EV} {X : va_W} {σ : St} {rv : Int32} {σf : St} (h : x_X10_isMore σ = some (rv, σf)) (cx : CallFix p m c cc nL s a TBL own) (hV : AtW E (wM E σ ++ X) A s H locs) {idx : Nat} (w1 : Cond.methodLink own idx yX10_isMore ∈ TBL) (hR : (rm_X10_isMore).frames + 1 ≤ R.frames ∧ 8 + (1 + 11) + (rm_X10_isMore).locals ≤ R.locals) (hcs : cells ≤ R.cells ∧ slots ≤ R.slots) (hls : ls.size = nL) (hcat : (rest.map fun v => v.category).sum ≤ 8) (d : decode cc pc = .ok (.invokevirtual idx, 3)) (kk : ∀ (H1 : Heap) (locs1 : List Loc), AtW E (wM E σf ++ X) A s H1 locs1 → W p l e R s m a below meth c H1 locs1 cells slots Q (F0 m (pc + 3) ls (.int rv :: rest))) : W p l e R s m a below meth c H locs cells slots Q (F0 m pc ls (.ref (eA E 0) :: rest)) :=
  r_calli (n := 0) (As := []) (q0 := 0) (ci := 10) (qq := (RX10, TX10, 64)) (c_X10_isMore h) wM_fst rfl rfl mk_7_76 mk_P_65 mk_1_11 mk_7_77 (by decide +kernel) rfl ⟨rfl, rfl⟩ cx hV w1 hR hcs hls rfl hcat d kk
def x_X10_begins (p1 : Int32) (σ : St) : Option St :=
  bd (some (sI σ 1 0)) fun σ1 =>
  bd (some (sI σ1 7 (-1))) fun σ2 =>
  bd (some (sI σ2 2 p1)) fun σ3 =>
  bd (some (sI σ3 3 0)) fun σ4 =>
  bd (some (sI σ4 4 (-1))) fun σ5 =>
  bd (some (sI σ5 6 0)) fun σ6 =>
  some σ6
abbrev rm_X10_begins : Room := { frames := 0, cells := 0, slots := 0, locals := 0 }
set_option maxHeartbeats 4000000 in
set_option maxRecDepth 100000 in
theorem c_X10_begins {l : Launch} {E : EV} {X : va_W} {σ : St} {p1 : Int32} {σf : St} (h : x_X10_begins p1 σ = some σf) : CM l yX10_begins cX10_begins 2 none rm_X10_begins [.ref (eA E 0), .int p1] E (wM E σ ++ X) (wM E σf ++ X) qV := by
  refine CM.start (by decide) (Nat.le_of_ble_eq_true rfl) (fun p e s m a below meth c A ls cx hr hlk hV hl => ?_)
  have cx : CallFix p m c cX10_begins 2 s a TBL RX10 := cx
  have hx := cx.1
  have hb := cx.2.1
  have hl : lv_has ls 2 [(0, .ref (eA E 0)), (1, .int p1)] := hl
  generalize hQ : EQ E (wM E σf ++ X) qV A s a below = QQ
  obtain ⟨H, hH⟩ : ∃ H, H = s.heap := ⟨_, rfl⟩
  obtain ⟨locs, hlocs⟩ : ∃ z, z = ([] : List Loc) := ⟨_, rfl⟩
  have hV : AtW E (wM E σ ++ X) A s H locs := by rw [hH, hlocs]; exact hV
  have goal : W p l e rm_X10_begins s m a below meth c H locs 0 0 QQ (F0 m 0 ls []) := by
    unfold x_X10_begins at h
    refine lv_aload_n hx hb dX10_begins_0 rfl (lv_at hl 0 rfl) ?_
    refine lv_iconst (v := 0) hx hb dX10_begins_1 (by decide) ?_
    refine bd_e h (fun σ1 hq h => ?_)
    refine P_X10_taped cx hV hq mk_6_99 dX10_begins_2 (fun H locs hV => ?_)
    refine lv_aload_n hx hb dX10_begins_5 rfl (lv_at hl 0 rfl) ?_
    refine lv_iconst (v := (-1)) hx hb dX10_begins_6 (by decide) ?_
    refine bd_e h (fun σ2 hq h => ?_)
    refine P_X10_faultAt cx hV hq mk_6_105 dX10_begins_7 (fun H locs hV => ?_)
    refine lv_aload_n hx hb dX10_begins_10 rfl (lv_at hl 0 rfl) ?_
    refine lv_iload_n hx hb dX10_begins_11 rfl (lv_at hl 1 rfl) ?_
    refine bd_e h (fun σ3 hq h => ?_)
    refine P_X10_size cx hV hq mk_6_100 dX10_begins_12 (fun H locs hV => ?_)
    refine lv_aload_n hx hb dX10_begins_15 rfl (lv_at hl 0 rfl) ?_
    refine lv_iconst (v := 0) hx hb dX10_begins_16 (by decide) ?_
    refine bd_e h (fun σ4 hq h => ?_)
    refine P_X10_at cx hV hq mk_6_101 dX10_begins_17 (fun H locs hV => ?_)
    refine lv_aload_n hx hb dX10_begins_20 rfl (lv_at hl 0 rfl) ?_
    refine lv_iconst (v := (-1)) hx hb dX10_begins_21 (by decide) ?_
    refine bd_e h (fun σ5 hq h => ?_)
    refine P_X10_bad cx hV hq mk_6_102 dX10_begins_22 (fun H locs hV => ?_)
    refine lv_aload_n hx hb dX10_begins_25 rfl (lv_at hl 0 rfl) ?_
    refine lv_iconst (v := 0) hx hb dX10_begins_26 (by decide) ?_
    refine bd_e h (fun σ6 hq h => ?_)
    refine P_X10_opens cx hV hq mk_6_104 dX10_begins_27 (fun H locs hV => ?_)
    have h1 := Option.some.inj h
    subst h1
    subst hQ
    exact r_vret cx hr hlk hV dX10_begins_30
  rw [hH, hlocs] at goal
  exact goal
theorem k_X10_begins {p : Program} {l : Launch} {e : Env} {R : Room} {s : State} {m : MethodId} {a : Array Value} {below : List Frame} {meth : Method} {c : Code} {H : Heap} {locs : List Loc} {cells slots : Nat} {Q : State → Prop} {cc : ByteArray} {own : String} {nL pc : Nat} {ls : Array Slot} {rest : List Value} {A : Nat → Prop} {E : EV} {X : va_W} {σ : St} {p1 : Int32} {σf : St} (h : x_X10_begins p1 σ = some σf) (cx : CallFix p m c cc nL s a TBL own) (hV : AtW E (wM E σ ++ X) A s H locs) {idx : Nat} (w1 : Cond.methodLink own idx yX10_begins ∈ TBL) (hR : (rm_X10_begins).frames + 1 ≤ R.frames ∧ 8 + (2 + 11) + (rm_X10_begins).locals ≤ R.locals) (hcs : cells ≤ R.cells ∧ slots ≤ R.slots) (hls : ls.size = nL) (hcat : (rest.map fun v => v.category).sum ≤ 8) (d : decode cc pc = .ok (.invokevirtual idx, 3)) (kk : ∀ (H1 : Heap) (locs1 : List Loc), AtW E (wM E σf ++ X) A s H1 locs1 → W p l e R s m a below meth c H1 locs1 cells slots Q (F0 m (pc + 3) ls (rest))) : W p l e R s m a below meth c H locs cells slots Q (F0 m pc ls (.int p1 :: .ref (eA E 0) :: rest)) :=
  r_callv (n := 1) (As := [.int p1]) (q0 := 0) (ci := 10) (qq := (RX10, TX10, 64)) (c_X10_begins h) wM_fst rfl rfl mk_7_68 mk_P_63 mk_1_11 mk_7_69 (by decide +kernel) rfl ⟨rfl, rfl⟩ cx hV w1 hR hcs hls rfl hcat d kk
def x_X10_result (p1 : Int32) (σ : St) : Option (Int32 × St) :=
  bd (some (sI σ 7 (gI σ 4))) fun σ1 =>
  bd (x_X10_fine σ1) fun v2 =>
  (if v2 = 0 then
  some (((gI σ1 5) - 10), σ1)
  else
  some (p1, σ1))
abbrev rm_X10_result : Room := { frames := 1, cells := 0, slots := 0, locals := 20 }
set_option maxHeartbeats 4000000 in
set_option maxRecDepth 100000 in
theorem c_X10_result {l : Launch} {E : EV} {X : va_W} {σ : St} {p1 : Int32} {rv : Int32} {σf : St} (h : x_X10_result p1 σ = some (rv, σf)) : CM l yX10_result cX10_result 2 (some .int) rm_X10_result [.ref (eA E 0), .int p1] E (wM E σ ++ X) (wM E σf ++ X) (qI rv) := by
  refine CM.start (by decide) (Nat.le_of_ble_eq_true rfl) (fun p e s m a below meth c A ls cx hr hlk hV hl => ?_)
  have cx : CallFix p m c cX10_result 2 s a TBL RX10 := cx
  have hx := cx.1
  have hb := cx.2.1
  have hl : lv_has ls 2 [(0, .ref (eA E 0)), (1, .int p1)] := hl
  generalize hQ : EQ E (wM E σf ++ X) (qI rv) A s a below = QQ
  obtain ⟨H, hH⟩ : ∃ H, H = s.heap := ⟨_, rfl⟩
  obtain ⟨locs, hlocs⟩ : ∃ z, z = ([] : List Loc) := ⟨_, rfl⟩
  have hV : AtW E (wM E σ ++ X) A s H locs := by rw [hH, hlocs]; exact hV
  have goal : W p l e rm_X10_result s m a below meth c H locs 0 0 QQ (F0 m 0 ls []) := by
    unfold x_X10_result at h
    refine lv_aload_n hx hb dX10_result_0 rfl (lv_at hl 0 rfl) ?_
    refine lv_aload_n hx hb dX10_result_1 rfl (lv_at hl 0 rfl) ?_
    refine G_X10_bad cx hV mk_6_102 dX10_result_2 ?_
    refine bd_e h (fun σ1 hq h => ?_)
    refine P_X10_faultAt cx hV hq mk_6_105 dX10_result_5 (fun H locs hV => ?_)
    refine lv_aload_n hx hb dX10_result_8 rfl (lv_at hl 0 rfl) ?_
    refine bd_e h (fun v2 hq h => ?_)
    refine k_X10_fine hq cx hV mk_7_70 ⟨Nat.le_of_ble_eq_true rfl, Nat.le_of_ble_eq_true rfl⟩ ⟨Nat.zero_le _, Nat.zero_le _⟩ hl.1 (Nat.le_of_ble_eq_true rfl) dX10_result_9 (fun H locs hV => ?_)
    refine lv_if_eq (tgt := 19) hx hb dX10_result_12 (by decide) (fun hc => ?_) (fun hc => ?_)
    · have h := ifp hc h
      refine lv_aload_n hx hb dX10_result_19 rfl (lv_at hl 0 rfl) ?_
      refine G_X10_badKind cx hV mk_6_103 dX10_result_20 ?_
      refine lv_bipush (v := 10) hx hb dX10_result_23 (by decide) ?_
      refine lv_isub hx hb dX10_result_25 ?_
      obtain ⟨h1, h2⟩ := Prod.mk.inj (Option.some.inj h)
      subst h1
      subst h2
      subst hQ
      exact r_ireti cx hr hlk hV dX10_result_26
    · have h := ifn hc h
      refine lv_iload_n hx hb dX10_result_15 rfl (lv_at hl 1 rfl) ?_
      refine lv_goto (tgt := 26) hx hb dX10_result_16 (by decide) ?_
      obtain ⟨h1, h2⟩ := Prod.mk.inj (Option.some.inj h)
      subst h1
      subst h2
      subst hQ
      exact r_ireti cx hr hlk hV dX10_result_26
  rw [hH, hlocs] at goal
  exact goal
theorem k_X10_result {p : Program} {l : Launch} {e : Env} {R : Room} {s : State} {m : MethodId} {a : Array Value} {below : List Frame} {meth : Method} {c : Code} {H : Heap} {locs : List Loc} {cells slots : Nat} {Q : State → Prop} {cc : ByteArray} {own : String} {nL pc : Nat} {ls : Array Slot} {rest : List Value} {A : Nat → Prop} {E : EV} {X : va_W} {σ : St} {p1 : Int32} {rv : Int32} {σf : St} (h : x_X10_result p1 σ = some (rv, σf)) (cx : CallFix p m c cc nL s a TBL own) (hV : AtW E (wM E σ ++ X) A s H locs) {idx : Nat} (w1 : Cond.methodLink own idx yX10_result ∈ TBL) (hR : (rm_X10_result).frames + 1 ≤ R.frames ∧ 8 + (2 + 11) + (rm_X10_result).locals ≤ R.locals) (hcs : cells ≤ R.cells ∧ slots ≤ R.slots) (hls : ls.size = nL) (hcat : (rest.map fun v => v.category).sum ≤ 8) (d : decode cc pc = .ok (.invokevirtual idx, 3)) (kk : ∀ (H1 : Heap) (locs1 : List Loc), AtW E (wM E σf ++ X) A s H1 locs1 → W p l e R s m a below meth c H1 locs1 cells slots Q (F0 m (pc + 3) ls (.int rv :: rest))) : W p l e R s m a below meth c H locs cells slots Q (F0 m pc ls (.int p1 :: .ref (eA E 0) :: rest)) :=
  r_calli (n := 1) (As := [.int p1]) (q0 := 0) (ci := 10) (qq := (RX10, TX10, 64)) (c_X10_result h) wM_fst rfl rfl mk_7_135 mk_P_74 mk_1_11 mk_7_136 (by decide +kernel) rfl ⟨rfl, rfl⟩ cx hV w1 hR hcs hls rfl hcat d kk
def x_X10_fault (σ : St) : Option (Int32 × St) :=
  bd (some (sI σ 0 0)) fun σ1 =>
  some ((gI σ1 7), σ1)
abbrev rm_X10_fault : Room := { frames := 0, cells := 0, slots := 0, locals := 0 }
set_option maxHeartbeats 4000000 in
set_option maxRecDepth 100000 in
theorem c_X10_fault {l : Launch} {E : EV} {X : va_W} {σ : St} {rv : Int32} {σf : St} (h : x_X10_fault σ = some (rv, σf)) : CM l yX10_fault cX10_fault 1 (some .int) rm_X10_fault [.ref (eA E 0)] E (wM E σ ++ X) (wM E σf ++ X) (qI rv) := by
  refine CM.start (by decide) (Nat.le_of_ble_eq_true rfl) (fun p e s m a below meth c A ls cx hr hlk hV hl => ?_)
  have cx : CallFix p m c cX10_fault 1 s a TBL RX10 := cx
  have hx := cx.1
  have hb := cx.2.1
  have hl : lv_has ls 1 [(0, .ref (eA E 0))] := hl
  generalize hQ : EQ E (wM E σf ++ X) (qI rv) A s a below = QQ
  obtain ⟨H, hH⟩ : ∃ H, H = s.heap := ⟨_, rfl⟩
  obtain ⟨locs, hlocs⟩ : ∃ z, z = ([] : List Loc) := ⟨_, rfl⟩
  have hV : AtW E (wM E σ ++ X) A s H locs := by rw [hH, hlocs]; exact hV
  have goal : W p l e rm_X10_fault s m a below meth c H locs 0 0 QQ (F0 m 0 ls []) := by
    unfold x_X10_fault at h
    refine lv_aload_n hx hb dX10_fault_0 rfl (lv_at hl 0 rfl) ?_
    refine lv_iconst (v := 0) hx hb dX10_fault_1 (by decide) ?_
    refine bd_e h (fun σ1 hq h => ?_)
    refine P_X10_thrown cx hV hq mk_6_97 dX10_fault_2 (fun H locs hV => ?_)
    refine lv_aload_n hx hb dX10_fault_5 rfl (lv_at hl 0 rfl) ?_
    refine G_X10_faultAt cx hV mk_6_105 dX10_fault_6 ?_
    obtain ⟨h1, h2⟩ := Prod.mk.inj (Option.some.inj h)
    subst h1
    subst h2
    subst hQ
    exact r_ireti cx hr hlk hV dX10_fault_9
  rw [hH, hlocs] at goal
  exact goal
theorem k_X10_fault {p : Program} {l : Launch} {e : Env} {R : Room} {s : State} {m : MethodId} {a : Array Value} {below : List Frame} {meth : Method} {c : Code} {H : Heap} {locs : List Loc} {cells slots : Nat} {Q : State → Prop} {cc : ByteArray} {own : String} {nL pc : Nat} {ls : Array Slot} {rest : List Value} {A : Nat → Prop} {E : EV} {X : va_W} {σ : St} {rv : Int32} {σf : St} (h : x_X10_fault σ = some (rv, σf)) (cx : CallFix p m c cc nL s a TBL own) (hV : AtW E (wM E σ ++ X) A s H locs) {idx : Nat} (w1 : Cond.methodLink own idx yX10_fault ∈ TBL) (hR : (rm_X10_fault).frames + 1 ≤ R.frames ∧ 8 + (1 + 11) + (rm_X10_fault).locals ≤ R.locals) (hcs : cells ≤ R.cells ∧ slots ≤ R.slots) (hls : ls.size = nL) (hcat : (rest.map fun v => v.category).sum ≤ 8) (d : decode cc pc = .ok (.invokevirtual idx, 3)) (kk : ∀ (H1 : Heap) (locs1 : List Loc), AtW E (wM E σf ++ X) A s H1 locs1 → W p l e R s m a below meth c H1 locs1 cells slots Q (F0 m (pc + 3) ls (.int rv :: rest))) : W p l e R s m a below meth c H locs cells slots Q (F0 m pc ls (.ref (eA E 0) :: rest)) :=
  r_calli (n := 0) (As := []) (q0 := 0) (ci := 10) (qq := (RX10, TX10, 64)) (c_X10_fault h) wM_fst rfl rfl mk_7_55 mk_7_56 mk_1_11 mk_7_57 (by decide +kernel) rfl ⟨rfl, rfl⟩ cx hV w1 hR hcs hls rfl hcat d kk
def x_X10_ownOf_L6 (j3 : Nat) (p1 : Int32) (p2 : Int32) (σ : St) (u1 : Int32) (u2 : Int32) : Option (Bool × (Int32 × Int32)) :=
  (if p2 ≤ u2 then
  some (false, (u1, u2))
  else
  bd (ldI (gA σ j3) (lenM j3) u2) fun v3 =>
  (if p1 < v3 then
  some (true, (u1, (u2 + 1)))
  else
  some (true, (u2, (u2 + 1)))))
def x_X10_ownOf (j3 : Nat) (p1 : Int32) (p2 : Int32) (σ : St) : Option Int32 :=
  bd2 (lp (fun v : (Int32 × Int32) => x_X10_ownOf_L6 j3 p1 p2 σ v.1 v.2) FU (0, 0)) fun z4 z5 =>
  some z4
abbrev rm_X10_ownOf : Room := { frames := 0, cells := 0, slots := 0, locals := 0 }
set_option maxHeartbeats 4000000 in
set_option maxRecDepth 100000 in
theorem c_X10_ownOf {l : Launch} {E : EV} {X : va_W} {σ : St} {j3 : Nat} {p1 : Int32} {p2 : Int32} {rv : Int32} (hj3 : j3 < 36) (h : x_X10_ownOf j3 p1 p2 σ = some rv) : CM l yX10_ownOf cX10_ownOf 6 (some .int) rm_X10_ownOf [.ref (eA E 0), .int p1, .int p2, .ref (eA E (pM j3))] E (wM E σ ++ X) (wM E σ ++ X) (qI rv) := by
  refine CM.start (by decide) (Nat.le_of_ble_eq_true rfl) (fun p e s m a below meth c A ls cx hr hlk hV hl => ?_)
  have cx : CallFix p m c cX10_ownOf 6 s a TBL RX10 := cx
  have hx := cx.1
  have hb := cx.2.1
  have hl : lv_has ls 6 [(0, .ref (eA E 0)), (1, .int p1), (2, .int p2), (3, .ref (eA E (pM j3)))] := hl
  generalize hQ : EQ E (wM E σ ++ X) (qI rv) A s a below = QQ
  obtain ⟨H, hH⟩ : ∃ H, H = s.heap := ⟨_, rfl⟩
  obtain ⟨locs, hlocs⟩ : ∃ z, z = ([] : List Loc) := ⟨_, rfl⟩
  have hV : AtW E (wM E σ ++ X) A s H locs := by rw [hH, hlocs]; exact hV
  have goal : W p l e rm_X10_ownOf s m a below meth c H locs 0 0 QQ (F0 m 0 ls []) := by
    unfold x_X10_ownOf at h
    refine lv_iconst (v := 0) hx hb dX10_ownOf_0 (by decide) ?_
    refine lv_istore (lv' := [(4, .int 0), (0, .ref (eA E 0)), (1, .int p1), (2, .int p2), (3, .ref (eA E (pM j3)))]) hx hb dX10_ownOf_1 hl (by decide) rfl (fun ls hl => ?_)
    refine lv_iconst (v := 0) hx hb dX10_ownOf_3 (by decide) ?_
    refine lv_istore (lv' := [(5, .int 0), (4, .int 0), (0, .ref (eA E 0)), (1, .int p1), (2, .int p2), (3, .ref (eA E (pM j3)))]) hx hb dX10_ownOf_4 hl (by decide) rfl (fun ls hl => ?_)
    refine bd2_e h (fun z4 z5 ho h => ?_)
    refine (lp_rule (G := (fun v : (Int32 × Int32) => ∀ (H : Heap) (locs : List Loc) (ls : Array Slot), AtW E (wM E σ ++ X) A s H locs → lv_has ls 6 [(1, .int p1), (2, .int p2), (3, .ref (eA E (pM j3))), (4, .int v.1), (5, .int v.2)] → W p l e rm_X10_ownOf s m a below meth c H locs 0 0 QQ (F0 m 6 ls []))) (K := (fun v : (Int32 × Int32) => ∀ (H : Heap) (locs : List Loc) (ls : Array Slot), AtW E (wM E σ ++ X) A s H locs → lv_has ls 6 [(4, .int v.1)] → W p l e rm_X10_ownOf s m a below meth c H locs 0 0 QQ (F0 m 35 ls []))) (fun v b1 y1 h hT1 hF1 => ?_) ho (fun H locs ls hV hl => ?_)) _ _ _ hV (lv_sub hl [3, 4, 5, 1, 0] rfl)
    · obtain ⟨u1, u2⟩ := v
      have h : x_X10_ownOf_L6 j3 p1 p2 σ u1 u2 = some (b1, y1) := h
      intro H locs ls hV hl
      have hV : AtW E (wM E σ ++ X) A s H locs := hV
      have hl : lv_has ls 6 [(1, .int p1), (2, .int p2), (3, .ref (eA E (pM j3))), (4, .int u1), (5, .int u2)] := hl
      unfold x_X10_ownOf_L6 at h
      refine lv_iload hx hb dX10_ownOf_6 (lv_at hl 4 rfl) ?_
      refine lv_iload_n hx hb dX10_ownOf_8 rfl (lv_at hl 1 rfl) ?_
      refine lv_icmp_ge (tgt := 35) hx hb dX10_ownOf_9 (by decide) (fun hc => ?_) (fun hc => ?_)
      · have h := ifp hc h
        cases h
        exact hF1 rfl _ _ _ hV (lv_sub hl [3] rfl)
      · have h := ifn hc h
        refine lv_aload_n hx hb dX10_ownOf_12 rfl (lv_at hl 2 rfl) ?_
        refine lv_iload hx hb dX10_ownOf_13 (lv_at hl 4 rfl) ?_
        refine bd_e h (fun v3 hq h => ?_)
        refine R_M_iald cx hV hj3 hq dX10_ownOf_15 ?_
        refine lv_iload_n hx hb dX10_ownOf_16 rfl (lv_at hl 0 rfl) ?_
        refine lv_icmp_gt (tgt := 25) hx hb dX10_ownOf_17 (by decide) (fun hc => ?_) (fun hc => ?_)
        · have h := ifp hc h
          refine lv_iload hx hb dX10_ownOf_25 (lv_at hl 3 rfl) ?_
          refine lv_istore (lv' := [(4, .int u1), (1, .int p1), (2, .int p2), (3, .ref (eA E (pM j3))), (5, .int u2)]) hx hb dX10_ownOf_27 hl (by decide) rfl (fun ls hl => ?_)
          refine lv_iinc (v := (u2 + 1)) (lv' := [(5, .int (u2 + 1)), (4, .int u1), (1, .int p1), (2, .int p2), (3, .ref (eA E (pM j3)))]) hx hb dX10_ownOf_29 hl (k := 4) rfl rfl (by decide) rfl (fun ls hl => ?_)
          refine lv_goto (tgt := 6) hx hb dX10_ownOf_32 (by decide) ?_
          cases h
          exact hT1 rfl _ _ _ hV (lv_sub hl [2, 3, 4, 1, 0] rfl)
        · have h := ifn hc h
          refine lv_iload hx hb dX10_ownOf_20 (lv_at hl 4 rfl) ?_
          refine lv_goto (tgt := 27) hx hb dX10_ownOf_22 (by decide) ?_
          refine lv_istore (lv' := [(4, .int u2), (1, .int p1), (2, .int p2), (3, .ref (eA E (pM j3))), (5, .int u2)]) hx hb dX10_ownOf_27 hl (by decide) rfl (fun ls hl => ?_)
          refine lv_iinc (v := (u2 + 1)) (lv' := [(5, .int (u2 + 1)), (4, .int u2), (1, .int p1), (2, .int p2), (3, .ref (eA E (pM j3)))]) hx hb dX10_ownOf_29 hl (k := 4) rfl rfl (by decide) rfl (fun ls hl => ?_)
          refine lv_goto (tgt := 6) hx hb dX10_ownOf_32 (by decide) ?_
          cases h
          exact hT1 rfl _ _ _ hV (lv_sub hl [2, 3, 4, 1, 0] rfl)
    · have hV : AtW E (wM E σ ++ X) A s H locs := hV
      have hl : lv_has ls 6 [(4, .int z4)] := hl
      refine lv_iload hx hb dX10_ownOf_35 (lv_at hl 0 rfl) ?_
      have h1 := Option.some.inj h
      subst h1
      subst hQ
      exact r_ireti cx hr hlk hV dX10_ownOf_37
  rw [hH, hlocs] at goal
  exact goal
theorem k_X10_ownOf {p : Program} {l : Launch} {e : Env} {R : Room} {s : State} {m : MethodId} {a : Array Value} {below : List Frame} {meth : Method} {c : Code} {H : Heap} {locs : List Loc} {cells slots : Nat} {Q : State → Prop} {cc : ByteArray} {own : String} {nL pc : Nat} {ls : Array Slot} {rest : List Value} {A : Nat → Prop} {E : EV} {X : va_W} {σ : St} {j3 : Nat} {p1 : Int32} {p2 : Int32} {rv : Int32} (hj3 : j3 < 36) (h : x_X10_ownOf j3 p1 p2 σ = some rv) (cx : CallFix p m c cc nL s a TBL own) (hV : AtW E (wM E σ ++ X) A s H locs) {idx : Nat} (w1 : Cond.methodLink own idx yX10_ownOf ∈ TBL) (hR : (rm_X10_ownOf).frames + 1 ≤ R.frames ∧ 8 + (6 + 11) + (rm_X10_ownOf).locals ≤ R.locals) (hcs : cells ≤ R.cells ∧ slots ≤ R.slots) (hls : ls.size = nL) (hcat : (rest.map fun v => v.category).sum ≤ 8) (d : decode cc pc = .ok (.invokevirtual idx, 3)) (kk : ∀ (H1 : Heap) (locs1 : List Loc), AtW E (wM E σ ++ X) A s H1 locs1 → W p l e R s m a below meth c H1 locs1 cells slots Q (F0 m (pc + 3) ls (.int rv :: rest))) : W p l e R s m a below meth c H locs cells slots Q (F0 m pc ls (.ref (eA E (pM j3)) :: .int p2 :: .int p1 :: .ref (eA E 0) :: rest)) :=
  r_calli (n := 3) (As := [.int p1, .int p2, .ref (eA E (pM j3))]) (q0 := 0) (ci := 10) (qq := (RX10, TX10, 64)) (c_X10_ownOf hj3 h) rfl rfl rfl mk_7_127 mk_P_72 mk_1_11 mk_7_128 (by decide +kernel) rfl ⟨rfl, rfl⟩ cx hV w1 hR hcs hls rfl hcat d kk
def x_X10_own (p1 : Int32) (σ : St) : Option Int32 :=
  bd (ldI (gA σ 3) (lenM 3) (3 * p1)) fun v1 =>
  bd (x_X10_ownOf 2 v1 (gI σ 8) σ) fun v2 =>
  some v2
abbrev rm_X10_own : Room := { frames := 1, cells := 0, slots := 0, locals := 25 }
set_option maxHeartbeats 4000000 in
set_option maxRecDepth 100000 in
theorem c_X10_own {l : Launch} {E : EV} {X : va_W} {σ : St} {p1 : Int32} {rv : Int32} (h : x_X10_own p1 σ = some rv) : CM l yX10_own cX10_own 2 (some .int) rm_X10_own [.ref (eA E 0), .int p1] E (wM E σ ++ X) (wM E σ ++ X) (qI rv) := by
  refine CM.start (by decide) (Nat.le_of_ble_eq_true rfl) (fun p e s m a below meth c A ls cx hr hlk hV hl => ?_)
  have cx : CallFix p m c cX10_own 2 s a TBL RX10 := cx
  have hx := cx.1
  have hb := cx.2.1
  have hl : lv_has ls 2 [(0, .ref (eA E 0)), (1, .int p1)] := hl
  generalize hQ : EQ E (wM E σ ++ X) (qI rv) A s a below = QQ
  obtain ⟨H, hH⟩ : ∃ H, H = s.heap := ⟨_, rfl⟩
  obtain ⟨locs, hlocs⟩ : ∃ z, z = ([] : List Loc) := ⟨_, rfl⟩
  have hV : AtW E (wM E σ ++ X) A s H locs := by rw [hH, hlocs]; exact hV
  have goal : W p l e rm_X10_own s m a below meth c H locs 0 0 QQ (F0 m 0 ls []) := by
    unfold x_X10_own at h
    refine lv_aload_n hx hb dX10_own_0 rfl (lv_at hl 0 rfl) ?_
    refine lv_aload_n hx hb dX10_own_1 rfl (lv_at hl 0 rfl) ?_
    refine G_X10_sleeve cx hV mk_6_108 dX10_own_2 ?_
    refine lv_iconst (v := 3) hx hb dX10_own_5 (by decide) ?_
    refine lv_iload_n hx hb dX10_own_6 rfl (lv_at hl 1 rfl) ?_
    refine lv_imul hx hb dX10_own_7 ?_
    refine bd_e h (fun v1 hq h => ?_)
    refine R_M_iald cx hV (by decide) hq dX10_own_8 ?_
    refine lv_aload_n hx hb dX10_own_9 rfl (lv_at hl 0 rfl) ?_
    refine G_X10_crates cx hV mk_6_121 dX10_own_10 ?_
    refine lv_aload_n hx hb dX10_own_13 rfl (lv_at hl 0 rfl) ?_
    refine G_X10_letterOf cx hV mk_6_107 dX10_own_14 ?_
    refine bd_e h (fun v2 hq h => ?_)
    refine k_X10_ownOf (by decide) hq cx hV mk_7_125 ⟨Nat.le_of_ble_eq_true rfl, Nat.le_of_ble_eq_true rfl⟩ ⟨Nat.zero_le _, Nat.zero_le _⟩ hl.1 (Nat.le_of_ble_eq_true rfl) dX10_own_17 (fun H locs hV => ?_)
    have h1 := Option.some.inj h
    subst h1
    subst hQ
    exact r_ireti cx hr hlk hV dX10_own_20
  rw [hH, hlocs] at goal
  exact goal
theorem k_X10_own {p : Program} {l : Launch} {e : Env} {R : Room} {s : State} {m : MethodId} {a : Array Value} {below : List Frame} {meth : Method} {c : Code} {H : Heap} {locs : List Loc} {cells slots : Nat} {Q : State → Prop} {cc : ByteArray} {own : String} {nL pc : Nat} {ls : Array Slot} {rest : List Value} {A : Nat → Prop} {E : EV} {X : va_W} {σ : St} {p1 : Int32} {rv : Int32} (h : x_X10_own p1 σ = some rv) (cx : CallFix p m c cc nL s a TBL own) (hV : AtW E (wM E σ ++ X) A s H locs) {idx : Nat} (w1 : Cond.methodLink own idx yX10_own ∈ TBL) (hR : (rm_X10_own).frames + 1 ≤ R.frames ∧ 8 + (2 + 11) + (rm_X10_own).locals ≤ R.locals) (hcs : cells ≤ R.cells ∧ slots ≤ R.slots) (hls : ls.size = nL) (hcat : (rest.map fun v => v.category).sum ≤ 8) (d : decode cc pc = .ok (.invokevirtual idx, 3)) (kk : ∀ (H1 : Heap) (locs1 : List Loc), AtW E (wM E σ ++ X) A s H1 locs1 → W p l e R s m a below meth c H1 locs1 cells slots Q (F0 m (pc + 3) ls (.int rv :: rest))) : W p l e R s m a below meth c H locs cells slots Q (F0 m pc ls (.int p1 :: .ref (eA E 0) :: rest)) :=
  r_calli (n := 1) (As := [.int p1]) (q0 := 0) (ci := 10) (qq := (RX10, TX10, 64)) (c_X10_own h) rfl rfl rfl mk_7_166 mk_P_77 mk_1_11 mk_7_167 (by decide +kernel) rfl ⟨rfl, rfl⟩ cx hV w1 hR hcs hls rfl hcat d kk
def x_X10_readOther_b222 (w1 : Int32) (w2 : Int32) (σ3 : St) : Option St :=
  bd (x_X10_fine σ3) fun v4 =>
  (if v4 = 0 then
  some σ3
  else
  bd (ldI (gA σ3 15) (lenM 15) w1) fun v5 =>
  bd (ldI (gA σ3 15) (lenM 15) w2) fun v6 =>
  bd (stI σ3 15 (lenM 15) w1 v6) fun σ7 =>
  bd (stI σ7 15 (lenM 15) w2 v5) fun σ8 =>
  some σ8)
def x_X10_readOther_L486 (u16 : Int32) (u17 : Int32) (u18 : Int32) (σ19 : St) : Option (Bool × (Int32 × Int32 × Int32 × St)) :=
  (if 4 ≤ u18 then
  some (false, (u16, u17, u18, σ19))
  else
  bd2 (x_X10_here σ19) fun v20 σ21 =>
  bd2 (x_X10_readNumber 0 9 σ21) fun v22 σ23 =>
  bd (stI σ23 13 (lenM 13) u18 v22) fun σ24 =>
  bd (ldI (gA σ24 13) (lenM 13) u18) fun v25 =>
  some (true, ((u16 + v25), (gI σ21 3), (u18 + 1), σ24)))
def x_X10_readOther (p1 : Int32) (σ : St) : Option St :=
  bd (x_X10_of 1) fun v9 =>
  (if p1 = v9 then
  bd2 (x_X10_readNumber 0 25 σ) fun v75 σ76 =>
  bd (stI σ76 10 (lenM 10) (3 * (gI σ 13)) v75) fun σ77 =>
  bd2 (x_X10_readNumber 1 99 σ77) fun v78 σ79 =>
  bd (stI σ79 10 (lenM 10) ((3 * (gI σ 13)) + 1) v78) fun σ80 =>
  bd2 (x_X10_readNumber 0 9 σ80) fun v81 σ82 =>
  bd (stI σ82 10 (lenM 10) ((3 * (gI σ 13)) + 2) v81) fun σ83 =>
  bd (ldI (gA σ83 10) (lenM 10) (3 * (gI σ 13))) fun v84 =>
  bd (x_X10_ownOf 9 v84 (gI σ83 12) σ83) fun v85 =>
  bd (stI σ83 14 (lenM 14) (gI σ 13) v85) fun σ86 =>
  bd (stI σ86 15 (lenM 15) (gI σ 13) (gI σ 13)) fun σ87 =>
  bd (some (sI σ87 13 ((gI σ87 13) + 1))) fun σ88 =>
  some σ88
  else
  bd (x_X10_of 2) fun v10 =>
  (if p1 = v10 then
  bd2 (x_X10_readNumber 0 ((gI σ 13) - 1) σ) fun v69 σ70 =>
  bd2 (x_X10_readNumber 0 ((gI σ70 12) - 1) σ70) fun v71 σ72 =>
  bd (x_X10_fine σ72) fun v73 =>
  (if v73 = 0 then
  some σ72
  else
  bd (stI σ72 14 (lenM 14) v69 v71) fun σ74 =>
  some σ74)
  else
  bd (x_X10_of 3) fun v11 =>
  (if p1 = v11 then
  bd2 (x_X10_readNumber 0 ((gI σ 13) - 1) σ) fun v61 σ62 =>
  bd2 (x_X10_here σ62) fun v63 σ64 =>
  bd2 (x_X10_readNumber 0 ((gI σ64 13) - 1) σ64) fun v65 σ66 =>
  bd (x_X10_fine σ66) fun v67 =>
  (if v67 = 0 then
  x_X10_readOther_b222 v61 v65 σ66
  else
  (if v61 = v65 then
  bd (x_X10_wrong 2 (gI σ64 3) σ66) fun σ68 =>
  x_X10_readOther_b222 v61 v65 σ68
  else
  x_X10_readOther_b222 v61 v65 σ66))
  else
  bd (x_X10_of 4) fun v12 =>
  (if p1 = v12 then
  bd2 (x_X10_readNumber 0 600 σ) fun v44 σ45 =>
  bd (stI σ45 11 (lenM 11) (6 * (gI σ 14)) v44) fun σ46 =>
  bd2 (x_X10_readNumber 1 8 σ46) fun v47 σ48 =>
  bd (stI σ48 11 (lenM 11) ((6 * (gI σ 14)) + 1) v47) fun σ49 =>
  bd2 (x_X10_readNumber 0 9 σ49) fun v50 σ51 =>
  bd (stI σ51 11 (lenM 11) ((6 * (gI σ 14)) + 2) v50) fun σ52 =>
  bd2 (x_X10_readNumber 0 99 σ52) fun v53 σ54 =>
  bd (stI σ54 11 (lenM 11) ((6 * (gI σ 14)) + 3) v53) fun σ55 =>
  bd2 (x_X10_readNumber 0 999 σ55) fun v56 σ57 =>
  bd (stI σ57 11 (lenM 11) ((6 * (gI σ 14)) + 4) v56) fun σ58 =>
  bd (stI σ58 11 (lenM 11) ((6 * (gI σ 14)) + 5) 0) fun σ59 =>
  bd (some (sI σ59 14 ((gI σ59 14) + 1))) fun σ60 =>
  some σ60
  else
  bd (x_X10_of 5) fun v13 =>
  (if p1 = v13 then
  bd2 (x_X10_readNumber 0 ((gI σ 14) - 1) σ) fun v40 σ41 =>
  bd (x_X10_fine σ41) fun v42 =>
  (if v42 = 0 then
  some σ41
  else
  bd (stI σ41 11 (lenM 11) ((6 * v40) + 5) 1) fun σ43 =>
  some σ43)
  else
  bd (x_X10_of 6) fun v14 =>
  (if p1 = v14 then
  bd2 (x_X10_readNumber 1 8 σ) fun v35 σ36 =>
  bd2 (x_X10_readNumber 0 8 σ36) fun v37 σ38 =>
  bd (stI σ38 12 (lenM 12) v35 v37) fun σ39 =>
  some σ39
  else
  bd (x_X10_of 7) fun v15 =>
  (if p1 = v15 then
  bd2 (x_X10_readNumber 0 30 σ) fun v32 σ33 =>
  bd (some (sI σ33 15 v32)) fun σ34 =>
  some σ34
  else
  bd4 (lp (fun v : (Int32 × Int32 × Int32 × St) => x_X10_readOther_L486 v.1 v.2.1 v.2.2.1 v.2.2.2) FU (0, (gI σ 3), 0, σ)) fun z26 z27 z28 σ29 =>
  bd (x_X10_fine σ29) fun v30 =>
  (if v30 = 0 then
  some σ29
  else
  (if z26 = 0 then
  bd (x_X10_wrong 2 z27 σ29) fun σ31 =>
  some σ31
  else
  some σ29)))))))))
abbrev rm_X10_readOther : Room := { frames := 5, cells := 0, slots := 0, locals := 107 }
set_option maxHeartbeats 4000000 in
set_option maxRecDepth 100000 in
theorem c_X10_readOther {l : Launch} {E : EV} {X : va_W} {σ : St} {p1 : Int32} {σf : St} (h : x_X10_readOther p1 σ = some σf) : CMF l yX10_readOther cX10_readOther 6 none rm_X10_readOther [.ref (eA E 0), .int p1] E (wM E σ ++ X) (wM E σf ++ X) qV := by
  refine CMF.start (by decide) (Nat.le_of_ble_eq_true rfl) (fun p e s m a below meth c A ls cx hr hlk hV hF hl => ?_)
  have cx : CallFix p m c cX10_readOther 6 s a TBL RX10 := cx
  have hx := cx.1
  have hb := cx.2.1
  have hl : lv_has ls 6 [(0, .ref (eA E 0)), (1, .int p1)] := hl
  generalize hQ : EQ E (wM E σf ++ X) qV A s a below = QQ
  obtain ⟨H, hH⟩ : ∃ H, H = s.heap := ⟨_, rfl⟩
  obtain ⟨locs, hlocs⟩ : ∃ z, z = ([] : List Loc) := ⟨_, rfl⟩
  have hV : AtW E (wM E σ ++ X) A s H locs := by rw [hH, hlocs]; exact hV
  have goal : W p l e rm_X10_readOther s m a below meth c H locs 0 0 QQ (F0 m 0 ls []) := by
    unfold x_X10_readOther at h
    have hj222 : ∀ (w1 : Int32) (w2 : Int32) (σ3 : St) (H : Heap) (locs : List Loc) (ls : Array Slot), x_X10_readOther_b222 w1 w2 σ3 = some σf → AtW E (wM E σ3 ++ X) A s H locs → lv_has ls 6 [(0, .ref (eA E 0)), (2, .int w1), (4, .int w2)] → W p l e rm_X10_readOther s m a below meth c H locs 0 0 QQ (F0 m 222 ls []) := by
      intro w1 w2 σ3 H locs ls h hV hl
      unfold x_X10_readOther_b222 at h
      refine lv_aload_n hx hb dX10_readOther_222 rfl (lv_at hl 0 rfl) ?_
      refine bd_e h (fun v4 hq h => ?_)
      refine k_X10_fine hq cx hV mk_7_70 ⟨Nat.le_of_ble_eq_true rfl, Nat.le_of_ble_eq_true rfl⟩ ⟨Nat.zero_le _, Nat.zero_le _⟩ hl.1 (Nat.le_of_ble_eq_true rfl) dX10_readOther_223 (fun H locs hV => ?_)
      refine lv_if_ne (tgt := 230) hx hb dX10_readOther_226 (by decide) (fun hc => ?_) (fun hc => ?_)
      · have h := ifn hc h
        refine lv_aload_n hx hb dX10_readOther_230 rfl (lv_at hl 0 rfl) ?_
        refine G_X10_newDisc cx hV mk_6_120 dX10_readOther_231 ?_
        refine lv_iload_n hx hb dX10_readOther_234 rfl (lv_at hl 1 rfl) ?_
        refine bd_e h (fun v5 hq h => ?_)
        refine R_M_iald cx hV (by decide) hq dX10_readOther_235 ?_
        refine lv_istore (lv' := [(5, .int v5), (0, .ref (eA E 0)), (2, .int w1), (4, .int w2)]) hx hb dX10_readOther_236 hl (by decide) rfl (fun ls hl => ?_)
        refine lv_aload_n hx hb dX10_readOther_238 rfl (lv_at hl 1 rfl) ?_
        refine G_X10_newDisc cx hV mk_6_120 dX10_readOther_239 ?_
        refine lv_iload_n hx hb dX10_readOther_242 rfl (lv_at hl 2 rfl) ?_
        refine lv_aload_n hx hb dX10_readOther_243 rfl (lv_at hl 1 rfl) ?_
        refine G_X10_newDisc cx hV mk_6_120 dX10_readOther_244 ?_
        refine lv_iload hx hb dX10_readOther_247 (lv_at hl 3 rfl) ?_
        refine bd_e h (fun v6 hq h => ?_)
        refine R_M_iald cx hV (by decide) hq dX10_readOther_249 ?_
        refine bd_e h (fun σ7 hq h => ?_)
        refine R_M_iast cx hV (by decide) hq dX10_readOther_250 (fun H locs hV => ?_)
        refine lv_aload_n hx hb dX10_readOther_251 rfl (lv_at hl 1 rfl) ?_
        refine G_X10_newDisc cx hV mk_6_120 dX10_readOther_252 ?_
        refine lv_iload hx hb dX10_readOther_255 (lv_at hl 3 rfl) ?_
        refine lv_iload hx hb dX10_readOther_257 (lv_at hl 0 rfl) ?_
        refine bd_e h (fun σ8 hq h => ?_)
        refine R_M_iast cx hV (by decide) hq dX10_readOther_259 (fun H locs hV => ?_)
        refine lv_goto (tgt := 549) hx hb dX10_readOther_260 (by decide) ?_
        have h1 := Option.some.inj h
        subst h1
        subst hQ
        exact r_vret cx hr hlk hV dX10_readOther_549
      · have h := ifp hc h
        have h1 := Option.some.inj h
        subst h1
        subst hQ
        exact r_vret cx hr hlk hV dX10_readOther_229
    refine lv_iload_n hx hb dX10_readOther_0 rfl (lv_at hl 1 rfl) ?_
    refine va_ldcS hx hb cx.2.2.2.1 (hF.2.2.2.2.2.1 1 (by decide)) dX10_readOther_1 ?_
    refine bd_e h (fun v9 hq h => ?_)
    refine k_X10_of (by decide) hq cx hV hF mk_7_90 ⟨Nat.le_of_ble_eq_true rfl, Nat.le_of_ble_eq_true rfl⟩ ⟨Nat.zero_le _, Nat.zero_le _⟩ hl.1 (Nat.le_of_ble_eq_true rfl) dX10_readOther_3 (fun H locs hV => ?_)
    refine lv_icmp_ne (tgt := 109) hx hb dX10_readOther_6 (by decide) (fun hc => ?_) (fun hc => ?_)
    · have h := ifn hc h
      refine lv_iload_n hx hb dX10_readOther_109 rfl (lv_at hl 1 rfl) ?_
      refine va_ldcS hx hb cx.2.2.2.1 (hF.2.2.2.2.2.1 2 (by decide)) dX10_readOther_110 ?_
      refine bd_e h (fun v10 hq h => ?_)
      refine k_X10_of (by decide) hq cx hV hF mk_7_90 ⟨Nat.le_of_ble_eq_true rfl, Nat.le_of_ble_eq_true rfl⟩ ⟨Nat.zero_le _, Nat.zero_le _⟩ hl.1 (Nat.le_of_ble_eq_true rfl) dX10_readOther_112 (fun H locs hV => ?_)
      refine lv_icmp_ne (tgt := 159) hx hb dX10_readOther_115 (by decide) (fun hc => ?_) (fun hc => ?_)
      · have h := ifn hc h
        refine lv_iload_n hx hb dX10_readOther_159 rfl (lv_at hl 1 rfl) ?_
        refine va_ldcS hx hb cx.2.2.2.1 (hF.2.2.2.2.2.1 3 (by decide)) dX10_readOther_160 ?_
        refine bd_e h (fun v11 hq h => ?_)
        refine k_X10_of (by decide) hq cx hV hF mk_7_90 ⟨Nat.le_of_ble_eq_true rfl, Nat.le_of_ble_eq_true rfl⟩ ⟨Nat.zero_le _, Nat.zero_le _⟩ hl.1 (Nat.le_of_ble_eq_true rfl) dX10_readOther_162 (fun H locs hV => ?_)
        refine lv_icmp_ne (tgt := 263) hx hb dX10_readOther_165 (by decide) (fun hc => ?_) (fun hc => ?_)
        · have h := ifn hc h
          refine lv_iload_n hx hb dX10_readOther_263 rfl (lv_at hl 1 rfl) ?_
          refine va_ldcS hx hb cx.2.2.2.1 (hF.2.2.2.2.2.1 4 (by decide)) dX10_readOther_264 ?_
          refine bd_e h (fun v12 hq h => ?_)
          refine k_X10_of (by decide) hq cx hV hF mk_7_90 ⟨Nat.le_of_ble_eq_true rfl, Nat.le_of_ble_eq_true rfl⟩ ⟨Nat.zero_le _, Nat.zero_le _⟩ hl.1 (Nat.le_of_ble_eq_true rfl) dX10_readOther_266 (fun H locs hV => ?_)
          refine lv_icmp_ne (tgt := 377) hx hb dX10_readOther_269 (by decide) (fun hc => ?_) (fun hc => ?_)
          · have h := ifn hc h
            refine lv_iload_n hx hb dX10_readOther_377 rfl (lv_at hl 1 rfl) ?_
            refine va_ldcS hx hb cx.2.2.2.1 (hF.2.2.2.2.2.1 5 (by decide)) dX10_readOther_378 ?_
            refine bd_e h (fun v13 hq h => ?_)
            refine k_X10_of (by decide) hq cx hV hF mk_7_90 ⟨Nat.le_of_ble_eq_true rfl, Nat.le_of_ble_eq_true rfl⟩ ⟨Nat.zero_le _, Nat.zero_le _⟩ hl.1 (Nat.le_of_ble_eq_true rfl) dX10_readOther_380 (fun H locs hV => ?_)
            refine lv_icmp_ne (tgt := 420) hx hb dX10_readOther_383 (by decide) (fun hc => ?_) (fun hc => ?_)
            · have h := ifn hc h
              refine lv_iload_n hx hb dX10_readOther_420 rfl (lv_at hl 1 rfl) ?_
              refine va_ldcS hx hb cx.2.2.2.1 (hF.2.2.2.2.2.1 6 (by decide)) dX10_readOther_421 ?_
              refine bd_e h (fun v14 hq h => ?_)
              refine k_X10_of (by decide) hq cx hV hF mk_7_90 ⟨Nat.le_of_ble_eq_true rfl, Nat.le_of_ble_eq_true rfl⟩ ⟨Nat.zero_le _, Nat.zero_le _⟩ hl.1 (Nat.le_of_ble_eq_true rfl) dX10_readOther_423 (fun H locs hV => ?_)
              refine lv_icmp_ne (tgt := 453) hx hb dX10_readOther_426 (by decide) (fun hc => ?_) (fun hc => ?_)
              · have h := ifn hc h
                refine lv_iload_n hx hb dX10_readOther_453 rfl (lv_at hl 1 rfl) ?_
                refine va_ldcS hx hb cx.2.2.2.1 (hF.2.2.2.2.2.1 7 (by decide)) dX10_readOther_454 ?_
                refine bd_e h (fun v15 hq h => ?_)
                refine k_X10_of (by decide) hq cx hV hF mk_7_90 ⟨Nat.le_of_ble_eq_true rfl, Nat.le_of_ble_eq_true rfl⟩ ⟨Nat.zero_le _, Nat.zero_le _⟩ hl.1 (Nat.le_of_ble_eq_true rfl) dX10_readOther_456 (fun H locs hV => ?_)
                refine lv_icmp_ne (tgt := 476) hx hb dX10_readOther_459 (by decide) (fun hc => ?_) (fun hc => ?_)
                · have h := ifn hc h
                  refine lv_iconst (v := 0) hx hb dX10_readOther_476 (by decide) ?_
                  refine lv_istore_n (lv' := [(2, .int 0), (0, .ref (eA E 0)), (1, .int p1)]) hx hb dX10_readOther_477 rfl hl (by decide) rfl (fun ls hl => ?_)
                  refine lv_aload_n hx hb dX10_readOther_478 rfl (lv_at hl 1 rfl) ?_
                  refine G_X10_at cx hV mk_6_101 dX10_readOther_479 ?_
                  refine lv_istore_n (lv' := [(3, .int (gI σ 3)), (2, .int 0), (0, .ref (eA E 0)), (1, .int p1)]) hx hb dX10_readOther_482 rfl hl (by decide) rfl (fun ls hl => ?_)
                  refine lv_iconst (v := 0) hx hb dX10_readOther_483 (by decide) ?_
                  refine lv_istore (lv' := [(4, .int 0), (3, .int (gI σ 3)), (2, .int 0), (0, .ref (eA E 0)), (1, .int p1)]) hx hb dX10_readOther_484 hl (by decide) rfl (fun ls hl => ?_)
                  refine bd4_e h (fun z26 z27 z28 σ29 ho h => ?_)
                  refine (lp_rule (G := (fun v : (Int32 × Int32 × Int32 × St) => ∀ (H : Heap) (locs : List Loc) (ls : Array Slot), AtW E (wM E v.2.2.2 ++ X) A s H locs → lv_has ls 6 [(0, .ref (eA E 0)), (2, .int v.1), (3, .int v.2.1), (4, .int v.2.2.1)] → W p l e rm_X10_readOther s m a below meth c H locs 0 0 QQ (F0 m 486 ls []))) (K := (fun v : (Int32 × Int32 × Int32 × St) => ∀ (H : Heap) (locs : List Loc) (ls : Array Slot), AtW E (wM E v.2.2.2 ++ X) A s H locs → lv_has ls 6 [(0, .ref (eA E 0)), (2, .int v.1), (3, .int v.2.1)] → W p l e rm_X10_readOther s m a below meth c H locs 0 0 QQ (F0 m 532 ls []))) (fun v b1 y1 h hT1 hF1 => ?_) ho (fun H locs ls hV hl => ?_)) _ _ _ hV (lv_sub hl [3, 2, 1, 0] rfl)
                  · obtain ⟨u16, u17, u18, σ19⟩ := v
                    have h : x_X10_readOther_L486 u16 u17 u18 σ19 = some (b1, y1) := h
                    intro H locs ls hV hl
                    have hV : AtW E (wM E σ19 ++ X) A s H locs := hV
                    have hl : lv_has ls 6 [(0, .ref (eA E 0)), (2, .int u16), (3, .int u17), (4, .int u18)] := hl
                    unfold x_X10_readOther_L486 at h
                    refine lv_iload hx hb dX10_readOther_486 (lv_at hl 3 rfl) ?_
                    refine lv_iconst (v := 4) hx hb dX10_readOther_488 (by decide) ?_
                    refine lv_icmp_ge (tgt := 532) hx hb dX10_readOther_489 (by decide) (fun hc => ?_) (fun hc => ?_)
                    · have h := ifp hc h
                      cases h
                      exact hF1 rfl _ _ _ hV (lv_sub hl [0, 1, 2] rfl)
                    · have h := ifn hc h
                      refine lv_aload_n hx hb dX10_readOther_492 rfl (lv_at hl 0 rfl) ?_
                      refine bd2_e h (fun v20 σ21 hq h => ?_)
                      refine k_X10_here hq cx hV mk_7_78 ⟨Nat.le_of_ble_eq_true rfl, Nat.le_of_ble_eq_true rfl⟩ ⟨Nat.zero_le _, Nat.zero_le _⟩ hl.1 (Nat.le_of_ble_eq_true rfl) dX10_readOther_493 (fun H locs hV => ?_)
                      refine lv_pop hx hb dX10_readOther_496 rfl ?_
                      refine lv_aload_n hx hb dX10_readOther_497 rfl (lv_at hl 0 rfl) ?_
                      refine G_X10_at cx hV mk_6_101 dX10_readOther_498 ?_
                      refine lv_istore_n (lv' := [(3, .int (gI σ21 3)), (0, .ref (eA E 0)), (2, .int u16), (4, .int u18)]) hx hb dX10_readOther_501 rfl hl (by decide) rfl (fun ls hl => ?_)
                      refine lv_aload_n hx hb dX10_readOther_502 rfl (lv_at hl 1 rfl) ?_
                      refine G_X10_newWeight cx hV mk_6_118 dX10_readOther_503 ?_
                      refine lv_iload hx hb dX10_readOther_506 (lv_at hl 3 rfl) ?_
                      refine lv_aload_n hx hb dX10_readOther_508 rfl (lv_at hl 1 rfl) ?_
                      refine lv_iconst (v := 0) hx hb dX10_readOther_509 (by decide) ?_
                      refine lv_bipush (v := 9) hx hb dX10_readOther_510 (by decide) ?_
                      refine bd2_e h (fun v22 σ23 hq h => ?_)
                      refine k_X10_readNumber hq cx hV mk_7_114 ⟨Nat.le_of_ble_eq_true rfl, Nat.le_of_ble_eq_true rfl⟩ ⟨Nat.zero_le _, Nat.zero_le _⟩ hl.1 (Nat.le_of_ble_eq_true rfl) dX10_readOther_512 (fun H locs hV => ?_)
                      refine bd_e h (fun σ24 hq h => ?_)
                      refine R_M_iast cx hV (by decide) hq dX10_readOther_515 (fun H locs hV => ?_)
                      refine lv_iload_n hx hb dX10_readOther_516 rfl (lv_at hl 2 rfl) ?_
                      refine lv_aload_n hx hb dX10_readOther_517 rfl (lv_at hl 1 rfl) ?_
                      refine G_X10_newWeight cx hV mk_6_118 dX10_readOther_518 ?_
                      refine lv_iload hx hb dX10_readOther_521 (lv_at hl 3 rfl) ?_
                      refine bd_e h (fun v25 hq h => ?_)
                      refine R_M_iald cx hV (by decide) hq dX10_readOther_523 ?_
                      refine lv_iadd hx hb dX10_readOther_524 ?_
                      refine lv_istore_n (lv' := [(2, .int (u16 + v25)), (3, .int (gI σ21 3)), (0, .ref (eA E 0)), (4, .int u18)]) hx hb dX10_readOther_525 rfl hl (by decide) rfl (fun ls hl => ?_)
                      refine lv_iinc (v := (u18 + 1)) (lv' := [(4, .int (u18 + 1)), (2, .int (u16 + v25)), (3, .int (gI σ21 3)), (0, .ref (eA E 0))]) hx hb dX10_readOther_526 hl (k := 3) rfl rfl (by decide) rfl (fun ls hl => ?_)
                      refine lv_goto (tgt := 486) hx hb dX10_readOther_529 (by decide) ?_
                      cases h
                      exact hT1 rfl _ _ _ hV (lv_sub hl [3, 1, 2, 0] rfl)
                  · have hV : AtW E (wM E σ29 ++ X) A s H locs := hV
                    have hl : lv_has ls 6 [(0, .ref (eA E 0)), (2, .int z26), (3, .int z27)] := hl
                    refine lv_aload_n hx hb dX10_readOther_532 rfl (lv_at hl 0 rfl) ?_
                    refine bd_e h (fun v30 hq h => ?_)
                    refine k_X10_fine hq cx hV mk_7_70 ⟨Nat.le_of_ble_eq_true rfl, Nat.le_of_ble_eq_true rfl⟩ ⟨Nat.zero_le _, Nat.zero_le _⟩ hl.1 (Nat.le_of_ble_eq_true rfl) dX10_readOther_533 (fun H locs hV => ?_)
                    refine lv_if_eq (tgt := 549) hx hb dX10_readOther_536 (by decide) (fun hc => ?_) (fun hc => ?_)
                    · have h := ifp hc h
                      have h1 := Option.some.inj h
                      subst h1
                      subst hQ
                      exact r_vret cx hr hlk hV dX10_readOther_549
                    · have h := ifn hc h
                      refine lv_iload_n hx hb dX10_readOther_539 rfl (lv_at hl 1 rfl) ?_
                      refine lv_if_ne (tgt := 549) hx hb dX10_readOther_540 (by decide) (fun hc => ?_) (fun hc => ?_)
                      · have h := ifn hc h
                        have h1 := Option.some.inj h
                        subst h1
                        subst hQ
                        exact r_vret cx hr hlk hV dX10_readOther_549
                      · have h := ifp hc h
                        refine lv_aload_n hx hb dX10_readOther_543 rfl (lv_at hl 0 rfl) ?_
                        refine lv_iconst (v := 2) hx hb dX10_readOther_544 (by decide) ?_
                        refine lv_iload_n hx hb dX10_readOther_545 rfl (lv_at hl 2 rfl) ?_
                        refine bd_e h (fun σ31 hq h => ?_)
                        refine k_X10_wrong hq cx hV mk_7_106 ⟨Nat.le_of_ble_eq_true rfl, Nat.le_of_ble_eq_true rfl⟩ ⟨Nat.zero_le _, Nat.zero_le _⟩ hl.1 (Nat.le_of_ble_eq_true rfl) dX10_readOther_546 (fun H locs hV => ?_)
                        have h1 := Option.some.inj h
                        subst h1
                        subst hQ
                        exact r_vret cx hr hlk hV dX10_readOther_549
                · have h := ifp hc h
                  refine lv_aload_n hx hb dX10_readOther_462 rfl (lv_at hl 0 rfl) ?_
                  refine lv_aload_n hx hb dX10_readOther_463 rfl (lv_at hl 0 rfl) ?_
                  refine lv_iconst (v := 0) hx hb dX10_readOther_464 (by decide) ?_
                  refine lv_bipush (v := 30) hx hb dX10_readOther_465 (by decide) ?_
                  refine bd2_e h (fun v32 σ33 hq h => ?_)
                  refine k_X10_readNumber hq cx hV mk_7_114 ⟨Nat.le_of_ble_eq_true rfl, Nat.le_of_ble_eq_true rfl⟩ ⟨Nat.zero_le _, Nat.zero_le _⟩ hl.1 (Nat.le_of_ble_eq_true rfl) dX10_readOther_467 (fun H locs hV => ?_)
                  refine bd_e h (fun σ34 hq h => ?_)
                  refine P_X10_newStop cx hV hq mk_6_128 dX10_readOther_470 (fun H locs hV => ?_)
                  refine lv_goto (tgt := 549) hx hb dX10_readOther_473 (by decide) ?_
                  have h1 := Option.some.inj h
                  subst h1
                  subst hQ
                  exact r_vret cx hr hlk hV dX10_readOther_549
              · have h := ifp hc h
                refine lv_aload_n hx hb dX10_readOther_429 rfl (lv_at hl 0 rfl) ?_
                refine lv_iconst (v := 1) hx hb dX10_readOther_430 (by decide) ?_
                refine lv_bipush (v := 8) hx hb dX10_readOther_431 (by decide) ?_
                refine bd2_e h (fun v35 σ36 hq h => ?_)
                refine k_X10_readNumber hq cx hV mk_7_114 ⟨Nat.le_of_ble_eq_true rfl, Nat.le_of_ble_eq_true rfl⟩ ⟨Nat.zero_le _, Nat.zero_le _⟩ hl.1 (Nat.le_of_ble_eq_true rfl) dX10_readOther_433 (fun H locs hV => ?_)
                refine lv_istore_n (lv' := [(2, .int v35), (0, .ref (eA E 0)), (1, .int p1)]) hx hb dX10_readOther_436 rfl hl (by decide) rfl (fun ls hl => ?_)
                refine lv_aload_n hx hb dX10_readOther_437 rfl (lv_at hl 1 rfl) ?_
                refine G_X10_newMissed cx hV mk_6_117 dX10_readOther_438 ?_
                refine lv_iload_n hx hb dX10_readOther_441 rfl (lv_at hl 0 rfl) ?_
                refine lv_aload_n hx hb dX10_readOther_442 rfl (lv_at hl 1 rfl) ?_
                refine lv_iconst (v := 0) hx hb dX10_readOther_443 (by decide) ?_
                refine lv_bipush (v := 8) hx hb dX10_readOther_444 (by decide) ?_
                refine bd2_e h (fun v37 σ38 hq h => ?_)
                refine k_X10_readNumber hq cx hV mk_7_114 ⟨Nat.le_of_ble_eq_true rfl, Nat.le_of_ble_eq_true rfl⟩ ⟨Nat.zero_le _, Nat.zero_le _⟩ hl.1 (Nat.le_of_ble_eq_true rfl) dX10_readOther_446 (fun H locs hV => ?_)
                refine bd_e h (fun σ39 hq h => ?_)
                refine R_M_iast cx hV (by decide) hq dX10_readOther_449 (fun H locs hV => ?_)
                refine lv_goto (tgt := 549) hx hb dX10_readOther_450 (by decide) ?_
                have h1 := Option.some.inj h
                subst h1
                subst hQ
                exact r_vret cx hr hlk hV dX10_readOther_549
            · have h := ifp hc h
              refine lv_aload_n hx hb dX10_readOther_386 rfl (lv_at hl 0 rfl) ?_
              refine lv_iconst (v := 0) hx hb dX10_readOther_387 (by decide) ?_
              refine lv_aload_n hx hb dX10_readOther_388 rfl (lv_at hl 0 rfl) ?_
              refine G_X10_newLookers cx hV mk_6_127 dX10_readOther_389 ?_
              refine lv_iconst (v := 1) hx hb dX10_readOther_392 (by decide) ?_
              refine lv_isub hx hb dX10_readOther_393 ?_
              refine bd2_e h (fun v40 σ41 hq h => ?_)
              refine k_X10_readNumber hq cx hV mk_7_114 ⟨Nat.le_of_ble_eq_true rfl, Nat.le_of_ble_eq_true rfl⟩ ⟨Nat.zero_le _, Nat.zero_le _⟩ hl.1 (Nat.le_of_ble_eq_true rfl) dX10_readOther_394 (fun H locs hV => ?_)
              refine lv_istore_n (lv' := [(2, .int v40), (0, .ref (eA E 0)), (1, .int p1)]) hx hb dX10_readOther_397 rfl hl (by decide) rfl (fun ls hl => ?_)
              refine lv_aload_n hx hb dX10_readOther_398 rfl (lv_at hl 1 rfl) ?_
              refine bd_e h (fun v42 hq h => ?_)
              refine k_X10_fine hq cx hV mk_7_70 ⟨Nat.le_of_ble_eq_true rfl, Nat.le_of_ble_eq_true rfl⟩ ⟨Nat.zero_le _, Nat.zero_le _⟩ hl.1 (Nat.le_of_ble_eq_true rfl) dX10_readOther_399 (fun H locs hV => ?_)
              refine lv_if_eq (tgt := 417) hx hb dX10_readOther_402 (by decide) (fun hc => ?_) (fun hc => ?_)
              · have h := ifp hc h
                refine lv_goto (tgt := 549) hx hb dX10_readOther_417 (by decide) ?_
                have h1 := Option.some.inj h
                subst h1
                subst hQ
                exact r_vret cx hr hlk hV dX10_readOther_549
              · have h := ifn hc h
                refine lv_aload_n hx hb dX10_readOther_405 rfl (lv_at hl 1 rfl) ?_
                refine G_X10_newLooker cx hV mk_6_116 dX10_readOther_406 ?_
                refine lv_bipush (v := 6) hx hb dX10_readOther_409 (by decide) ?_
                refine lv_iload_n hx hb dX10_readOther_411 rfl (lv_at hl 0 rfl) ?_
                refine lv_imul hx hb dX10_readOther_412 ?_
                refine lv_iconst (v := 5) hx hb dX10_readOther_413 (by decide) ?_
                refine lv_iadd hx hb dX10_readOther_414 ?_
                refine lv_iconst (v := 1) hx hb dX10_readOther_415 (by decide) ?_
                refine bd_e h (fun σ43 hq h => ?_)
                refine R_M_iast cx hV (by decide) hq dX10_readOther_416 (fun H locs hV => ?_)
                refine lv_goto (tgt := 549) hx hb dX10_readOther_417 (by decide) ?_
                have h1 := Option.some.inj h
                subst h1
                subst hQ
                exact r_vret cx hr hlk hV dX10_readOther_549
          · have h := ifp hc h
            refine lv_bipush (v := 6) hx hb dX10_readOther_272 (by decide) ?_
            refine lv_aload_n hx hb dX10_readOther_274 rfl (lv_at hl 0 rfl) ?_
            refine G_X10_newLookers cx hV mk_6_127 dX10_readOther_275 ?_
            refine lv_imul hx hb dX10_readOther_278 ?_
            refine lv_istore_n (lv' := [(2, .int (6 * (gI σ 14))), (0, .ref (eA E 0)), (1, .int p1)]) hx hb dX10_readOther_279 rfl hl (by decide) rfl (fun ls hl => ?_)
            refine lv_aload_n hx hb dX10_readOther_280 rfl (lv_at hl 1 rfl) ?_
            refine G_X10_newLooker cx hV mk_6_116 dX10_readOther_281 ?_
            refine lv_iload_n hx hb dX10_readOther_284 rfl (lv_at hl 0 rfl) ?_
            refine lv_aload_n hx hb dX10_readOther_285 rfl (lv_at hl 1 rfl) ?_
            refine lv_iconst (v := 0) hx hb dX10_readOther_286 (by decide) ?_
            refine lv_sipush (v := 600) hx hb dX10_readOther_287 (by decide) ?_
            refine bd2_e h (fun v44 σ45 hq h => ?_)
            refine k_X10_readNumber hq cx hV mk_7_114 ⟨Nat.le_of_ble_eq_true rfl, Nat.le_of_ble_eq_true rfl⟩ ⟨Nat.zero_le _, Nat.zero_le _⟩ hl.1 (Nat.le_of_ble_eq_true rfl) dX10_readOther_290 (fun H locs hV => ?_)
            refine bd_e h (fun σ46 hq h => ?_)
            refine R_M_iast cx hV (by decide) hq dX10_readOther_293 (fun H locs hV => ?_)
            refine lv_aload_n hx hb dX10_readOther_294 rfl (lv_at hl 1 rfl) ?_
            refine G_X10_newLooker cx hV mk_6_116 dX10_readOther_295 ?_
            refine lv_iload_n hx hb dX10_readOther_298 rfl (lv_at hl 0 rfl) ?_
            refine lv_iconst (v := 1) hx hb dX10_readOther_299 (by decide) ?_
            refine lv_iadd hx hb dX10_readOther_300 ?_
            refine lv_aload_n hx hb dX10_readOther_301 rfl (lv_at hl 1 rfl) ?_
            refine lv_iconst (v := 1) hx hb dX10_readOther_302 (by decide) ?_
            refine lv_bipush (v := 8) hx hb dX10_readOther_303 (by decide) ?_
            refine bd2_e h (fun v47 σ48 hq h => ?_)
            refine k_X10_readNumber hq cx hV mk_7_114 ⟨Nat.le_of_ble_eq_true rfl, Nat.le_of_ble_eq_true rfl⟩ ⟨Nat.zero_le _, Nat.zero_le _⟩ hl.1 (Nat.le_of_ble_eq_true rfl) dX10_readOther_305 (fun H locs hV => ?_)
            refine bd_e h (fun σ49 hq h => ?_)
            refine R_M_iast cx hV (by decide) hq dX10_readOther_308 (fun H locs hV => ?_)
            refine lv_aload_n hx hb dX10_readOther_309 rfl (lv_at hl 1 rfl) ?_
            refine G_X10_newLooker cx hV mk_6_116 dX10_readOther_310 ?_
            refine lv_iload_n hx hb dX10_readOther_313 rfl (lv_at hl 0 rfl) ?_
            refine lv_iconst (v := 2) hx hb dX10_readOther_314 (by decide) ?_
            refine lv_iadd hx hb dX10_readOther_315 ?_
            refine lv_aload_n hx hb dX10_readOther_316 rfl (lv_at hl 1 rfl) ?_
            refine lv_iconst (v := 0) hx hb dX10_readOther_317 (by decide) ?_
            refine lv_bipush (v := 9) hx hb dX10_readOther_318 (by decide) ?_
            refine bd2_e h (fun v50 σ51 hq h => ?_)
            refine k_X10_readNumber hq cx hV mk_7_114 ⟨Nat.le_of_ble_eq_true rfl, Nat.le_of_ble_eq_true rfl⟩ ⟨Nat.zero_le _, Nat.zero_le _⟩ hl.1 (Nat.le_of_ble_eq_true rfl) dX10_readOther_320 (fun H locs hV => ?_)
            refine bd_e h (fun σ52 hq h => ?_)
            refine R_M_iast cx hV (by decide) hq dX10_readOther_323 (fun H locs hV => ?_)
            refine lv_aload_n hx hb dX10_readOther_324 rfl (lv_at hl 1 rfl) ?_
            refine G_X10_newLooker cx hV mk_6_116 dX10_readOther_325 ?_
            refine lv_iload_n hx hb dX10_readOther_328 rfl (lv_at hl 0 rfl) ?_
            refine lv_iconst (v := 3) hx hb dX10_readOther_329 (by decide) ?_
            refine lv_iadd hx hb dX10_readOther_330 ?_
            refine lv_aload_n hx hb dX10_readOther_331 rfl (lv_at hl 1 rfl) ?_
            refine lv_iconst (v := 0) hx hb dX10_readOther_332 (by decide) ?_
            refine lv_bipush (v := 99) hx hb dX10_readOther_333 (by decide) ?_
            refine bd2_e h (fun v53 σ54 hq h => ?_)
            refine k_X10_readNumber hq cx hV mk_7_114 ⟨Nat.le_of_ble_eq_true rfl, Nat.le_of_ble_eq_true rfl⟩ ⟨Nat.zero_le _, Nat.zero_le _⟩ hl.1 (Nat.le_of_ble_eq_true rfl) dX10_readOther_335 (fun H locs hV => ?_)
            refine bd_e h (fun σ55 hq h => ?_)
            refine R_M_iast cx hV (by decide) hq dX10_readOther_338 (fun H locs hV => ?_)
            refine lv_aload_n hx hb dX10_readOther_339 rfl (lv_at hl 1 rfl) ?_
            refine G_X10_newLooker cx hV mk_6_116 dX10_readOther_340 ?_
            refine lv_iload_n hx hb dX10_readOther_343 rfl (lv_at hl 0 rfl) ?_
            refine lv_iconst (v := 4) hx hb dX10_readOther_344 (by decide) ?_
            refine lv_iadd hx hb dX10_readOther_345 ?_
            refine lv_aload_n hx hb dX10_readOther_346 rfl (lv_at hl 1 rfl) ?_
            refine lv_iconst (v := 0) hx hb dX10_readOther_347 (by decide) ?_
            refine lv_sipush (v := 999) hx hb dX10_readOther_348 (by decide) ?_
            refine bd2_e h (fun v56 σ57 hq h => ?_)
            refine k_X10_readNumber hq cx hV mk_7_114 ⟨Nat.le_of_ble_eq_true rfl, Nat.le_of_ble_eq_true rfl⟩ ⟨Nat.zero_le _, Nat.zero_le _⟩ hl.1 (Nat.le_of_ble_eq_true rfl) dX10_readOther_351 (fun H locs hV => ?_)
            refine bd_e h (fun σ58 hq h => ?_)
            refine R_M_iast cx hV (by decide) hq dX10_readOther_354 (fun H locs hV => ?_)
            refine lv_aload_n hx hb dX10_readOther_355 rfl (lv_at hl 1 rfl) ?_
            refine G_X10_newLooker cx hV mk_6_116 dX10_readOther_356 ?_
            refine lv_iload_n hx hb dX10_readOther_359 rfl (lv_at hl 0 rfl) ?_
            refine lv_iconst (v := 5) hx hb dX10_readOther_360 (by decide) ?_
            refine lv_iadd hx hb dX10_readOther_361 ?_
            refine lv_iconst (v := 0) hx hb dX10_readOther_362 (by decide) ?_
            refine bd_e h (fun σ59 hq h => ?_)
            refine R_M_iast cx hV (by decide) hq dX10_readOther_363 (fun H locs hV => ?_)
            refine lv_aload_n hx hb dX10_readOther_364 rfl (lv_at hl 1 rfl) ?_
            refine lv_dup hx hb dX10_readOther_365 rfl ?_
            refine G_X10_newLookers cx hV mk_6_127 dX10_readOther_366 ?_
            refine lv_iconst (v := 1) hx hb dX10_readOther_369 (by decide) ?_
            refine lv_iadd hx hb dX10_readOther_370 ?_
            refine bd_e h (fun σ60 hq h => ?_)
            refine P_X10_newLookers cx hV hq mk_6_127 dX10_readOther_371 (fun H locs hV => ?_)
            refine lv_goto (tgt := 549) hx hb dX10_readOther_374 (by decide) ?_
            have h1 := Option.some.inj h
            subst h1
            subst hQ
            exact r_vret cx hr hlk hV dX10_readOther_549
        · have h := ifp hc h
          refine lv_aload_n hx hb dX10_readOther_168 rfl (lv_at hl 0 rfl) ?_
          refine lv_iconst (v := 0) hx hb dX10_readOther_169 (by decide) ?_
          refine lv_aload_n hx hb dX10_readOther_170 rfl (lv_at hl 0 rfl) ?_
          refine G_X10_newSleeves cx hV mk_6_126 dX10_readOther_171 ?_
          refine lv_iconst (v := 1) hx hb dX10_readOther_174 (by decide) ?_
          refine lv_isub hx hb dX10_readOther_175 ?_
          refine bd2_e h (fun v61 σ62 hq h => ?_)
          refine k_X10_readNumber hq cx hV mk_7_114 ⟨Nat.le_of_ble_eq_true rfl, Nat.le_of_ble_eq_true rfl⟩ ⟨Nat.zero_le _, Nat.zero_le _⟩ hl.1 (Nat.le_of_ble_eq_true rfl) dX10_readOther_176 (fun H locs hV => ?_)
          refine lv_istore_n (lv' := [(2, .int v61), (0, .ref (eA E 0)), (1, .int p1)]) hx hb dX10_readOther_179 rfl hl (by decide) rfl (fun ls hl => ?_)
          refine lv_aload_n hx hb dX10_readOther_180 rfl (lv_at hl 1 rfl) ?_
          refine bd2_e h (fun v63 σ64 hq h => ?_)
          refine k_X10_here hq cx hV mk_7_78 ⟨Nat.le_of_ble_eq_true rfl, Nat.le_of_ble_eq_true rfl⟩ ⟨Nat.zero_le _, Nat.zero_le _⟩ hl.1 (Nat.le_of_ble_eq_true rfl) dX10_readOther_181 (fun H locs hV => ?_)
          refine lv_pop hx hb dX10_readOther_184 rfl ?_
          refine lv_aload_n hx hb dX10_readOther_185 rfl (lv_at hl 1 rfl) ?_
          refine G_X10_at cx hV mk_6_101 dX10_readOther_186 ?_
          refine lv_istore_n (lv' := [(3, .int (gI σ64 3)), (2, .int v61), (0, .ref (eA E 0)), (1, .int p1)]) hx hb dX10_readOther_189 rfl hl (by decide) rfl (fun ls hl => ?_)
          refine lv_aload_n hx hb dX10_readOther_190 rfl (lv_at hl 2 rfl) ?_
          refine lv_iconst (v := 0) hx hb dX10_readOther_191 (by decide) ?_
          refine lv_aload_n hx hb dX10_readOther_192 rfl (lv_at hl 2 rfl) ?_
          refine G_X10_newSleeves cx hV mk_6_126 dX10_readOther_193 ?_
          refine lv_iconst (v := 1) hx hb dX10_readOther_196 (by decide) ?_
          refine lv_isub hx hb dX10_readOther_197 ?_
          refine bd2_e h (fun v65 σ66 hq h => ?_)
          refine k_X10_readNumber hq cx hV mk_7_114 ⟨Nat.le_of_ble_eq_true rfl, Nat.le_of_ble_eq_true rfl⟩ ⟨Nat.zero_le _, Nat.zero_le _⟩ hl.1 (Nat.le_of_ble_eq_true rfl) dX10_readOther_198 (fun H locs hV => ?_)
          refine lv_istore (lv' := [(4, .int v65), (3, .int (gI σ64 3)), (2, .int v61), (0, .ref (eA E 0)), (1, .int p1)]) hx hb dX10_readOther_201 hl (by decide) rfl (fun ls hl => ?_)
          refine lv_aload_n hx hb dX10_readOther_203 rfl (lv_at hl 3 rfl) ?_
          refine bd_e h (fun v67 hq h => ?_)
          refine k_X10_fine hq cx hV mk_7_70 ⟨Nat.le_of_ble_eq_true rfl, Nat.le_of_ble_eq_true rfl⟩ ⟨Nat.zero_le _, Nat.zero_le _⟩ hl.1 (Nat.le_of_ble_eq_true rfl) dX10_readOther_204 (fun H locs hV => ?_)
          refine lv_if_eq (tgt := 222) hx hb dX10_readOther_207 (by decide) (fun hc => ?_) (fun hc => ?_)
          · have h := ifp hc h
            exact hj222 v61 v65 σ66 _ _ _ h hV (lv_sub hl [3, 2, 0] rfl)
          · have h := ifn hc h
            refine lv_iload_n hx hb dX10_readOther_210 rfl (lv_at hl 2 rfl) ?_
            refine lv_iload hx hb dX10_readOther_211 (lv_at hl 0 rfl) ?_
            refine lv_icmp_ne (tgt := 222) hx hb dX10_readOther_213 (by decide) (fun hc => ?_) (fun hc => ?_)
            · have h := ifn hc h
              exact hj222 v61 v65 σ66 _ _ _ h hV (lv_sub hl [3, 2, 0] rfl)
            · have h := ifp hc h
              refine lv_aload_n hx hb dX10_readOther_216 rfl (lv_at hl 3 rfl) ?_
              refine lv_iconst (v := 2) hx hb dX10_readOther_217 (by decide) ?_
              refine lv_iload_n hx hb dX10_readOther_218 rfl (lv_at hl 1 rfl) ?_
              refine bd_e h (fun σ68 hq h => ?_)
              refine k_X10_wrong hq cx hV mk_7_106 ⟨Nat.le_of_ble_eq_true rfl, Nat.le_of_ble_eq_true rfl⟩ ⟨Nat.zero_le _, Nat.zero_le _⟩ hl.1 (Nat.le_of_ble_eq_true rfl) dX10_readOther_219 (fun H locs hV => ?_)
              exact hj222 v61 v65 σ68 _ _ _ h hV (lv_sub hl [3, 2, 0] rfl)
      · have h := ifp hc h
        refine lv_aload_n hx hb dX10_readOther_118 rfl (lv_at hl 0 rfl) ?_
        refine lv_iconst (v := 0) hx hb dX10_readOther_119 (by decide) ?_
        refine lv_aload_n hx hb dX10_readOther_120 rfl (lv_at hl 0 rfl) ?_
        refine G_X10_newSleeves cx hV mk_6_126 dX10_readOther_121 ?_
        refine lv_iconst (v := 1) hx hb dX10_readOther_124 (by decide) ?_
        refine lv_isub hx hb dX10_readOther_125 ?_
        refine bd2_e h (fun v69 σ70 hq h => ?_)
        refine k_X10_readNumber hq cx hV mk_7_114 ⟨Nat.le_of_ble_eq_true rfl, Nat.le_of_ble_eq_true rfl⟩ ⟨Nat.zero_le _, Nat.zero_le _⟩ hl.1 (Nat.le_of_ble_eq_true rfl) dX10_readOther_126 (fun H locs hV => ?_)
        refine lv_istore_n (lv' := [(2, .int v69), (0, .ref (eA E 0)), (1, .int p1)]) hx hb dX10_readOther_129 rfl hl (by decide) rfl (fun ls hl => ?_)
        refine lv_aload_n hx hb dX10_readOther_130 rfl (lv_at hl 1 rfl) ?_
        refine lv_iconst (v := 0) hx hb dX10_readOther_131 (by decide) ?_
        refine lv_aload_n hx hb dX10_readOther_132 rfl (lv_at hl 1 rfl) ?_
        refine G_X10_newCrates cx hV mk_6_125 dX10_readOther_133 ?_
        refine lv_iconst (v := 1) hx hb dX10_readOther_136 (by decide) ?_
        refine lv_isub hx hb dX10_readOther_137 ?_
        refine bd2_e h (fun v71 σ72 hq h => ?_)
        refine k_X10_readNumber hq cx hV mk_7_114 ⟨Nat.le_of_ble_eq_true rfl, Nat.le_of_ble_eq_true rfl⟩ ⟨Nat.zero_le _, Nat.zero_le _⟩ hl.1 (Nat.le_of_ble_eq_true rfl) dX10_readOther_138 (fun H locs hV => ?_)
        refine lv_istore_n (lv' := [(3, .int v71), (2, .int v69), (0, .ref (eA E 0)), (1, .int p1)]) hx hb dX10_readOther_141 rfl hl (by decide) rfl (fun ls hl => ?_)
        refine lv_aload_n hx hb dX10_readOther_142 rfl (lv_at hl 2 rfl) ?_
        refine bd_e h (fun v73 hq h => ?_)
        refine k_X10_fine hq cx hV mk_7_70 ⟨Nat.le_of_ble_eq_true rfl, Nat.le_of_ble_eq_true rfl⟩ ⟨Nat.zero_le _, Nat.zero_le _⟩ hl.1 (Nat.le_of_ble_eq_true rfl) dX10_readOther_143 (fun H locs hV => ?_)
        refine lv_if_eq (tgt := 156) hx hb dX10_readOther_146 (by decide) (fun hc => ?_) (fun hc => ?_)
        · have h := ifp hc h
          refine lv_goto (tgt := 549) hx hb dX10_readOther_156 (by decide) ?_
          have h1 := Option.some.inj h
          subst h1
          subst hQ
          exact r_vret cx hr hlk hV dX10_readOther_549
        · have h := ifn hc h
          refine lv_aload_n hx hb dX10_readOther_149 rfl (lv_at hl 2 rfl) ?_
          refine G_X10_newLies cx hV mk_6_119 dX10_readOther_150 ?_
          refine lv_iload_n hx hb dX10_readOther_153 rfl (lv_at hl 1 rfl) ?_
          refine lv_iload_n hx hb dX10_readOther_154 rfl (lv_at hl 0 rfl) ?_
          refine bd_e h (fun σ74 hq h => ?_)
          refine R_M_iast cx hV (by decide) hq dX10_readOther_155 (fun H locs hV => ?_)
          refine lv_goto (tgt := 549) hx hb dX10_readOther_156 (by decide) ?_
          have h1 := Option.some.inj h
          subst h1
          subst hQ
          exact r_vret cx hr hlk hV dX10_readOther_549
    · have h := ifp hc h
      refine lv_aload_n hx hb dX10_readOther_9 rfl (lv_at hl 0 rfl) ?_
      refine G_X10_newSleeves cx hV mk_6_126 dX10_readOther_10 ?_
      refine lv_istore_n (lv' := [(2, .int (gI σ 13)), (0, .ref (eA E 0)), (1, .int p1)]) hx hb dX10_readOther_13 rfl hl (by decide) rfl (fun ls hl => ?_)
      refine lv_aload_n hx hb dX10_readOther_14 rfl (lv_at hl 1 rfl) ?_
      refine G_X10_newSleeve cx hV mk_6_115 dX10_readOther_15 ?_
      refine lv_iconst (v := 3) hx hb dX10_readOther_18 (by decide) ?_
      refine lv_iload_n hx hb dX10_readOther_19 rfl (lv_at hl 0 rfl) ?_
      refine lv_imul hx hb dX10_readOther_20 ?_
      refine lv_aload_n hx hb dX10_readOther_21 rfl (lv_at hl 1 rfl) ?_
      refine lv_iconst (v := 0) hx hb dX10_readOther_22 (by decide) ?_
      refine lv_bipush (v := 25) hx hb dX10_readOther_23 (by decide) ?_
      refine bd2_e h (fun v75 σ76 hq h => ?_)
      refine k_X10_readNumber hq cx hV mk_7_114 ⟨Nat.le_of_ble_eq_true rfl, Nat.le_of_ble_eq_true rfl⟩ ⟨Nat.zero_le _, Nat.zero_le _⟩ hl.1 (Nat.le_of_ble_eq_true rfl) dX10_readOther_25 (fun H locs hV => ?_)
      refine bd_e h (fun σ77 hq h => ?_)
      refine R_M_iast cx hV (by decide) hq dX10_readOther_28 (fun H locs hV => ?_)
      refine lv_aload_n hx hb dX10_readOther_29 rfl (lv_at hl 1 rfl) ?_
      refine G_X10_newSleeve cx hV mk_6_115 dX10_readOther_30 ?_
      refine lv_iconst (v := 3) hx hb dX10_readOther_33 (by decide) ?_
      refine lv_iload_n hx hb dX10_readOther_34 rfl (lv_at hl 0 rfl) ?_
      refine lv_imul hx hb dX10_readOther_35 ?_
      refine lv_iconst (v := 1) hx hb dX10_readOther_36 (by decide) ?_
      refine lv_iadd hx hb dX10_readOther_37 ?_
      refine lv_aload_n hx hb dX10_readOther_38 rfl (lv_at hl 1 rfl) ?_
      refine lv_iconst (v := 1) hx hb dX10_readOther_39 (by decide) ?_
      refine lv_bipush (v := 99) hx hb dX10_readOther_40 (by decide) ?_
      refine bd2_e h (fun v78 σ79 hq h => ?_)
      refine k_X10_readNumber hq cx hV mk_7_114 ⟨Nat.le_of_ble_eq_true rfl, Nat.le_of_ble_eq_true rfl⟩ ⟨Nat.zero_le _, Nat.zero_le _⟩ hl.1 (Nat.le_of_ble_eq_true rfl) dX10_readOther_42 (fun H locs hV => ?_)
      refine bd_e h (fun σ80 hq h => ?_)
      refine R_M_iast cx hV (by decide) hq dX10_readOther_45 (fun H locs hV => ?_)
      refine lv_aload_n hx hb dX10_readOther_46 rfl (lv_at hl 1 rfl) ?_
      refine G_X10_newSleeve cx hV mk_6_115 dX10_readOther_47 ?_
      refine lv_iconst (v := 3) hx hb dX10_readOther_50 (by decide) ?_
      refine lv_iload_n hx hb dX10_readOther_51 rfl (lv_at hl 0 rfl) ?_
      refine lv_imul hx hb dX10_readOther_52 ?_
      refine lv_iconst (v := 2) hx hb dX10_readOther_53 (by decide) ?_
      refine lv_iadd hx hb dX10_readOther_54 ?_
      refine lv_aload_n hx hb dX10_readOther_55 rfl (lv_at hl 1 rfl) ?_
      refine lv_iconst (v := 0) hx hb dX10_readOther_56 (by decide) ?_
      refine lv_bipush (v := 9) hx hb dX10_readOther_57 (by decide) ?_
      refine bd2_e h (fun v81 σ82 hq h => ?_)
      refine k_X10_readNumber hq cx hV mk_7_114 ⟨Nat.le_of_ble_eq_true rfl, Nat.le_of_ble_eq_true rfl⟩ ⟨Nat.zero_le _, Nat.zero_le _⟩ hl.1 (Nat.le_of_ble_eq_true rfl) dX10_readOther_59 (fun H locs hV => ?_)
      refine bd_e h (fun σ83 hq h => ?_)
      refine R_M_iast cx hV (by decide) hq dX10_readOther_62 (fun H locs hV => ?_)
      refine lv_aload_n hx hb dX10_readOther_63 rfl (lv_at hl 1 rfl) ?_
      refine G_X10_newLies cx hV mk_6_119 dX10_readOther_64 ?_
      refine lv_iload_n hx hb dX10_readOther_67 rfl (lv_at hl 0 rfl) ?_
      refine lv_aload_n hx hb dX10_readOther_68 rfl (lv_at hl 1 rfl) ?_
      refine lv_aload_n hx hb dX10_readOther_69 rfl (lv_at hl 1 rfl) ?_
      refine G_X10_newSleeve cx hV mk_6_115 dX10_readOther_70 ?_
      refine lv_iconst (v := 3) hx hb dX10_readOther_73 (by decide) ?_
      refine lv_iload_n hx hb dX10_readOther_74 rfl (lv_at hl 0 rfl) ?_
      refine lv_imul hx hb dX10_readOther_75 ?_
      refine bd_e h (fun v84 hq h => ?_)
      refine R_M_iald cx hV (by decide) hq dX10_readOther_76 ?_
      refine lv_aload_n hx hb dX10_readOther_77 rfl (lv_at hl 1 rfl) ?_
      refine G_X10_newCrates cx hV mk_6_125 dX10_readOther_78 ?_
      refine lv_aload_n hx hb dX10_readOther_81 rfl (lv_at hl 1 rfl) ?_
      refine G_X10_newLetter cx hV mk_6_114 dX10_readOther_82 ?_
      refine bd_e h (fun v85 hq h => ?_)
      refine k_X10_ownOf (by decide) hq cx hV mk_7_125 ⟨Nat.le_of_ble_eq_true rfl, Nat.le_of_ble_eq_true rfl⟩ ⟨Nat.zero_le _, Nat.zero_le _⟩ hl.1 (Nat.le_of_ble_eq_true rfl) dX10_readOther_85 (fun H locs hV => ?_)
      refine bd_e h (fun σ86 hq h => ?_)
      refine R_M_iast cx hV (by decide) hq dX10_readOther_88 (fun H locs hV => ?_)
      refine lv_aload_n hx hb dX10_readOther_89 rfl (lv_at hl 1 rfl) ?_
      refine G_X10_newDisc cx hV mk_6_120 dX10_readOther_90 ?_
      refine lv_iload_n hx hb dX10_readOther_93 rfl (lv_at hl 0 rfl) ?_
      refine lv_iload_n hx hb dX10_readOther_94 rfl (lv_at hl 0 rfl) ?_
      refine bd_e h (fun σ87 hq h => ?_)
      refine R_M_iast cx hV (by decide) hq dX10_readOther_95 (fun H locs hV => ?_)
      refine lv_aload_n hx hb dX10_readOther_96 rfl (lv_at hl 1 rfl) ?_
      refine lv_dup hx hb dX10_readOther_97 rfl ?_
      refine G_X10_newSleeves cx hV mk_6_126 dX10_readOther_98 ?_
      refine lv_iconst (v := 1) hx hb dX10_readOther_101 (by decide) ?_
      refine lv_iadd hx hb dX10_readOther_102 ?_
      refine bd_e h (fun σ88 hq h => ?_)
      refine P_X10_newSleeves cx hV hq mk_6_126 dX10_readOther_103 (fun H locs hV => ?_)
      refine lv_goto (tgt := 549) hx hb dX10_readOther_106 (by decide) ?_
      have h1 := Option.some.inj h
      subst h1
      subst hQ
      exact r_vret cx hr hlk hV dX10_readOther_549
  rw [hH, hlocs] at goal
  exact goal
theorem k_X10_readOther {p : Program} {l : Launch} {e : Env} {R : Room} {s : State} {m : MethodId} {a : Array Value} {below : List Frame} {meth : Method} {c : Code} {H : Heap} {locs : List Loc} {cells slots : Nat} {Q : State → Prop} {cc : ByteArray} {own : String} {nL pc : Nat} {ls : Array Slot} {rest : List Value} {A : Nat → Prop} {E : EV} {X : va_W} {σ : St} {p1 : Int32} {σf : St} (h : x_X10_readOther p1 σ = some σf) (cx : CallFix p m c cc nL s a TBL own) (hV : AtW E (wM E σ ++ X) A s H locs) (hF : FZ E A s s.heap) {idx : Nat} (w1 : Cond.methodLink own idx yX10_readOther ∈ TBL) (hR : (rm_X10_readOther).frames + 1 ≤ R.frames ∧ 8 + (6 + 11) + (rm_X10_readOther).locals ≤ R.locals) (hcs : cells ≤ R.cells ∧ slots ≤ R.slots) (hls : ls.size = nL) (hcat : (rest.map fun v => v.category).sum ≤ 8) (d : decode cc pc = .ok (.invokevirtual idx, 3)) (kk : ∀ (H1 : Heap) (locs1 : List Loc), AtW E (wM E σf ++ X) A s H1 locs1 → W p l e R s m a below meth c H1 locs1 cells slots Q (F0 m (pc + 3) ls (rest))) : W p l e R s m a below meth c H locs cells slots Q (F0 m pc ls (.int p1 :: .ref (eA E 0) :: rest)) :=
  r_callFv (n := 1) (As := [.int p1]) (q0 := 0) (ci := 10) (qq := (RX10, TX10, 64)) (c_X10_readOther h) wM_fst rfl rfl mk_7_123 mk_P_71 mk_1_11 mk_7_124 (by decide +kernel) rfl ⟨rfl, rfl⟩ cx hV hF w1 hR hcs hls rfl hcat d kk
def x_X10_isOther (p1 : Int32) : Option Int32 :=
  bd (x_X10_of 1) fun v1 =>
  (if p1 = v1 then
  some 1
  else
  bd (x_X10_of 2) fun v2 =>
  (if p1 = v2 then
  some 1
  else
  bd (x_X10_of 3) fun v3 =>
  (if p1 = v3 then
  some 1
  else
  bd (x_X10_of 4) fun v4 =>
  (if p1 = v4 then
  some 1
  else
  bd (x_X10_of 5) fun v5 =>
  (if p1 = v5 then
  some 1
  else
  bd (x_X10_of 6) fun v6 =>
  (if p1 = v6 then
  some 1
  else
  bd (x_X10_of 7) fun v7 =>
  (if p1 = v7 then
  some 1
  else
  bd (x_X10_of 8) fun v8 =>
  (if p1 = v8 then
  some 1
  else
  some 0))))))))
abbrev rm_X10_isOther : Room := { frames := 5, cells := 0, slots := 0, locals := 107 }
set_option maxHeartbeats 4000000 in
set_option maxRecDepth 100000 in
theorem c_X10_isOther {l : Launch} {E : EV} {V : va_W} {p1 : Int32} {rv : Int32} (h : x_X10_isOther p1 = some rv) : CMF l yX10_isOther cX10_isOther 1 (some .boolean) rm_X10_isOther [.int p1] E V V (qI rv) := by
  refine CMF.start (by decide) (Nat.le_of_ble_eq_true rfl) (fun p e s m a below meth c A ls cx hr hlk hV hF hl => ?_)
  have cx : CallFix p m c cX10_isOther 1 s a TBL RX10 := cx
  have hx := cx.1
  have hb := cx.2.1
  have hl : lv_has ls 1 [(0, .int p1)] := hl
  generalize hQ : EQ E V (qI rv) A s a below = QQ
  obtain ⟨H, hH⟩ : ∃ H, H = s.heap := ⟨_, rfl⟩
  obtain ⟨locs, hlocs⟩ : ∃ z, z = ([] : List Loc) := ⟨_, rfl⟩
  have hV : AtW E V A s H locs := by rw [hH, hlocs]; exact hV
  have goal : W p l e rm_X10_isOther s m a below meth c H locs 0 0 QQ (F0 m 0 ls []) := by
    unfold x_X10_isOther at h
    refine lv_iload_n hx hb dX10_isOther_0 rfl (lv_at hl 0 rfl) ?_
    refine va_ldcS hx hb cx.2.2.2.1 (hF.2.2.2.2.2.1 1 (by decide)) dX10_isOther_1 ?_
    refine bd_e h (fun v1 hq h => ?_)
    refine k_X10_of (by decide) hq cx hV hF mk_7_90 ⟨Nat.le_of_ble_eq_true rfl, Nat.le_of_ble_eq_true rfl⟩ ⟨Nat.zero_le _, Nat.zero_le _⟩ hl.1 (Nat.le_of_ble_eq_true rfl) dX10_isOther_3 (fun H locs hV => ?_)
    refine lv_icmp_eq (tgt := 72) hx hb dX10_isOther_6 (by decide) (fun hc => ?_) (fun hc => ?_)
    · have h := ifp hc h
      refine lv_iconst (v := 1) hx hb dX10_isOther_72 (by decide) ?_
      refine lv_goto (tgt := 77) hx hb dX10_isOther_73 (by decide) ?_
      have h1 := Option.some.inj h
      subst h1
      subst hQ
      exact r_zreti cx hr hlk hV (Or.inr rfl) dX10_isOther_77
    · have h := ifn hc h
      refine lv_iload_n hx hb dX10_isOther_9 rfl (lv_at hl 0 rfl) ?_
      refine va_ldcS hx hb cx.2.2.2.1 (hF.2.2.2.2.2.1 2 (by decide)) dX10_isOther_10 ?_
      refine bd_e h (fun v2 hq h => ?_)
      refine k_X10_of (by decide) hq cx hV hF mk_7_90 ⟨Nat.le_of_ble_eq_true rfl, Nat.le_of_ble_eq_true rfl⟩ ⟨Nat.zero_le _, Nat.zero_le _⟩ hl.1 (Nat.le_of_ble_eq_true rfl) dX10_isOther_12 (fun H locs hV => ?_)
      refine lv_icmp_eq (tgt := 72) hx hb dX10_isOther_15 (by decide) (fun hc => ?_) (fun hc => ?_)
      · have h := ifp hc h
        refine lv_iconst (v := 1) hx hb dX10_isOther_72 (by decide) ?_
        refine lv_goto (tgt := 77) hx hb dX10_isOther_73 (by decide) ?_
        have h1 := Option.some.inj h
        subst h1
        subst hQ
        exact r_zreti cx hr hlk hV (Or.inr rfl) dX10_isOther_77
      · have h := ifn hc h
        refine lv_iload_n hx hb dX10_isOther_18 rfl (lv_at hl 0 rfl) ?_
        refine va_ldcS hx hb cx.2.2.2.1 (hF.2.2.2.2.2.1 3 (by decide)) dX10_isOther_19 ?_
        refine bd_e h (fun v3 hq h => ?_)
        refine k_X10_of (by decide) hq cx hV hF mk_7_90 ⟨Nat.le_of_ble_eq_true rfl, Nat.le_of_ble_eq_true rfl⟩ ⟨Nat.zero_le _, Nat.zero_le _⟩ hl.1 (Nat.le_of_ble_eq_true rfl) dX10_isOther_21 (fun H locs hV => ?_)
        refine lv_icmp_eq (tgt := 72) hx hb dX10_isOther_24 (by decide) (fun hc => ?_) (fun hc => ?_)
        · have h := ifp hc h
          refine lv_iconst (v := 1) hx hb dX10_isOther_72 (by decide) ?_
          refine lv_goto (tgt := 77) hx hb dX10_isOther_73 (by decide) ?_
          have h1 := Option.some.inj h
          subst h1
          subst hQ
          exact r_zreti cx hr hlk hV (Or.inr rfl) dX10_isOther_77
        · have h := ifn hc h
          refine lv_iload_n hx hb dX10_isOther_27 rfl (lv_at hl 0 rfl) ?_
          refine va_ldcS hx hb cx.2.2.2.1 (hF.2.2.2.2.2.1 4 (by decide)) dX10_isOther_28 ?_
          refine bd_e h (fun v4 hq h => ?_)
          refine k_X10_of (by decide) hq cx hV hF mk_7_90 ⟨Nat.le_of_ble_eq_true rfl, Nat.le_of_ble_eq_true rfl⟩ ⟨Nat.zero_le _, Nat.zero_le _⟩ hl.1 (Nat.le_of_ble_eq_true rfl) dX10_isOther_30 (fun H locs hV => ?_)
          refine lv_icmp_eq (tgt := 72) hx hb dX10_isOther_33 (by decide) (fun hc => ?_) (fun hc => ?_)
          · have h := ifp hc h
            refine lv_iconst (v := 1) hx hb dX10_isOther_72 (by decide) ?_
            refine lv_goto (tgt := 77) hx hb dX10_isOther_73 (by decide) ?_
            have h1 := Option.some.inj h
            subst h1
            subst hQ
            exact r_zreti cx hr hlk hV (Or.inr rfl) dX10_isOther_77
          · have h := ifn hc h
            refine lv_iload_n hx hb dX10_isOther_36 rfl (lv_at hl 0 rfl) ?_
            refine va_ldcS hx hb cx.2.2.2.1 (hF.2.2.2.2.2.1 5 (by decide)) dX10_isOther_37 ?_
            refine bd_e h (fun v5 hq h => ?_)
            refine k_X10_of (by decide) hq cx hV hF mk_7_90 ⟨Nat.le_of_ble_eq_true rfl, Nat.le_of_ble_eq_true rfl⟩ ⟨Nat.zero_le _, Nat.zero_le _⟩ hl.1 (Nat.le_of_ble_eq_true rfl) dX10_isOther_39 (fun H locs hV => ?_)
            refine lv_icmp_eq (tgt := 72) hx hb dX10_isOther_42 (by decide) (fun hc => ?_) (fun hc => ?_)
            · have h := ifp hc h
              refine lv_iconst (v := 1) hx hb dX10_isOther_72 (by decide) ?_
              refine lv_goto (tgt := 77) hx hb dX10_isOther_73 (by decide) ?_
              have h1 := Option.some.inj h
              subst h1
              subst hQ
              exact r_zreti cx hr hlk hV (Or.inr rfl) dX10_isOther_77
            · have h := ifn hc h
              refine lv_iload_n hx hb dX10_isOther_45 rfl (lv_at hl 0 rfl) ?_
              refine va_ldcS hx hb cx.2.2.2.1 (hF.2.2.2.2.2.1 6 (by decide)) dX10_isOther_46 ?_
              refine bd_e h (fun v6 hq h => ?_)
              refine k_X10_of (by decide) hq cx hV hF mk_7_90 ⟨Nat.le_of_ble_eq_true rfl, Nat.le_of_ble_eq_true rfl⟩ ⟨Nat.zero_le _, Nat.zero_le _⟩ hl.1 (Nat.le_of_ble_eq_true rfl) dX10_isOther_48 (fun H locs hV => ?_)
              refine lv_icmp_eq (tgt := 72) hx hb dX10_isOther_51 (by decide) (fun hc => ?_) (fun hc => ?_)
              · have h := ifp hc h
                refine lv_iconst (v := 1) hx hb dX10_isOther_72 (by decide) ?_
                refine lv_goto (tgt := 77) hx hb dX10_isOther_73 (by decide) ?_
                have h1 := Option.some.inj h
                subst h1
                subst hQ
                exact r_zreti cx hr hlk hV (Or.inr rfl) dX10_isOther_77
              · have h := ifn hc h
                refine lv_iload_n hx hb dX10_isOther_54 rfl (lv_at hl 0 rfl) ?_
                refine va_ldcS hx hb cx.2.2.2.1 (hF.2.2.2.2.2.1 7 (by decide)) dX10_isOther_55 ?_
                refine bd_e h (fun v7 hq h => ?_)
                refine k_X10_of (by decide) hq cx hV hF mk_7_90 ⟨Nat.le_of_ble_eq_true rfl, Nat.le_of_ble_eq_true rfl⟩ ⟨Nat.zero_le _, Nat.zero_le _⟩ hl.1 (Nat.le_of_ble_eq_true rfl) dX10_isOther_57 (fun H locs hV => ?_)
                refine lv_icmp_eq (tgt := 72) hx hb dX10_isOther_60 (by decide) (fun hc => ?_) (fun hc => ?_)
                · have h := ifp hc h
                  refine lv_iconst (v := 1) hx hb dX10_isOther_72 (by decide) ?_
                  refine lv_goto (tgt := 77) hx hb dX10_isOther_73 (by decide) ?_
                  have h1 := Option.some.inj h
                  subst h1
                  subst hQ
                  exact r_zreti cx hr hlk hV (Or.inr rfl) dX10_isOther_77
                · have h := ifn hc h
                  refine lv_iload_n hx hb dX10_isOther_63 rfl (lv_at hl 0 rfl) ?_
                  refine va_ldcS hx hb cx.2.2.2.1 (hF.2.2.2.2.2.1 8 (by decide)) dX10_isOther_64 ?_
                  refine bd_e h (fun v8 hq h => ?_)
                  refine k_X10_of (by decide) hq cx hV hF mk_7_90 ⟨Nat.le_of_ble_eq_true rfl, Nat.le_of_ble_eq_true rfl⟩ ⟨Nat.zero_le _, Nat.zero_le _⟩ hl.1 (Nat.le_of_ble_eq_true rfl) dX10_isOther_66 (fun H locs hV => ?_)
                  refine lv_icmp_ne (tgt := 76) hx hb dX10_isOther_69 (by decide) (fun hc => ?_) (fun hc => ?_)
                  · have h := ifn hc h
                    refine lv_iconst (v := 0) hx hb dX10_isOther_76 (by decide) ?_
                    have h1 := Option.some.inj h
                    subst h1
                    subst hQ
                    exact r_zreti cx hr hlk hV (Or.inl rfl) dX10_isOther_77
                  · have h := ifp hc h
                    refine lv_iconst (v := 1) hx hb dX10_isOther_72 (by decide) ?_
                    refine lv_goto (tgt := 77) hx hb dX10_isOther_73 (by decide) ?_
                    have h1 := Option.some.inj h
                    subst h1
                    subst hQ
                    exact r_zreti cx hr hlk hV (Or.inr rfl) dX10_isOther_77
  rw [hH, hlocs] at goal
  exact goal
theorem k_X10_isOther {p : Program} {l : Launch} {e : Env} {R : Room} {s : State} {m : MethodId} {a : Array Value} {below : List Frame} {meth : Method} {c : Code} {H : Heap} {locs : List Loc} {cells slots : Nat} {Q : State → Prop} {cc : ByteArray} {own : String} {nL pc : Nat} {ls : Array Slot} {rest : List Value} {A : Nat → Prop} {E : EV} {V : va_W} {p1 : Int32} {rv : Int32} (h : x_X10_isOther p1 = some rv) (cx : CallFix p m c cc nL s a TBL own) (hV : AtW E V A s H locs) (hF : FZ E A s s.heap) {idx : Nat} (w1 : Cond.methodLink own idx yX10_isOther ∈ TBL) (hR : (rm_X10_isOther).frames + 1 ≤ R.frames ∧ 8 + (1 + 11) + (rm_X10_isOther).locals ≤ R.locals) (hcs : cells ≤ R.cells ∧ slots ≤ R.slots) (hls : ls.size = nL) (hcat : (rest.map fun v => v.category).sum ≤ 8) (d : decode cc pc = .ok (.invokestatic idx, 3)) (kk : ∀ (H1 : Heap) (locs1 : List Loc), AtW E V A s H1 locs1 → W p l e R s m a below meth c H1 locs1 cells slots Q (F0 m (pc + 3) ls (.int rv :: rest))) : W p l e R s m a below meth c H locs cells slots Q (F0 m pc ls (.int p1 :: rest)) :=
  r_stFi (n := 1) (As := [.int p1]) (c_X10_isOther h) rfl mk_7_96 mk_1_11 mk_7_97 (by decide +kernel) rfl ⟨rfl, rfl⟩ cx hV hF w1 hR hcs hls rfl hcat d kk
def x_X10_shop_b296 (σ1 : St) : Option (Int32 × St) :=
  bd2 (x_X10_result (gI σ1 13) σ1) fun v2 σ3 =>
  (if (gI σ3 4) = (-1) then
  bd (x_X10_sets σ3) fun σ4 =>
  some (v2, σ4)
  else
  some (v2, σ3))
def x_X10_shop_b46_284 (w15 : Int32) (w16 : Int32) (σ17 : St) : Option (Bool × (Int32 × Int32 × St)) :=
  bd (x_X10_sign 59 σ17) fun σ18 =>
  some (true, ((w15 + 1), w16, σ18))
def x_X10_shop_b46_262 (w19 : Int32) (w20 : Int32) (w21 : Int32) (w22 : Int32) (σ23 : St) : Option (Bool × (Int32 × Int32 × St)) :=
  bd (stI σ23 9 (lenM 9) w21 w22) fun σ24 =>
  bd (some (sI σ24 12 ((gI σ24 12) + 1))) fun σ25 =>
  x_X10_shop_b46_284 w19 w20 σ25
def x_X10_shop_b46_200 (w26 : Int32) (w27 : Int32) (w28 : Int32) (w29 : Int32) (σ30 : St) : Option (Bool × (Int32 × Int32 × St)) :=
  bd (x_X10_fine σ30) fun v31 =>
  (if v31 = 0 then
  some (false, (w26, w27, σ30))
  else
  bd (x_X10_pass σ30) fun σ32 =>
  (if w29 = 0 then
  bd (x_X10_readOther w28 σ32) fun σ33 =>
  x_X10_shop_b46_284 w26 1 σ33
  else
  (if (gI σ32 12) = 0 then
  bd2 (x_X10_readNumber 0 0 σ32) fun v37 σ38 =>
  x_X10_shop_b46_262 w26 w27 (gI σ32 12) v37 σ38
  else
  bd (ldI (gA σ32 9) (lenM 9) ((gI σ32 12) - 1)) fun v34 =>
  bd2 (x_X10_readNumber (v34 + 1) 25 σ32) fun v35 σ36 =>
  x_X10_shop_b46_262 w26 w27 (gI σ32 12) v35 σ36)))
def x_X10_shop_b46_182 (w39 : Int32) (w40 : Int32) (w41 : Int32) (w42 : Int32) (σ43 : St) : Option (Bool × (Int32 × Int32 × St)) :=
  (if w42 = 0 then
  x_X10_shop_b46_200 w39 w40 w41 w42 σ43
  else
  (if w40 = 0 then
  x_X10_shop_b46_200 w39 w40 w41 w42 σ43
  else
  bd (x_X10_wrong 4 (gI σ43 3) σ43) fun σ44 =>
  x_X10_shop_b46_200 w39 w40 w41 w42 σ44))
def x_X10_shop_b46_170 (w45 : Int32) (w46 : Int32) (w47 : Int32) (w48 : Int32) (σ49 : St) : Option (Bool × (Int32 × Int32 × St)) :=
  bd (x_X10_wrong 3 (gI σ49 3) σ49) fun σ50 =>
  x_X10_shop_b46_200 w45 w46 w47 w48 σ50
def x_X10_shop_b46_151 (w51 : Int32) (w52 : Int32) (w53 : Int32) (w54 : Int32) (σ55 : St) : Option (Bool × (Int32 × Int32 × St)) :=
  bd (x_X10_of 4) fun v56 =>
  (if w53 = v56 then
  (if (gI σ55 14) = 6 then
  x_X10_shop_b46_170 w51 w52 w53 w54 σ55
  else
  x_X10_shop_b46_182 w51 w52 w53 w54 σ55)
  else
  x_X10_shop_b46_182 w51 w52 w53 w54 σ55)
def x_X10_shop_b46_132 (w57 : Int32) (w58 : Int32) (w59 : Int32) (w60 : Int32) (σ61 : St) : Option (Bool × (Int32 × Int32 × St)) :=
  bd (x_X10_of 1) fun v62 =>
  (if w59 = v62 then
  (if (gI σ61 13) = 24 then
  x_X10_shop_b46_170 w57 w58 w59 w60 σ61
  else
  x_X10_shop_b46_151 w57 w58 w59 w60 σ61)
  else
  x_X10_shop_b46_151 w57 w58 w59 w60 σ61)
def x_X10_shop_b46_112 (w63 : Int32) (w64 : Int32) (w65 : Int32) (w66 : Int32) (σ67 : St) : Option (Bool × (Int32 × Int32 × St)) :=
  (if w63 = 60 then
  x_X10_shop_b46_170 w63 w64 w65 w66 σ67
  else
  (if w66 = 0 then
  x_X10_shop_b46_132 w63 w64 w65 w66 σ67
  else
  (if (gI σ67 12) = 8 then
  x_X10_shop_b46_170 w63 w64 w65 w66 σ67
  else
  x_X10_shop_b46_132 w63 w64 w65 w66 σ67)))
def x_X10_shop_b46_100 (w68 : Int32) (w69 : Int32) (w70 : Int32) (w71 : Int32) (σ72 : St) : Option (Bool × (Int32 × Int32 × St)) :=
  bd (x_X10_wrong 1 (gI σ72 3) σ72) fun σ73 =>
  x_X10_shop_b46_200 w68 w69 w70 w71 σ73
def x_X10_shop_b46_81 (w74 : Int32) (w75 : Int32) (w76 : Int32) (w77 : Int32) (σ78 : St) : Option (Bool × (Int32 × Int32 × St)) :=
  (if w77 = 0 then
  bd (x_X10_isOther w76) fun v79 =>
  (if v79 = 0 then
  x_X10_shop_b46_100 w74 w75 w76 w77 σ78
  else
  (if w74 = 0 then
  x_X10_shop_b46_100 w74 w75 w76 w77 σ78
  else
  x_X10_shop_b46_112 w74 w75 w76 w77 σ78))
  else
  x_X10_shop_b46_112 w74 w75 w76 w77 σ78)
def x_X10_shop_L46 (u12 : Int32) (u13 : Int32) (σ14 : St) : Option (Bool × (Int32 × Int32 × St)) :=
  bd (x_X10_fine σ14) fun v80 =>
  (if v80 = 0 then
  some (false, (u12, u13, σ14))
  else
  bd2 (x_X10_isMore σ14) fun v81 σ82 =>
  (if v81 = 0 then
  some (false, (u12, u13, σ82))
  else
  bd2 (x_X10_word σ82) fun v83 σ84 =>
  bd (x_X10_of 0) fun v85 =>
  (if v83 = v85 then
  x_X10_shop_b46_81 u12 u13 v83 1 σ84
  else
  x_X10_shop_b46_81 u12 u13 v83 0 σ84)))
def x_X10_shop_b23 (w5 : Int32) (w6 : Int32) (σ7 : St) : Option (Int32 × St) :=
  bd2 (x_X10_may w6 1 2 σ7) fun v8 σ9 =>
  (if v8 = 0 then
  some (0, σ9)
  else
  bd (x_X10_begins w5 σ9) fun σ10 =>
  bd (x_X10_clears σ10) fun σ11 =>
  bd3 (lp (fun v : (Int32 × Int32 × St) => x_X10_shop_L46 v.1 v.2.1 v.2.2) FU (0, 0, σ11)) fun z86 z87 σ88 =>
  x_X10_shop_b296 σ88)
def x_X10_shop_b22 (w89 : Int32) (σ90 : St) : Option (Int32 × St) :=
  x_X10_shop_b23 w89 0 σ90
def x_X10_shop (p1 : Int32) (σ : St) : Option (Int32 × St) :=
  bd (some (sI σ 0 0)) fun σ91 =>
  (if p1 < 0 then
  x_X10_shop_b22 p1 σ91
  else
  (if (gI σ91 1) < p1 then
  x_X10_shop_b22 p1 σ91
  else
  x_X10_shop_b23 p1 1 σ91))
abbrev rm_X10_shop : Room := { frames := 6, cells := 0, slots := 0, locals := 132 }
set_option maxHeartbeats 4000000 in
set_option maxRecDepth 100000 in
theorem c_X10_shop {l : Launch} {E : EV} {X : va_W} {σ : St} {p1 : Int32} {rv : Int32} {σf : St} (h : x_X10_shop p1 σ = some (rv, σf)) : CMF l yX10_shop cX10_shop 6 (some .int) rm_X10_shop [.ref (eA E 0), .int p1] E (wM E σ ++ X) (wM E σf ++ X) (qI rv) := by
  refine CMF.start (by decide) (Nat.le_of_ble_eq_true rfl) (fun p e s m a below meth c A ls cx hr hlk hV hF hl => ?_)
  have cx : CallFix p m c cX10_shop 6 s a TBL RX10 := cx
  have hx := cx.1
  have hb := cx.2.1
  have hl : lv_has ls 6 [(0, .ref (eA E 0)), (1, .int p1)] := hl
  generalize hQ : EQ E (wM E σf ++ X) (qI rv) A s a below = QQ
  obtain ⟨H, hH⟩ : ∃ H, H = s.heap := ⟨_, rfl⟩
  obtain ⟨locs, hlocs⟩ : ∃ z, z = ([] : List Loc) := ⟨_, rfl⟩
  have hV : AtW E (wM E σ ++ X) A s H locs := by rw [hH, hlocs]; exact hV
  have goal : W p l e rm_X10_shop s m a below meth c H locs 0 0 QQ (F0 m 0 ls []) := by
    unfold x_X10_shop at h
    have hj296 : ∀ (σ1 : St) (H : Heap) (locs : List Loc) (ls : Array Slot), x_X10_shop_b296 σ1 = some (rv, σf) → AtW E (wM E σ1 ++ X) A s H locs → lv_has ls 6 [(0, .ref (eA E 0))] → W p l e rm_X10_shop s m a below meth c H locs 0 0 QQ (F0 m 296 ls []) := by
      intro σ1 H locs ls h hV hl
      unfold x_X10_shop_b296 at h
      refine lv_aload_n hx hb dX10_shop_296 rfl (lv_at hl 0 rfl) ?_
      refine lv_aload_n hx hb dX10_shop_297 rfl (lv_at hl 0 rfl) ?_
      refine G_X10_newSleeves cx hV mk_6_126 dX10_shop_298 ?_
      refine bd2_e h (fun v2 σ3 hq h => ?_)
      refine k_X10_result hq cx hV mk_7_133 ⟨Nat.le_of_ble_eq_true rfl, Nat.le_of_ble_eq_true rfl⟩ ⟨Nat.zero_le _, Nat.zero_le _⟩ hl.1 (Nat.le_of_ble_eq_true rfl) dX10_shop_301 (fun H locs hV => ?_)
      refine lv_istore (lv' := [(4, .int v2), (0, .ref (eA E 0))]) hx hb dX10_shop_304 hl (by decide) rfl (fun ls hl => ?_)
      refine lv_aload_n hx hb dX10_shop_306 rfl (lv_at hl 1 rfl) ?_
      refine G_X10_bad cx hV mk_6_102 dX10_shop_307 ?_
      refine lv_iconst (v := (-1)) hx hb dX10_shop_310 (by decide) ?_
      refine lv_icmp_ne (tgt := 318) hx hb dX10_shop_311 (by decide) (fun hc => ?_) (fun hc => ?_)
      · have h := ifn hc h
        refine lv_iload hx hb dX10_shop_318 (lv_at hl 0 rfl) ?_
        obtain ⟨h1, h2⟩ := Prod.mk.inj (Option.some.inj h)
        subst h1
        subst h2
        subst hQ
        exact r_ireti cx hr hlk hV dX10_shop_320
      · have h := ifp hc h
        refine lv_aload_n hx hb dX10_shop_314 rfl (lv_at hl 1 rfl) ?_
        refine bd_e h (fun σ4 hq h => ?_)
        refine k_X10_sets hq cx hV mk_6_89 ⟨Nat.le_of_ble_eq_true rfl, Nat.le_of_ble_eq_true rfl⟩ ⟨Nat.zero_le _, Nat.zero_le _⟩ hl.1 (Nat.le_of_ble_eq_true rfl) dX10_shop_315 (fun H locs hV => ?_)
        refine lv_iload hx hb dX10_shop_318 (lv_at hl 0 rfl) ?_
        obtain ⟨h1, h2⟩ := Prod.mk.inj (Option.some.inj h)
        subst h1
        subst h2
        subst hQ
        exact r_ireti cx hr hlk hV dX10_shop_320
    have hj23 : ∀ (w5 : Int32) (w6 : Int32) (σ7 : St) (H : Heap) (locs : List Loc) (ls : Array Slot), x_X10_shop_b23 w5 w6 σ7 = some (rv, σf) → AtW E (wM E σ7 ++ X) A s H locs → lv_has ls 6 [(0, .ref (eA E 0)), (1, .int w5)] → W p l e rm_X10_shop s m a below meth c H locs 0 0 QQ (F0 m 23 ls [.int w6, .ref (eA E 0)]) := by
      intro w5 w6 σ7 H locs ls h hV hl
      unfold x_X10_shop_b23 at h
      refine lv_iconst (v := 1) hx hb dX10_shop_23 (by decide) ?_
      refine lv_iconst (v := 2) hx hb dX10_shop_24 (by decide) ?_
      refine bd2_e h (fun v8 σ9 hq h => ?_)
      refine k_X10_may hq cx hV mk_7_62 ⟨Nat.le_of_ble_eq_true rfl, Nat.le_of_ble_eq_true rfl⟩ ⟨Nat.zero_le _, Nat.zero_le _⟩ hl.1 (Nat.le_of_ble_eq_true rfl) dX10_shop_25 (fun H locs hV => ?_)
      refine lv_if_ne (tgt := 33) hx hb dX10_shop_28 (by decide) (fun hc => ?_) (fun hc => ?_)
      · have h := ifn hc h
        refine lv_aload_n hx hb dX10_shop_33 rfl (lv_at hl 0 rfl) ?_
        refine lv_iload_n hx hb dX10_shop_34 rfl (lv_at hl 1 rfl) ?_
        refine bd_e h (fun σ10 hq h => ?_)
        refine k_X10_begins hq cx hV mk_7_66 ⟨Nat.le_of_ble_eq_true rfl, Nat.le_of_ble_eq_true rfl⟩ ⟨Nat.zero_le _, Nat.zero_le _⟩ hl.1 (Nat.le_of_ble_eq_true rfl) dX10_shop_35 (fun H locs hV => ?_)
        refine lv_aload_n hx hb dX10_shop_38 rfl (lv_at hl 0 rfl) ?_
        refine bd_e h (fun σ11 hq h => ?_)
        refine k_X10_clears hq cx hV mk_6_85 ⟨Nat.le_of_ble_eq_true rfl, Nat.le_of_ble_eq_true rfl⟩ ⟨Nat.zero_le _, Nat.zero_le _⟩ hl.1 (Nat.le_of_ble_eq_true rfl) dX10_shop_39 (fun H locs hV => ?_)
        refine lv_iconst (v := 0) hx hb dX10_shop_42 (by decide) ?_
        refine lv_istore_n (lv' := [(2, .int 0), (0, .ref (eA E 0)), (1, .int w5)]) hx hb dX10_shop_43 rfl hl (by decide) rfl (fun ls hl => ?_)
        refine lv_iconst (v := 0) hx hb dX10_shop_44 (by decide) ?_
        refine lv_istore_n (lv' := [(3, .int 0), (2, .int 0), (0, .ref (eA E 0)), (1, .int w5)]) hx hb dX10_shop_45 rfl hl (by decide) rfl (fun ls hl => ?_)
        refine bd3_e h (fun z86 z87 σ88 ho h => ?_)
        refine (lp_rule (G := (fun v : (Int32 × Int32 × St) => ∀ (H : Heap) (locs : List Loc) (ls : Array Slot), AtW E (wM E v.2.2 ++ X) A s H locs → lv_has ls 6 [(0, .ref (eA E 0)), (2, .int v.1), (3, .int v.2.1)] → W p l e rm_X10_shop s m a below meth c H locs 0 0 QQ (F0 m 46 ls []))) (K := (fun v : (Int32 × Int32 × St) => ∀ (H : Heap) (locs : List Loc) (ls : Array Slot), AtW E (wM E v.2.2 ++ X) A s H locs → lv_has ls 6 [(0, .ref (eA E 0))] → W p l e rm_X10_shop s m a below meth c H locs 0 0 QQ (F0 m 296 ls []))) (fun v b1 y1 h hT1 hF1 => ?_) ho (fun H locs ls hV hl => ?_)) _ _ _ hV (lv_sub hl [2, 1, 0] rfl)
        · have hj46_284 : ∀ (w15 : Int32) (w16 : Int32) (σ17 : St) (H : Heap) (locs : List Loc) (ls : Array Slot), x_X10_shop_b46_284 w15 w16 σ17 = some (b1, y1) → AtW E (wM E σ17 ++ X) A s H locs → lv_has ls 6 [(0, .ref (eA E 0)), (2, .int w15), (3, .int w16)] → W p l e rm_X10_shop s m a below meth c H locs 0 0 QQ (F0 m 284 ls []) := by
            intro w15 w16 σ17 H locs ls h hV hl
            unfold x_X10_shop_b46_284 at h
            refine lv_aload_n hx hb dX10_shop_284 rfl (lv_at hl 0 rfl) ?_
            refine lv_bipush (v := 59) hx hb dX10_shop_285 (by decide) ?_
            refine bd_e h (fun σ18 hq h => ?_)
            refine k_X10_sign hq cx hV mk_7_129 ⟨Nat.le_of_ble_eq_true rfl, Nat.le_of_ble_eq_true rfl⟩ ⟨Nat.zero_le _, Nat.zero_le _⟩ hl.1 (Nat.le_of_ble_eq_true rfl) dX10_shop_287 (fun H locs hV => ?_)
            refine lv_iinc (v := (w15 + 1)) (lv' := [(2, .int (w15 + 1)), (0, .ref (eA E 0)), (3, .int w16)]) hx hb dX10_shop_290 hl (k := 1) rfl rfl (by decide) rfl (fun ls hl => ?_)
            refine lv_goto (tgt := 46) hx hb dX10_shop_293 (by decide) ?_
            cases h
            exact hT1 rfl _ _ _ hV (lv_sub hl [1, 0, 2] rfl)
          have hj46_262 : ∀ (w19 : Int32) (w20 : Int32) (w21 : Int32) (w22 : Int32) (σ23 : St) (H : Heap) (locs : List Loc) (ls : Array Slot), x_X10_shop_b46_262 w19 w20 w21 w22 σ23 = some (b1, y1) → AtW E (wM E σ23 ++ X) A s H locs → lv_has ls 6 [(0, .ref (eA E 0)), (2, .int w19), (3, .int w20)] → W p l e rm_X10_shop s m a below meth c H locs 0 0 QQ (F0 m 262 ls [.int w22, .int w21, .ref (eA E (pM 9))]) := by
            intro w19 w20 w21 w22 σ23 H locs ls h hV hl
            unfold x_X10_shop_b46_262 at h
            refine bd_e h (fun σ24 hq h => ?_)
            refine R_M_iast cx hV (by decide) hq dX10_shop_262 (fun H locs hV => ?_)
            refine lv_aload_n hx hb dX10_shop_263 rfl (lv_at hl 0 rfl) ?_
            refine lv_dup hx hb dX10_shop_264 rfl ?_
            refine G_X10_newCrates cx hV mk_6_125 dX10_shop_265 ?_
            refine lv_iconst (v := 1) hx hb dX10_shop_268 (by decide) ?_
            refine lv_iadd hx hb dX10_shop_269 ?_
            refine bd_e h (fun σ25 hq h => ?_)
            refine P_X10_newCrates cx hV hq mk_6_125 dX10_shop_270 (fun H locs hV => ?_)
            refine lv_goto (tgt := 284) hx hb dX10_shop_273 (by decide) ?_
            exact hj46_284 w19 w20 σ25 _ _ _ h hV (lv_sub hl [0, 1, 2] rfl)
          have hj46_200 : ∀ (w26 : Int32) (w27 : Int32) (w28 : Int32) (w29 : Int32) (σ30 : St) (H : Heap) (locs : List Loc) (ls : Array Slot), x_X10_shop_b46_200 w26 w27 w28 w29 σ30 = some (b1, y1) → AtW E (wM E σ30 ++ X) A s H locs → lv_has ls 6 [(0, .ref (eA E 0)), (2, .int w26), (3, .int w27), (4, .int w28), (5, .int w29)] → W p l e rm_X10_shop s m a below meth c H locs 0 0 QQ (F0 m 200 ls []) := by
            intro w26 w27 w28 w29 σ30 H locs ls h hV hl
            unfold x_X10_shop_b46_200 at h
            refine lv_aload_n hx hb dX10_shop_200 rfl (lv_at hl 0 rfl) ?_
            refine bd_e h (fun v31 hq h => ?_)
            refine k_X10_fine hq cx hV mk_7_70 ⟨Nat.le_of_ble_eq_true rfl, Nat.le_of_ble_eq_true rfl⟩ ⟨Nat.zero_le _, Nat.zero_le _⟩ hl.1 (Nat.le_of_ble_eq_true rfl) dX10_shop_201 (fun H locs hV => ?_)
            refine lv_if_ne (tgt := 210) hx hb dX10_shop_204 (by decide) (fun hc => ?_) (fun hc => ?_)
            · have h := ifn hc h
              refine lv_aload_n hx hb dX10_shop_210 rfl (lv_at hl 0 rfl) ?_
              refine bd_e h (fun σ32 hq h => ?_)
              refine k_X10_pass hq cx hV mk_7_110 ⟨Nat.le_of_ble_eq_true rfl, Nat.le_of_ble_eq_true rfl⟩ ⟨Nat.zero_le _, Nat.zero_le _⟩ hl.1 (Nat.le_of_ble_eq_true rfl) dX10_shop_211 (fun H locs hV => ?_)
              refine lv_iload hx hb dX10_shop_214 (lv_at hl 4 rfl) ?_
              refine lv_if_eq (tgt := 276) hx hb dX10_shop_216 (by decide) (fun hc => ?_) (fun hc => ?_)
              · have h := ifp hc h
                refine lv_aload_n hx hb dX10_shop_276 rfl (lv_at hl 0 rfl) ?_
                refine lv_iload hx hb dX10_shop_277 (lv_at hl 3 rfl) ?_
                refine bd_e h (fun σ33 hq h => ?_)
                refine k_X10_readOther hq cx hV hF mk_7_121 ⟨Nat.le_of_ble_eq_true rfl, Nat.le_of_ble_eq_true rfl⟩ ⟨Nat.zero_le _, Nat.zero_le _⟩ hl.1 (Nat.le_of_ble_eq_true rfl) dX10_shop_279 (fun H locs hV => ?_)
                refine lv_iconst (v := 1) hx hb dX10_shop_282 (by decide) ?_
                refine lv_istore_n (lv' := [(3, .int 1), (0, .ref (eA E 0)), (2, .int w26), (4, .int w28), (5, .int w29)]) hx hb dX10_shop_283 rfl hl (by decide) rfl (fun ls hl => ?_)
                exact hj46_284 w26 1 σ33 _ _ _ h hV (lv_sub hl [1, 2, 0] rfl)
              · have h := ifn hc h
                refine lv_aload_n hx hb dX10_shop_219 rfl (lv_at hl 0 rfl) ?_
                refine G_X10_newLetter cx hV mk_6_114 dX10_shop_220 ?_
                refine lv_aload_n hx hb dX10_shop_223 rfl (lv_at hl 0 rfl) ?_
                refine G_X10_newCrates cx hV mk_6_125 dX10_shop_224 ?_
                refine lv_aload_n hx hb dX10_shop_227 rfl (lv_at hl 0 rfl) ?_
                refine G_X10_newCrates cx hV mk_6_125 dX10_shop_228 ?_
                refine lv_if_ne (tgt := 243) hx hb dX10_shop_231 (by decide) (fun hc => ?_) (fun hc => ?_)
                · have h := ifn hc h
                  refine lv_aload_n hx hb dX10_shop_243 rfl (lv_at hl 0 rfl) ?_
                  refine lv_aload_n hx hb dX10_shop_244 rfl (lv_at hl 0 rfl) ?_
                  refine G_X10_newLetter cx hV mk_6_114 dX10_shop_245 ?_
                  refine lv_aload_n hx hb dX10_shop_248 rfl (lv_at hl 0 rfl) ?_
                  refine G_X10_newCrates cx hV mk_6_125 dX10_shop_249 ?_
                  refine lv_iconst (v := 1) hx hb dX10_shop_252 (by decide) ?_
                  refine lv_isub hx hb dX10_shop_253 ?_
                  refine bd_e h (fun v34 hq h => ?_)
                  refine R_M_iald cx hV (by decide) hq dX10_shop_254 ?_
                  refine lv_iconst (v := 1) hx hb dX10_shop_255 (by decide) ?_
                  refine lv_iadd hx hb dX10_shop_256 ?_
                  refine lv_bipush (v := 25) hx hb dX10_shop_257 (by decide) ?_
                  refine bd2_e h (fun v35 σ36 hq h => ?_)
                  refine k_X10_readNumber hq cx hV mk_7_114 ⟨Nat.le_of_ble_eq_true rfl, Nat.le_of_ble_eq_true rfl⟩ ⟨Nat.zero_le _, Nat.zero_le _⟩ hl.1 (Nat.le_of_ble_eq_true rfl) dX10_shop_259 (fun H locs hV => ?_)
                  exact hj46_262 w26 w27 (gI σ32 12) v35 σ36 _ _ _ h hV (lv_sub hl [0, 1, 2] rfl)
                · have h := ifp hc h
                  refine lv_aload_n hx hb dX10_shop_234 rfl (lv_at hl 0 rfl) ?_
                  refine lv_iconst (v := 0) hx hb dX10_shop_235 (by decide) ?_
                  refine lv_iconst (v := 0) hx hb dX10_shop_236 (by decide) ?_
                  refine bd2_e h (fun v37 σ38 hq h => ?_)
                  refine k_X10_readNumber hq cx hV mk_7_114 ⟨Nat.le_of_ble_eq_true rfl, Nat.le_of_ble_eq_true rfl⟩ ⟨Nat.zero_le _, Nat.zero_le _⟩ hl.1 (Nat.le_of_ble_eq_true rfl) dX10_shop_237 (fun H locs hV => ?_)
                  refine lv_goto (tgt := 262) hx hb dX10_shop_240 (by decide) ?_
                  exact hj46_262 w26 w27 (gI σ32 12) v37 σ38 _ _ _ h hV (lv_sub hl [0, 1, 2] rfl)
            · have h := ifp hc h
              refine lv_goto (tgt := 296) hx hb dX10_shop_207 (by decide) ?_
              cases h
              exact hF1 rfl _ _ _ hV (lv_sub hl [0] rfl)
          have hj46_182 : ∀ (w39 : Int32) (w40 : Int32) (w41 : Int32) (w42 : Int32) (σ43 : St) (H : Heap) (locs : List Loc) (ls : Array Slot), x_X10_shop_b46_182 w39 w40 w41 w42 σ43 = some (b1, y1) → AtW E (wM E σ43 ++ X) A s H locs → lv_has ls 6 [(0, .ref (eA E 0)), (2, .int w39), (3, .int w40), (4, .int w41), (5, .int w42)] → W p l e rm_X10_shop s m a below meth c H locs 0 0 QQ (F0 m 182 ls []) := by
            intro w39 w40 w41 w42 σ43 H locs ls h hV hl
            unfold x_X10_shop_b46_182 at h
            refine lv_iload hx hb dX10_shop_182 (lv_at hl 4 rfl) ?_
            refine lv_if_eq (tgt := 200) hx hb dX10_shop_184 (by decide) (fun hc => ?_) (fun hc => ?_)
            · have h := ifp hc h
              exact hj46_200 w39 w40 w41 w42 σ43 _ _ _ h hV (lv_sub hl [0, 1, 2, 3, 4] rfl)
            · have h := ifn hc h
              refine lv_iload_n hx hb dX10_shop_187 rfl (lv_at hl 2 rfl) ?_
              refine lv_if_eq (tgt := 200) hx hb dX10_shop_188 (by decide) (fun hc => ?_) (fun hc => ?_)
              · have h := ifp hc h
                exact hj46_200 w39 w40 w41 w42 σ43 _ _ _ h hV (lv_sub hl [0, 1, 2, 3, 4] rfl)
              · have h := ifn hc h
                refine lv_aload_n hx hb dX10_shop_191 rfl (lv_at hl 0 rfl) ?_
                refine lv_iconst (v := 4) hx hb dX10_shop_192 (by decide) ?_
                refine lv_aload_n hx hb dX10_shop_193 rfl (lv_at hl 0 rfl) ?_
                refine G_X10_at cx hV mk_6_101 dX10_shop_194 ?_
                refine bd_e h (fun σ44 hq h => ?_)
                refine k_X10_wrong hq cx hV mk_7_106 ⟨Nat.le_of_ble_eq_true rfl, Nat.le_of_ble_eq_true rfl⟩ ⟨Nat.zero_le _, Nat.zero_le _⟩ hl.1 (Nat.le_of_ble_eq_true rfl) dX10_shop_197 (fun H locs hV => ?_)
                exact hj46_200 w39 w40 w41 w42 σ44 _ _ _ h hV (lv_sub hl [0, 1, 2, 3, 4] rfl)
          have hj46_170 : ∀ (w45 : Int32) (w46 : Int32) (w47 : Int32) (w48 : Int32) (σ49 : St) (H : Heap) (locs : List Loc) (ls : Array Slot), x_X10_shop_b46_170 w45 w46 w47 w48 σ49 = some (b1, y1) → AtW E (wM E σ49 ++ X) A s H locs → lv_has ls 6 [(0, .ref (eA E 0)), (2, .int w45), (3, .int w46), (4, .int w47), (5, .int w48)] → W p l e rm_X10_shop s m a below meth c H locs 0 0 QQ (F0 m 170 ls []) := by
            intro w45 w46 w47 w48 σ49 H locs ls h hV hl
            unfold x_X10_shop_b46_170 at h
            refine lv_aload_n hx hb dX10_shop_170 rfl (lv_at hl 0 rfl) ?_
            refine lv_iconst (v := 3) hx hb dX10_shop_171 (by decide) ?_
            refine lv_aload_n hx hb dX10_shop_172 rfl (lv_at hl 0 rfl) ?_
            refine G_X10_at cx hV mk_6_101 dX10_shop_173 ?_
            refine bd_e h (fun σ50 hq h => ?_)
            refine k_X10_wrong hq cx hV mk_7_106 ⟨Nat.le_of_ble_eq_true rfl, Nat.le_of_ble_eq_true rfl⟩ ⟨Nat.zero_le _, Nat.zero_le _⟩ hl.1 (Nat.le_of_ble_eq_true rfl) dX10_shop_176 (fun H locs hV => ?_)
            refine lv_goto (tgt := 200) hx hb dX10_shop_179 (by decide) ?_
            exact hj46_200 w45 w46 w47 w48 σ50 _ _ _ h hV (lv_sub hl [0, 1, 2, 3, 4] rfl)
          have hj46_151 : ∀ (w51 : Int32) (w52 : Int32) (w53 : Int32) (w54 : Int32) (σ55 : St) (H : Heap) (locs : List Loc) (ls : Array Slot), x_X10_shop_b46_151 w51 w52 w53 w54 σ55 = some (b1, y1) → AtW E (wM E σ55 ++ X) A s H locs → lv_has ls 6 [(0, .ref (eA E 0)), (2, .int w51), (3, .int w52), (4, .int w53), (5, .int w54)] → W p l e rm_X10_shop s m a below meth c H locs 0 0 QQ (F0 m 151 ls []) := by
            intro w51 w52 w53 w54 σ55 H locs ls h hV hl
            unfold x_X10_shop_b46_151 at h
            refine lv_iload hx hb dX10_shop_151 (lv_at hl 3 rfl) ?_
            refine va_ldcS hx hb cx.2.2.2.1 (hF.2.2.2.2.2.1 4 (by decide)) dX10_shop_153 ?_
            refine bd_e h (fun v56 hq h => ?_)
            refine k_X10_of (by decide) hq cx hV hF mk_7_90 ⟨Nat.le_of_ble_eq_true rfl, Nat.le_of_ble_eq_true rfl⟩ ⟨Nat.zero_le _, Nat.zero_le _⟩ hl.1 (Nat.le_of_ble_eq_true rfl) dX10_shop_155 (fun H locs hV => ?_)
            refine lv_icmp_ne (tgt := 182) hx hb dX10_shop_158 (by decide) (fun hc => ?_) (fun hc => ?_)
            · have h := ifn hc h
              exact hj46_182 w51 w52 w53 w54 σ55 _ _ _ h hV (lv_sub hl [0, 1, 2, 3, 4] rfl)
            · have h := ifp hc h
              refine lv_aload_n hx hb dX10_shop_161 rfl (lv_at hl 0 rfl) ?_
              refine G_X10_newLookers cx hV mk_6_127 dX10_shop_162 ?_
              refine lv_bipush (v := 6) hx hb dX10_shop_165 (by decide) ?_
              refine lv_icmp_ne (tgt := 182) hx hb dX10_shop_167 (by decide) (fun hc => ?_) (fun hc => ?_)
              · have h := ifn hc h
                exact hj46_182 w51 w52 w53 w54 σ55 _ _ _ h hV (lv_sub hl [0, 1, 2, 3, 4] rfl)
              · have h := ifp hc h
                exact hj46_170 w51 w52 w53 w54 σ55 _ _ _ h hV (lv_sub hl [0, 1, 2, 3, 4] rfl)
          have hj46_132 : ∀ (w57 : Int32) (w58 : Int32) (w59 : Int32) (w60 : Int32) (σ61 : St) (H : Heap) (locs : List Loc) (ls : Array Slot), x_X10_shop_b46_132 w57 w58 w59 w60 σ61 = some (b1, y1) → AtW E (wM E σ61 ++ X) A s H locs → lv_has ls 6 [(0, .ref (eA E 0)), (2, .int w57), (3, .int w58), (4, .int w59), (5, .int w60)] → W p l e rm_X10_shop s m a below meth c H locs 0 0 QQ (F0 m 132 ls []) := by
            intro w57 w58 w59 w60 σ61 H locs ls h hV hl
            unfold x_X10_shop_b46_132 at h
            refine lv_iload hx hb dX10_shop_132 (lv_at hl 3 rfl) ?_
            refine va_ldcS hx hb cx.2.2.2.1 (hF.2.2.2.2.2.1 1 (by decide)) dX10_shop_134 ?_
            refine bd_e h (fun v62 hq h => ?_)
            refine k_X10_of (by decide) hq cx hV hF mk_7_90 ⟨Nat.le_of_ble_eq_true rfl, Nat.le_of_ble_eq_true rfl⟩ ⟨Nat.zero_le _, Nat.zero_le _⟩ hl.1 (Nat.le_of_ble_eq_true rfl) dX10_shop_136 (fun H locs hV => ?_)
            refine lv_icmp_ne (tgt := 151) hx hb dX10_shop_139 (by decide) (fun hc => ?_) (fun hc => ?_)
            · have h := ifn hc h
              exact hj46_151 w57 w58 w59 w60 σ61 _ _ _ h hV (lv_sub hl [0, 1, 2, 3, 4] rfl)
            · have h := ifp hc h
              refine lv_aload_n hx hb dX10_shop_142 rfl (lv_at hl 0 rfl) ?_
              refine G_X10_newSleeves cx hV mk_6_126 dX10_shop_143 ?_
              refine lv_bipush (v := 24) hx hb dX10_shop_146 (by decide) ?_
              refine lv_icmp_eq (tgt := 170) hx hb dX10_shop_148 (by decide) (fun hc => ?_) (fun hc => ?_)
              · have h := ifp hc h
                exact hj46_170 w57 w58 w59 w60 σ61 _ _ _ h hV (lv_sub hl [0, 1, 2, 3, 4] rfl)
              · have h := ifn hc h
                exact hj46_151 w57 w58 w59 w60 σ61 _ _ _ h hV (lv_sub hl [0, 1, 2, 3, 4] rfl)
          have hj46_112 : ∀ (w63 : Int32) (w64 : Int32) (w65 : Int32) (w66 : Int32) (σ67 : St) (H : Heap) (locs : List Loc) (ls : Array Slot), x_X10_shop_b46_112 w63 w64 w65 w66 σ67 = some (b1, y1) → AtW E (wM E σ67 ++ X) A s H locs → lv_has ls 6 [(0, .ref (eA E 0)), (2, .int w63), (3, .int w64), (4, .int w65), (5, .int w66)] → W p l e rm_X10_shop s m a below meth c H locs 0 0 QQ (F0 m 112 ls []) := by
            intro w63 w64 w65 w66 σ67 H locs ls h hV hl
            unfold x_X10_shop_b46_112 at h
            refine lv_iload_n hx hb dX10_shop_112 rfl (lv_at hl 1 rfl) ?_
            refine lv_bipush (v := 60) hx hb dX10_shop_113 (by decide) ?_
            refine lv_icmp_eq (tgt := 170) hx hb dX10_shop_115 (by decide) (fun hc => ?_) (fun hc => ?_)
            · have h := ifp hc h
              exact hj46_170 w63 w64 w65 w66 σ67 _ _ _ h hV (lv_sub hl [0, 1, 2, 3, 4] rfl)
            · have h := ifn hc h
              refine lv_iload hx hb dX10_shop_118 (lv_at hl 4 rfl) ?_
              refine lv_if_eq (tgt := 132) hx hb dX10_shop_120 (by decide) (fun hc => ?_) (fun hc => ?_)
              · have h := ifp hc h
                exact hj46_132 w63 w64 w65 w66 σ67 _ _ _ h hV (lv_sub hl [0, 1, 2, 3, 4] rfl)
              · have h := ifn hc h
                refine lv_aload_n hx hb dX10_shop_123 rfl (lv_at hl 0 rfl) ?_
                refine G_X10_newCrates cx hV mk_6_125 dX10_shop_124 ?_
                refine lv_bipush (v := 8) hx hb dX10_shop_127 (by decide) ?_
                refine lv_icmp_eq (tgt := 170) hx hb dX10_shop_129 (by decide) (fun hc => ?_) (fun hc => ?_)
                · have h := ifp hc h
                  exact hj46_170 w63 w64 w65 w66 σ67 _ _ _ h hV (lv_sub hl [0, 1, 2, 3, 4] rfl)
                · have h := ifn hc h
                  exact hj46_132 w63 w64 w65 w66 σ67 _ _ _ h hV (lv_sub hl [0, 1, 2, 3, 4] rfl)
          have hj46_100 : ∀ (w68 : Int32) (w69 : Int32) (w70 : Int32) (w71 : Int32) (σ72 : St) (H : Heap) (locs : List Loc) (ls : Array Slot), x_X10_shop_b46_100 w68 w69 w70 w71 σ72 = some (b1, y1) → AtW E (wM E σ72 ++ X) A s H locs → lv_has ls 6 [(0, .ref (eA E 0)), (2, .int w68), (3, .int w69), (4, .int w70), (5, .int w71)] → W p l e rm_X10_shop s m a below meth c H locs 0 0 QQ (F0 m 100 ls []) := by
            intro w68 w69 w70 w71 σ72 H locs ls h hV hl
            unfold x_X10_shop_b46_100 at h
            refine lv_aload_n hx hb dX10_shop_100 rfl (lv_at hl 0 rfl) ?_
            refine lv_iconst (v := 1) hx hb dX10_shop_101 (by decide) ?_
            refine lv_aload_n hx hb dX10_shop_102 rfl (lv_at hl 0 rfl) ?_
            refine G_X10_at cx hV mk_6_101 dX10_shop_103 ?_
            refine bd_e h (fun σ73 hq h => ?_)
            refine k_X10_wrong hq cx hV mk_7_106 ⟨Nat.le_of_ble_eq_true rfl, Nat.le_of_ble_eq_true rfl⟩ ⟨Nat.zero_le _, Nat.zero_le _⟩ hl.1 (Nat.le_of_ble_eq_true rfl) dX10_shop_106 (fun H locs hV => ?_)
            refine lv_goto (tgt := 200) hx hb dX10_shop_109 (by decide) ?_
            exact hj46_200 w68 w69 w70 w71 σ73 _ _ _ h hV (lv_sub hl [0, 1, 2, 3, 4] rfl)
          have hj46_81 : ∀ (w74 : Int32) (w75 : Int32) (w76 : Int32) (w77 : Int32) (σ78 : St) (H : Heap) (locs : List Loc) (ls : Array Slot), x_X10_shop_b46_81 w74 w75 w76 w77 σ78 = some (b1, y1) → AtW E (wM E σ78 ++ X) A s H locs → lv_has ls 6 [(0, .ref (eA E 0)), (2, .int w74), (3, .int w75), (4, .int w76)] → W p l e rm_X10_shop s m a below meth c H locs 0 0 QQ (F0 m 81 ls [.int w77]) := by
            intro w74 w75 w76 w77 σ78 H locs ls h hV hl
            unfold x_X10_shop_b46_81 at h
            refine lv_istore (lv' := [(5, .int w77), (0, .ref (eA E 0)), (2, .int w74), (3, .int w75), (4, .int w76)]) hx hb dX10_shop_81 hl (by decide) rfl (fun ls hl => ?_)
            refine lv_iload hx hb dX10_shop_83 (lv_at hl 0 rfl) ?_
            refine lv_if_ne (tgt := 112) hx hb dX10_shop_85 (by decide) (fun hc => ?_) (fun hc => ?_)
            · have h := ifn hc h
              exact hj46_112 w74 w75 w76 w77 σ78 _ _ _ h hV (lv_sub hl [1, 2, 3, 4, 0] rfl)
            · have h := ifp hc h
              refine lv_iload hx hb dX10_shop_88 (lv_at hl 4 rfl) ?_
              refine bd_e h (fun v79 hq h => ?_)
              refine k_X10_isOther hq cx hV hF mk_7_95 ⟨Nat.le_of_ble_eq_true rfl, Nat.le_of_ble_eq_true rfl⟩ ⟨Nat.zero_le _, Nat.zero_le _⟩ hl.1 (Nat.le_of_ble_eq_true rfl) dX10_shop_90 (fun H locs hV => ?_)
              refine lv_if_eq (tgt := 100) hx hb dX10_shop_93 (by decide) (fun hc => ?_) (fun hc => ?_)
              · have h := ifp hc h
                exact hj46_100 w74 w75 w76 w77 σ78 _ _ _ h hV (lv_sub hl [1, 2, 3, 4, 0] rfl)
              · have h := ifn hc h
                refine lv_iload_n hx hb dX10_shop_96 rfl (lv_at hl 2 rfl) ?_
                refine lv_if_ne (tgt := 112) hx hb dX10_shop_97 (by decide) (fun hc => ?_) (fun hc => ?_)
                · have h := ifn hc h
                  exact hj46_112 w74 w75 w76 w77 σ78 _ _ _ h hV (lv_sub hl [1, 2, 3, 4, 0] rfl)
                · have h := ifp hc h
                  exact hj46_100 w74 w75 w76 w77 σ78 _ _ _ h hV (lv_sub hl [1, 2, 3, 4, 0] rfl)
          obtain ⟨u12, u13, σ14⟩ := v
          have h : x_X10_shop_L46 u12 u13 σ14 = some (b1, y1) := h
          intro H locs ls hV hl
          have hV : AtW E (wM E σ14 ++ X) A s H locs := hV
          have hl : lv_has ls 6 [(0, .ref (eA E 0)), (2, .int u12), (3, .int u13)] := hl
          unfold x_X10_shop_L46 at h
          refine lv_aload_n hx hb dX10_shop_46 rfl (lv_at hl 0 rfl) ?_
          refine bd_e h (fun v80 hq h => ?_)
          refine k_X10_fine hq cx hV mk_7_70 ⟨Nat.le_of_ble_eq_true rfl, Nat.le_of_ble_eq_true rfl⟩ ⟨Nat.zero_le _, Nat.zero_le _⟩ hl.1 (Nat.le_of_ble_eq_true rfl) dX10_shop_47 (fun H locs hV => ?_)
          refine lv_if_eq (tgt := 296) hx hb dX10_shop_50 (by decide) (fun hc => ?_) (fun hc => ?_)
          · have h := ifp hc h
            cases h
            exact hF1 rfl _ _ _ hV (lv_sub hl [0] rfl)
          · have h := ifn hc h
            refine lv_aload_n hx hb dX10_shop_53 rfl (lv_at hl 0 rfl) ?_
            refine bd2_e h (fun v81 σ82 hq h => ?_)
            refine k_X10_isMore hq cx hV mk_7_74 ⟨Nat.le_of_ble_eq_true rfl, Nat.le_of_ble_eq_true rfl⟩ ⟨Nat.zero_le _, Nat.zero_le _⟩ hl.1 (Nat.le_of_ble_eq_true rfl) dX10_shop_54 (fun H locs hV => ?_)
            refine lv_if_eq (tgt := 296) hx hb dX10_shop_57 (by decide) (fun hc => ?_) (fun hc => ?_)
            · have h := ifp hc h
              cases h
              exact hF1 rfl _ _ _ hV (lv_sub hl [0] rfl)
            · have h := ifn hc h
              refine lv_aload_n hx hb dX10_shop_60 rfl (lv_at hl 0 rfl) ?_
              refine bd2_e h (fun v83 σ84 hq h => ?_)
              refine k_X10_word hq cx hV mk_7_82 ⟨Nat.le_of_ble_eq_true rfl, Nat.le_of_ble_eq_true rfl⟩ ⟨Nat.zero_le _, Nat.zero_le _⟩ hl.1 (Nat.le_of_ble_eq_true rfl) dX10_shop_61 (fun H locs hV => ?_)
              refine lv_istore (lv' := [(4, .int v83), (0, .ref (eA E 0)), (2, .int u12), (3, .int u13)]) hx hb dX10_shop_64 hl (by decide) rfl (fun ls hl => ?_)
              refine lv_iload hx hb dX10_shop_66 (lv_at hl 0 rfl) ?_
              refine va_ldcS hx hb cx.2.2.2.1 (hF.2.2.2.2.2.1 0 (by decide)) dX10_shop_68 ?_
              refine bd_e h (fun v85 hq h => ?_)
              refine k_X10_of (by decide) hq cx hV hF mk_7_90 ⟨Nat.le_of_ble_eq_true rfl, Nat.le_of_ble_eq_true rfl⟩ ⟨Nat.zero_le _, Nat.zero_le _⟩ hl.1 (Nat.le_of_ble_eq_true rfl) dX10_shop_70 (fun H locs hV => ?_)
              refine lv_icmp_ne (tgt := 80) hx hb dX10_shop_73 (by decide) (fun hc => ?_) (fun hc => ?_)
              · have h := ifn hc h
                refine lv_iconst (v := 0) hx hb dX10_shop_80 (by decide) ?_
                exact hj46_81 u12 u13 v83 0 σ84 _ _ _ h hV (lv_sub hl [1, 2, 3, 0] rfl)
              · have h := ifp hc h
                refine lv_iconst (v := 1) hx hb dX10_shop_76 (by decide) ?_
                refine lv_goto (tgt := 81) hx hb dX10_shop_77 (by decide) ?_
                exact hj46_81 u12 u13 v83 1 σ84 _ _ _ h hV (lv_sub hl [1, 2, 3, 0] rfl)
        · have hV : AtW E (wM E σ88 ++ X) A s H locs := hV
          have hl : lv_has ls 6 [(0, .ref (eA E 0))] := hl
          exact hj296 σ88 _ _ _ h hV (lv_sub hl [0] rfl)
      · have h := ifp hc h
        refine lv_iconst (v := 0) hx hb dX10_shop_31 (by decide) ?_
        obtain ⟨h1, h2⟩ := Prod.mk.inj (Option.some.inj h)
        subst h1
        subst h2
        subst hQ
        exact r_ireti cx hr hlk hV dX10_shop_32
    have hj22 : ∀ (w89 : Int32) (σ90 : St) (H : Heap) (locs : List Loc) (ls : Array Slot), x_X10_shop_b22 w89 σ90 = some (rv, σf) → AtW E (wM E σ90 ++ X) A s H locs → lv_has ls 6 [(0, .ref (eA E 0)), (1, .int w89)] → W p l e rm_X10_shop s m a below meth c H locs 0 0 QQ (F0 m 22 ls [.ref (eA E 0)]) := by
      intro w89 σ90 H locs ls h hV hl
      unfold x_X10_shop_b22 at h
      refine lv_iconst (v := 0) hx hb dX10_shop_22 (by decide) ?_
      exact hj23 w89 0 σ90 _ _ _ h hV (lv_sub hl [0, 1] rfl)
    refine lv_aload_n hx hb dX10_shop_0 rfl (lv_at hl 0 rfl) ?_
    refine lv_iconst (v := 0) hx hb dX10_shop_1 (by decide) ?_
    refine bd_e h (fun σ91 hq h => ?_)
    refine P_X10_thrown cx hV hq mk_6_97 dX10_shop_2 (fun H locs hV => ?_)
    refine lv_aload_n hx hb dX10_shop_5 rfl (lv_at hl 0 rfl) ?_
    refine lv_iload_n hx hb dX10_shop_6 rfl (lv_at hl 1 rfl) ?_
    refine lv_if_lt (tgt := 22) hx hb dX10_shop_7 (by decide) (fun hc => ?_) (fun hc => ?_)
    · have h := ifp hc h
      exact hj22 p1 σ91 _ _ _ h hV (lv_sub hl [0, 1] rfl)
    · have h := ifn hc h
      refine lv_iload_n hx hb dX10_shop_10 rfl (lv_at hl 1 rfl) ?_
      refine lv_aload_n hx hb dX10_shop_11 rfl (lv_at hl 0 rfl) ?_
      refine G_X10_taped cx hV mk_6_99 dX10_shop_12 ?_
      refine lv_icmp_gt (tgt := 22) hx hb dX10_shop_15 (by decide) (fun hc => ?_) (fun hc => ?_)
      · have h := ifp hc h
        exact hj22 p1 σ91 _ _ _ h hV (lv_sub hl [0, 1] rfl)
      · have h := ifn hc h
        refine lv_iconst (v := 1) hx hb dX10_shop_18 (by decide) ?_
        refine lv_goto (tgt := 23) hx hb dX10_shop_19 (by decide) ?_
        exact hj23 p1 1 σ91 _ _ _ h hV (lv_sub hl [0, 1] rfl)
  rw [hH, hlocs] at goal
  exact goal
theorem k_X10_shop {p : Program} {l : Launch} {e : Env} {R : Room} {s : State} {m : MethodId} {a : Array Value} {below : List Frame} {meth : Method} {c : Code} {H : Heap} {locs : List Loc} {cells slots : Nat} {Q : State → Prop} {cc : ByteArray} {own : String} {nL pc : Nat} {ls : Array Slot} {rest : List Value} {A : Nat → Prop} {E : EV} {X : va_W} {σ : St} {p1 : Int32} {rv : Int32} {σf : St} (h : x_X10_shop p1 σ = some (rv, σf)) (cx : CallFix p m c cc nL s a TBL own) (hV : AtW E (wM E σ ++ X) A s H locs) (hF : FZ E A s s.heap) {idx : Nat} (w1 : Cond.methodLink own idx yX10_shop ∈ TBL) (hR : (rm_X10_shop).frames + 1 ≤ R.frames ∧ 8 + (6 + 11) + (rm_X10_shop).locals ≤ R.locals) (hcs : cells ≤ R.cells ∧ slots ≤ R.slots) (hls : ls.size = nL) (hcat : (rest.map fun v => v.category).sum ≤ 8) (d : decode cc pc = .ok (.invokevirtual idx, 3)) (kk : ∀ (H1 : Heap) (locs1 : List Loc), AtW E (wM E σf ++ X) A s H1 locs1 → W p l e R s m a below meth c H1 locs1 cells slots Q (F0 m (pc + 3) ls (.int rv :: rest))) : W p l e R s m a below meth c H locs cells slots Q (F0 m pc ls (.int p1 :: .ref (eA E 0) :: rest)) :=
  r_callFi (n := 1) (As := [.int p1]) (q0 := 0) (ci := 10) (qq := (RX10, TX10, 64)) (c_X10_shop h) wM_fst rfl rfl mk_7_59 mk_7_60 mk_1_11 mk_7_61 (by decide +kernel) rfl ⟨rfl, rfl⟩ cx hV hF w1 hR hcs hls rfl hcat d kk
def x_X10_told (p1 : Int32) (σ : St) : Option (Int32 × St) :=
  bd (some (sI σ 0 0)) fun σ1 =>
  bd (x_X10_within p1 0 7) fun v2 =>
  bd2 (x_X10_may v2 1 2 σ1) fun v3 σ4 =>
  (if v3 = 0 then
  some (0, σ4)
  else
  (if p1 = 0 then
  some ((gI σ4 8), σ4)
  else
  (if p1 = 1 then
  some ((gI σ4 9), σ4)
  else
  (if p1 = 2 then
  some ((gI σ4 10), σ4)
  else
  (if p1 = 3 then
  some ((gI σ4 11), σ4)
  else
  bd (ldI (gA σ4 6) (lenM 6) (p1 - 4)) fun v5 =>
  some (v5, σ4))))))
abbrev rm_X10_told : Room := { frames := 1, cells := 0, slots := 0, locals := 23 }
set_option maxHeartbeats 4000000 in
set_option maxRecDepth 100000 in
theorem c_X10_told {l : Launch} {E : EV} {X : va_W} {σ : St} {p1 : Int32} {rv : Int32} {σf : St} (h : x_X10_told p1 σ = some (rv, σf)) : CM l yX10_told cX10_told 2 (some .int) rm_X10_told [.ref (eA E 0), .int p1] E (wM E σ ++ X) (wM E σf ++ X) (qI rv) := by
  refine CM.start (by decide) (Nat.le_of_ble_eq_true rfl) (fun p e s m a below meth c A ls cx hr hlk hV hl => ?_)
  have cx : CallFix p m c cX10_told 2 s a TBL RX10 := cx
  have hx := cx.1
  have hb := cx.2.1
  have hl : lv_has ls 2 [(0, .ref (eA E 0)), (1, .int p1)] := hl
  generalize hQ : EQ E (wM E σf ++ X) (qI rv) A s a below = QQ
  obtain ⟨H, hH⟩ : ∃ H, H = s.heap := ⟨_, rfl⟩
  obtain ⟨locs, hlocs⟩ : ∃ z, z = ([] : List Loc) := ⟨_, rfl⟩
  have hV : AtW E (wM E σ ++ X) A s H locs := by rw [hH, hlocs]; exact hV
  have goal : W p l e rm_X10_told s m a below meth c H locs 0 0 QQ (F0 m 0 ls []) := by
    unfold x_X10_told at h
    refine lv_aload_n hx hb dX10_told_0 rfl (lv_at hl 0 rfl) ?_
    refine lv_iconst (v := 0) hx hb dX10_told_1 (by decide) ?_
    refine bd_e h (fun σ1 hq h => ?_)
    refine P_X10_thrown cx hV hq mk_6_97 dX10_told_2 (fun H locs hV => ?_)
    refine lv_aload_n hx hb dX10_told_5 rfl (lv_at hl 0 rfl) ?_
    refine lv_iload_n hx hb dX10_told_6 rfl (lv_at hl 1 rfl) ?_
    refine lv_iconst (v := 0) hx hb dX10_told_7 (by decide) ?_
    refine lv_bipush (v := 7) hx hb dX10_told_8 (by decide) ?_
    refine bd_e h (fun v2 hq h => ?_)
    refine k_X10_within hq cx hV mk_7_141 ⟨Nat.le_of_ble_eq_true rfl, Nat.le_of_ble_eq_true rfl⟩ ⟨Nat.zero_le _, Nat.zero_le _⟩ hl.1 (Nat.le_of_ble_eq_true rfl) dX10_told_10 (fun H locs hV => ?_)
    refine lv_iconst (v := 1) hx hb dX10_told_13 (by decide) ?_
    refine lv_iconst (v := 2) hx hb dX10_told_14 (by decide) ?_
    refine bd2_e h (fun v3 σ4 hq h => ?_)
    refine k_X10_may hq cx hV mk_7_62 ⟨Nat.le_of_ble_eq_true rfl, Nat.le_of_ble_eq_true rfl⟩ ⟨Nat.zero_le _, Nat.zero_le _⟩ hl.1 (Nat.le_of_ble_eq_true rfl) dX10_told_15 (fun H locs hV => ?_)
    refine lv_if_ne (tgt := 23) hx hb dX10_told_18 (by decide) (fun hc => ?_) (fun hc => ?_)
    · have h := ifn hc h
      refine lv_iload_n hx hb dX10_told_23 rfl (lv_at hl 1 rfl) ?_
      refine lv_if_ne (tgt := 34) hx hb dX10_told_24 (by decide) (fun hc => ?_) (fun hc => ?_)
      · have h := ifn hc h
        refine lv_iload_n hx hb dX10_told_34 rfl (lv_at hl 1 rfl) ?_
        refine lv_iconst (v := 1) hx hb dX10_told_35 (by decide) ?_
        refine lv_icmp_ne (tgt := 46) hx hb dX10_told_36 (by decide) (fun hc => ?_) (fun hc => ?_)
        · have h := ifn hc h
          refine lv_iload_n hx hb dX10_told_46 rfl (lv_at hl 1 rfl) ?_
          refine lv_iconst (v := 2) hx hb dX10_told_47 (by decide) ?_
          refine lv_icmp_ne (tgt := 58) hx hb dX10_told_48 (by decide) (fun hc => ?_) (fun hc => ?_)
          · have h := ifn hc h
            refine lv_iload_n hx hb dX10_told_58 rfl (lv_at hl 1 rfl) ?_
            refine lv_iconst (v := 3) hx hb dX10_told_59 (by decide) ?_
            refine lv_icmp_ne (tgt := 70) hx hb dX10_told_60 (by decide) (fun hc => ?_) (fun hc => ?_)
            · have h := ifn hc h
              refine lv_aload_n hx hb dX10_told_70 rfl (lv_at hl 0 rfl) ?_
              refine G_X10_weight cx hV mk_6_111 dX10_told_71 ?_
              refine lv_iload_n hx hb dX10_told_74 rfl (lv_at hl 1 rfl) ?_
              refine lv_iconst (v := 4) hx hb dX10_told_75 (by decide) ?_
              refine lv_isub hx hb dX10_told_76 ?_
              refine bd_e h (fun v5 hq h => ?_)
              refine R_M_iald cx hV (by decide) hq dX10_told_77 ?_
              obtain ⟨h1, h2⟩ := Prod.mk.inj (Option.some.inj h)
              subst h1
              subst h2
              subst hQ
              exact r_ireti cx hr hlk hV dX10_told_78
            · have h := ifp hc h
              refine lv_aload_n hx hb dX10_told_63 rfl (lv_at hl 0 rfl) ?_
              refine G_X10_stop cx hV mk_6_124 dX10_told_64 ?_
              refine lv_goto (tgt := 78) hx hb dX10_told_67 (by decide) ?_
              obtain ⟨h1, h2⟩ := Prod.mk.inj (Option.some.inj h)
              subst h1
              subst h2
              subst hQ
              exact r_ireti cx hr hlk hV dX10_told_78
          · have h := ifp hc h
            refine lv_aload_n hx hb dX10_told_51 rfl (lv_at hl 0 rfl) ?_
            refine G_X10_lookers cx hV mk_6_123 dX10_told_52 ?_
            refine lv_goto (tgt := 78) hx hb dX10_told_55 (by decide) ?_
            obtain ⟨h1, h2⟩ := Prod.mk.inj (Option.some.inj h)
            subst h1
            subst h2
            subst hQ
            exact r_ireti cx hr hlk hV dX10_told_78
        · have h := ifp hc h
          refine lv_aload_n hx hb dX10_told_39 rfl (lv_at hl 0 rfl) ?_
          refine G_X10_sleeves cx hV mk_6_122 dX10_told_40 ?_
          refine lv_goto (tgt := 78) hx hb dX10_told_43 (by decide) ?_
          obtain ⟨h1, h2⟩ := Prod.mk.inj (Option.some.inj h)
          subst h1
          subst h2
          subst hQ
          exact r_ireti cx hr hlk hV dX10_told_78
      · have h := ifp hc h
        refine lv_aload_n hx hb dX10_told_27 rfl (lv_at hl 0 rfl) ?_
        refine G_X10_crates cx hV mk_6_121 dX10_told_28 ?_
        refine lv_goto (tgt := 78) hx hb dX10_told_31 (by decide) ?_
        obtain ⟨h1, h2⟩ := Prod.mk.inj (Option.some.inj h)
        subst h1
        subst h2
        subst hQ
        exact r_ireti cx hr hlk hV dX10_told_78
    · have h := ifp hc h
      refine lv_iconst (v := 0) hx hb dX10_told_21 (by decide) ?_
      obtain ⟨h1, h2⟩ := Prod.mk.inj (Option.some.inj h)
      subst h1
      subst h2
      subst hQ
      exact r_ireti cx hr hlk hV dX10_told_22
  rw [hH, hlocs] at goal
  exact goal
theorem k_X10_told {p : Program} {l : Launch} {e : Env} {R : Room} {s : State} {m : MethodId} {a : Array Value} {below : List Frame} {meth : Method} {c : Code} {H : Heap} {locs : List Loc} {cells slots : Nat} {Q : State → Prop} {cc : ByteArray} {own : String} {nL pc : Nat} {ls : Array Slot} {rest : List Value} {A : Nat → Prop} {E : EV} {X : va_W} {σ : St} {p1 : Int32} {rv : Int32} {σf : St} (h : x_X10_told p1 σ = some (rv, σf)) (cx : CallFix p m c cc nL s a TBL own) (hV : AtW E (wM E σ ++ X) A s H locs) {idx : Nat} (w1 : Cond.methodLink own idx yX10_told ∈ TBL) (hR : (rm_X10_told).frames + 1 ≤ R.frames ∧ 8 + (2 + 11) + (rm_X10_told).locals ≤ R.locals) (hcs : cells ≤ R.cells ∧ slots ≤ R.slots) (hls : ls.size = nL) (hcat : (rest.map fun v => v.category).sum ≤ 8) (d : decode cc pc = .ok (.invokevirtual idx, 3)) (kk : ∀ (H1 : Heap) (locs1 : List Loc), AtW E (wM E σf ++ X) A s H1 locs1 → W p l e R s m a below meth c H1 locs1 cells slots Q (F0 m (pc + 3) ls (.int rv :: rest))) : W p l e R s m a below meth c H locs cells slots Q (F0 m pc ls (.int p1 :: .ref (eA E 0) :: rest)) :=
  r_calli (n := 1) (As := [.int p1]) (q0 := 0) (ci := 10) (qq := (RX10, TX10, 64)) (c_X10_told h) wM_fst rfl rfl mk_7_138 mk_7_139 mk_1_11 mk_7_140 (by decide +kernel) rfl ⟨rfl, rfl⟩ cx hV w1 hR hcs hls rfl hcat d kk
def x_X10_goesOut_L12 (p1 : Int32) (v1 : Int32) (u2 : Int32) (u3 : Int32) (σ4 : St) : Option (Bool × (Int32 × Int32 × St)) :=
  bd (ldI (gA σ4 16) (lenM 16) v1) fun v5 =>
  (if v5 ≤ u3 then
  some (false, (u2, u3, σ4))
  else
  bd (ldI (gA σ4 17) (lenM 17) ((24 * v1) + u3)) fun v6 =>
  (if v6 = p1 then
  some (true, (u2, (u3 + 1), σ4))
  else
  bd (ldI (gA σ4 17) (lenM 17) ((24 * v1) + u3)) fun v7 =>
  bd (stI σ4 17 (lenM 17) ((24 * v1) + u2) v7) fun σ8 =>
  some (true, ((u2 + 1), (u3 + 1), σ8))))
def x_X10_goesOut (p1 : Int32) (σ : St) : Option St :=
  bd (ldI (gA σ 7) (lenM 7) p1) fun v1 =>
  bd3 (lp (fun v : (Int32 × Int32 × St) => x_X10_goesOut_L12 p1 v1 v.1 v.2.1 v.2.2) FU (0, 0, σ)) fun z9 z10 σ11 =>
  bd (stI σ11 16 (lenM 16) v1 z9) fun σ12 =>
  bd (stI σ12 7 (lenM 7) p1 (-1)) fun σ13 =>
  some σ13
abbrev rm_X10_goesOut : Room := { frames := 0, cells := 0, slots := 0, locals := 0 }
set_option maxHeartbeats 4000000 in
set_option maxRecDepth 100000 in
theorem c_X10_goesOut {l : Launch} {E : EV} {X : va_W} {σ : St} {p1 : Int32} {σf : St} (h : x_X10_goesOut p1 σ = some σf) : CM l yX10_goesOut cX10_goesOut 5 none rm_X10_goesOut [.ref (eA E 0), .int p1] E (wM E σ ++ X) (wM E σf ++ X) qV := by
  refine CM.start (by decide) (Nat.le_of_ble_eq_true rfl) (fun p e s m a below meth c A ls cx hr hlk hV hl => ?_)
  have cx : CallFix p m c cX10_goesOut 5 s a TBL RX10 := cx
  have hx := cx.1
  have hb := cx.2.1
  have hl : lv_has ls 5 [(0, .ref (eA E 0)), (1, .int p1)] := hl
  generalize hQ : EQ E (wM E σf ++ X) qV A s a below = QQ
  obtain ⟨H, hH⟩ : ∃ H, H = s.heap := ⟨_, rfl⟩
  obtain ⟨locs, hlocs⟩ : ∃ z, z = ([] : List Loc) := ⟨_, rfl⟩
  have hV : AtW E (wM E σ ++ X) A s H locs := by rw [hH, hlocs]; exact hV
  have goal : W p l e rm_X10_goesOut s m a below meth c H locs 0 0 QQ (F0 m 0 ls []) := by
    unfold x_X10_goesOut at h
    refine lv_aload_n hx hb dX10_goesOut_0 rfl (lv_at hl 0 rfl) ?_
    refine G_X10_liesAt cx hV mk_6_112 dX10_goesOut_1 ?_
    refine lv_iload_n hx hb dX10_goesOut_4 rfl (lv_at hl 1 rfl) ?_
    refine bd_e h (fun v1 hq h => ?_)
    refine R_M_iald cx hV (by decide) hq dX10_goesOut_5 ?_
    refine lv_istore_n (lv' := [(2, .int v1), (0, .ref (eA E 0)), (1, .int p1)]) hx hb dX10_goesOut_6 rfl hl (by decide) rfl (fun ls hl => ?_)
    refine lv_iconst (v := 0) hx hb dX10_goesOut_7 (by decide) ?_
    refine lv_istore_n (lv' := [(3, .int 0), (2, .int v1), (0, .ref (eA E 0)), (1, .int p1)]) hx hb dX10_goesOut_8 rfl hl (by decide) rfl (fun ls hl => ?_)
    refine lv_iconst (v := 0) hx hb dX10_goesOut_9 (by decide) ?_
    refine lv_istore (lv' := [(4, .int 0), (3, .int 0), (2, .int v1), (0, .ref (eA E 0)), (1, .int p1)]) hx hb dX10_goesOut_10 hl (by decide) rfl (fun ls hl => ?_)
    refine bd3_e h (fun z9 z10 σ11 ho h => ?_)
    refine (lp_rule (G := (fun v : (Int32 × Int32 × St) => ∀ (H : Heap) (locs : List Loc) (ls : Array Slot), AtW E (wM E v.2.2 ++ X) A s H locs → lv_has ls 5 [(0, .ref (eA E 0)), (1, .int p1), (2, .int v1), (3, .int v.1), (4, .int v.2.1)] → W p l e rm_X10_goesOut s m a below meth c H locs 0 0 QQ (F0 m 12 ls []))) (K := (fun v : (Int32 × Int32 × St) => ∀ (H : Heap) (locs : List Loc) (ls : Array Slot), AtW E (wM E v.2.2 ++ X) A s H locs → lv_has ls 5 [(0, .ref (eA E 0)), (1, .int p1), (2, .int v1), (3, .int v.1)] → W p l e rm_X10_goesOut s m a below meth c H locs 0 0 QQ (F0 m 74 ls []))) (fun v b1 y1 h hT1 hF1 => ?_) ho (fun H locs ls hV hl => ?_)) _ _ _ hV (lv_sub hl [3, 4, 2, 1, 0] rfl)
    · obtain ⟨u2, u3, σ4⟩ := v
      have h : x_X10_goesOut_L12 p1 v1 u2 u3 σ4 = some (b1, y1) := h
      intro H locs ls hV hl
      have hV : AtW E (wM E σ4 ++ X) A s H locs := hV
      have hl : lv_has ls 5 [(0, .ref (eA E 0)), (1, .int p1), (2, .int v1), (3, .int u2), (4, .int u3)] := hl
      unfold x_X10_goesOut_L12 at h
      refine lv_iload hx hb dX10_goesOut_12 (lv_at hl 4 rfl) ?_
      refine lv_aload_n hx hb dX10_goesOut_14 rfl (lv_at hl 0 rfl) ?_
      refine G_X10_many cx hV mk_6_129 dX10_goesOut_15 ?_
      refine lv_iload_n hx hb dX10_goesOut_18 rfl (lv_at hl 2 rfl) ?_
      refine bd_e h (fun v5 hq h => ?_)
      refine R_M_iald cx hV (by decide) hq dX10_goesOut_19 ?_
      refine lv_icmp_ge (tgt := 74) hx hb dX10_goesOut_20 (by decide) (fun hc => ?_) (fun hc => ?_)
      · have h := ifp hc h
        cases h
        exact hF1 rfl _ _ _ hV (lv_sub hl [0, 1, 2, 3] rfl)
      · have h := ifn hc h
        refine lv_aload_n hx hb dX10_goesOut_23 rfl (lv_at hl 0 rfl) ?_
        refine G_X10_row cx hV mk_6_130 dX10_goesOut_24 ?_
        refine lv_bipush (v := 24) hx hb dX10_goesOut_27 (by decide) ?_
        refine lv_iload_n hx hb dX10_goesOut_29 rfl (lv_at hl 2 rfl) ?_
        refine lv_imul hx hb dX10_goesOut_30 ?_
        refine lv_iload hx hb dX10_goesOut_31 (lv_at hl 4 rfl) ?_
        refine lv_iadd hx hb dX10_goesOut_33 ?_
        refine bd_e h (fun v6 hq h => ?_)
        refine R_M_iald cx hV (by decide) hq dX10_goesOut_34 ?_
        refine lv_iload_n hx hb dX10_goesOut_35 rfl (lv_at hl 1 rfl) ?_
        refine lv_icmp_ne (tgt := 42) hx hb dX10_goesOut_36 (by decide) (fun hc => ?_) (fun hc => ?_)
        · have h := ifn hc h
          refine lv_aload_n hx hb dX10_goesOut_42 rfl (lv_at hl 0 rfl) ?_
          refine G_X10_row cx hV mk_6_130 dX10_goesOut_43 ?_
          refine lv_bipush (v := 24) hx hb dX10_goesOut_46 (by decide) ?_
          refine lv_iload_n hx hb dX10_goesOut_48 rfl (lv_at hl 2 rfl) ?_
          refine lv_imul hx hb dX10_goesOut_49 ?_
          refine lv_iload_n hx hb dX10_goesOut_50 rfl (lv_at hl 3 rfl) ?_
          refine lv_iadd hx hb dX10_goesOut_51 ?_
          refine lv_aload_n hx hb dX10_goesOut_52 rfl (lv_at hl 0 rfl) ?_
          refine G_X10_row cx hV mk_6_130 dX10_goesOut_53 ?_
          refine lv_bipush (v := 24) hx hb dX10_goesOut_56 (by decide) ?_
          refine lv_iload_n hx hb dX10_goesOut_58 rfl (lv_at hl 2 rfl) ?_
          refine lv_imul hx hb dX10_goesOut_59 ?_
          refine lv_iload hx hb dX10_goesOut_60 (lv_at hl 4 rfl) ?_
          refine lv_iadd hx hb dX10_goesOut_62 ?_
          refine bd_e h (fun v7 hq h => ?_)
          refine R_M_iald cx hV (by decide) hq dX10_goesOut_63 ?_
          refine bd_e h (fun σ8 hq h => ?_)
          refine R_M_iast cx hV (by decide) hq dX10_goesOut_64 (fun H locs hV => ?_)
          refine lv_iinc (v := (u2 + 1)) (lv' := [(3, .int (u2 + 1)), (0, .ref (eA E 0)), (1, .int p1), (2, .int v1), (4, .int u3)]) hx hb dX10_goesOut_65 hl (k := 3) rfl rfl (by decide) rfl (fun ls hl => ?_)
          refine lv_iinc (v := (u3 + 1)) (lv' := [(4, .int (u3 + 1)), (3, .int (u2 + 1)), (0, .ref (eA E 0)), (1, .int p1), (2, .int v1)]) hx hb dX10_goesOut_68 hl (k := 4) rfl rfl (by decide) rfl (fun ls hl => ?_)
          refine lv_goto (tgt := 12) hx hb dX10_goesOut_71 (by decide) ?_
          cases h
          exact hT1 rfl _ _ _ hV (lv_sub hl [2, 3, 4, 1, 0] rfl)
        · have h := ifp hc h
          refine lv_goto (tgt := 68) hx hb dX10_goesOut_39 (by decide) ?_
          refine lv_iinc (v := (u3 + 1)) (lv' := [(4, .int (u3 + 1)), (0, .ref (eA E 0)), (1, .int p1), (2, .int v1), (3, .int u2)]) hx hb dX10_goesOut_68 hl (k := 4) rfl rfl (by decide) rfl (fun ls hl => ?_)
          refine lv_goto (tgt := 12) hx hb dX10_goesOut_71 (by decide) ?_
          cases h
          exact hT1 rfl _ _ _ hV (lv_sub hl [1, 2, 3, 4, 0] rfl)
    · have hV : AtW E (wM E σ11 ++ X) A s H locs := hV
      have hl : lv_has ls 5 [(0, .ref (eA E 0)), (1, .int p1), (2, .int v1), (3, .int z9)] := hl
      refine lv_aload_n hx hb dX10_goesOut_74 rfl (lv_at hl 0 rfl) ?_
      refine G_X10_many cx hV mk_6_129 dX10_goesOut_75 ?_
      refine lv_iload_n hx hb dX10_goesOut_78 rfl (lv_at hl 2 rfl) ?_
      refine lv_iload_n hx hb dX10_goesOut_79 rfl (lv_at hl 3 rfl) ?_
      refine bd_e h (fun σ12 hq h => ?_)
      refine R_M_iast cx hV (by decide) hq dX10_goesOut_80 (fun H locs hV => ?_)
      refine lv_aload_n hx hb dX10_goesOut_81 rfl (lv_at hl 0 rfl) ?_
      refine G_X10_liesAt cx hV mk_6_112 dX10_goesOut_82 ?_
      refine lv_iload_n hx hb dX10_goesOut_85 rfl (lv_at hl 1 rfl) ?_
      refine lv_iconst (v := (-1)) hx hb dX10_goesOut_86 (by decide) ?_
      refine bd_e h (fun σ13 hq h => ?_)
      refine R_M_iast cx hV (by decide) hq dX10_goesOut_87 (fun H locs hV => ?_)
      have h1 := Option.some.inj h
      subst h1
      subst hQ
      exact r_vret cx hr hlk hV dX10_goesOut_88
  rw [hH, hlocs] at goal
  exact goal
theorem k_X10_goesOut {p : Program} {l : Launch} {e : Env} {R : Room} {s : State} {m : MethodId} {a : Array Value} {below : List Frame} {meth : Method} {c : Code} {H : Heap} {locs : List Loc} {cells slots : Nat} {Q : State → Prop} {cc : ByteArray} {own : String} {nL pc : Nat} {ls : Array Slot} {rest : List Value} {A : Nat → Prop} {E : EV} {X : va_W} {σ : St} {p1 : Int32} {σf : St} (h : x_X10_goesOut p1 σ = some σf) (cx : CallFix p m c cc nL s a TBL own) (hV : AtW E (wM E σ ++ X) A s H locs) {idx : Nat} (w1 : Cond.methodLink own idx yX10_goesOut ∈ TBL) (hR : (rm_X10_goesOut).frames + 1 ≤ R.frames ∧ 8 + (5 + 11) + (rm_X10_goesOut).locals ≤ R.locals) (hcs : cells ≤ R.cells ∧ slots ≤ R.slots) (hls : ls.size = nL) (hcat : (rest.map fun v => v.category).sum ≤ 8) (d : decode cc pc = .ok (.invokevirtual idx, 3)) (kk : ∀ (H1 : Heap) (locs1 : List Loc), AtW E (wM E σf ++ X) A s H1 locs1 → W p l e R s m a below meth c H1 locs1 cells slots Q (F0 m (pc + 3) ls (rest))) : W p l e R s m a below meth c H locs cells slots Q (F0 m pc ls (.int p1 :: .ref (eA E 0) :: rest)) :=
  r_callv (n := 1) (As := [.int p1]) (q0 := 0) (ci := 10) (qq := (RX10, TX10, 64)) (c_X10_goesOut h) wM_fst rfl rfl mk_7_194 mk_P_81 mk_1_11 mk_7_195 (by decide +kernel) rfl ⟨rfl, rfl⟩ cx hV w1 hR hcs hls rfl hcat d kk
def x_X10_isCrate (p1 : Int32) (p2 : Int32) (σ : St) : Option (Int32 × St) :=
  bd (x_X10_within p1 0 ((gI σ 8) - 1)) fun v1 =>
  bd2 (x_X10_may v1 p2 0 σ) fun v2 σ3 =>
  bd (bz v2) fun v4 =>
  some (v4, σ3)
abbrev rm_X10_isCrate : Room := { frames := 1, cells := 0, slots := 0, locals := 23 }
set_option maxHeartbeats 4000000 in
set_option maxRecDepth 100000 in
theorem c_X10_isCrate {l : Launch} {E : EV} {X : va_W} {σ : St} {p1 : Int32} {p2 : Int32} {rv : Int32} {σf : St} (h : x_X10_isCrate p1 p2 σ = some (rv, σf)) : CM l yX10_isCrate cX10_isCrate 3 (some .boolean) rm_X10_isCrate [.ref (eA E 0), .int p1, .int p2] E (wM E σ ++ X) (wM E σf ++ X) (qI rv) := by
  refine CM.start (by decide) (Nat.le_of_ble_eq_true rfl) (fun p e s m a below meth c A ls cx hr hlk hV hl => ?_)
  have cx : CallFix p m c cX10_isCrate 3 s a TBL RX10 := cx
  have hx := cx.1
  have hb := cx.2.1
  have hl : lv_has ls 3 [(0, .ref (eA E 0)), (1, .int p1), (2, .int p2)] := hl
  generalize hQ : EQ E (wM E σf ++ X) (qI rv) A s a below = QQ
  obtain ⟨H, hH⟩ : ∃ H, H = s.heap := ⟨_, rfl⟩
  obtain ⟨locs, hlocs⟩ : ∃ z, z = ([] : List Loc) := ⟨_, rfl⟩
  have hV : AtW E (wM E σ ++ X) A s H locs := by rw [hH, hlocs]; exact hV
  have goal : W p l e rm_X10_isCrate s m a below meth c H locs 0 0 QQ (F0 m 0 ls []) := by
    unfold x_X10_isCrate at h
    refine lv_aload_n hx hb dX10_isCrate_0 rfl (lv_at hl 0 rfl) ?_
    refine lv_iload_n hx hb dX10_isCrate_1 rfl (lv_at hl 1 rfl) ?_
    refine lv_iconst (v := 0) hx hb dX10_isCrate_2 (by decide) ?_
    refine lv_aload_n hx hb dX10_isCrate_3 rfl (lv_at hl 0 rfl) ?_
    refine G_X10_crates cx hV mk_6_121 dX10_isCrate_4 ?_
    refine lv_iconst (v := 1) hx hb dX10_isCrate_7 (by decide) ?_
    refine lv_isub hx hb dX10_isCrate_8 ?_
    refine bd_e h (fun v1 hq h => ?_)
    refine k_X10_within hq cx hV mk_7_141 ⟨Nat.le_of_ble_eq_true rfl, Nat.le_of_ble_eq_true rfl⟩ ⟨Nat.zero_le _, Nat.zero_le _⟩ hl.1 (Nat.le_of_ble_eq_true rfl) dX10_isCrate_9 (fun H locs hV => ?_)
    refine lv_iload_n hx hb dX10_isCrate_12 rfl (lv_at hl 2 rfl) ?_
    refine lv_iconst (v := 0) hx hb dX10_isCrate_13 (by decide) ?_
    refine bd2_e h (fun v2 σ3 hq h => ?_)
    refine k_X10_may hq cx hV mk_7_62 ⟨Nat.le_of_ble_eq_true rfl, Nat.le_of_ble_eq_true rfl⟩ ⟨Nat.zero_le _, Nat.zero_le _⟩ hl.1 (Nat.le_of_ble_eq_true rfl) dX10_isCrate_14 (fun H locs hV => ?_)
    refine bd_e h (fun v4 hq h => ?_)
    obtain ⟨hq, hz⟩ := bz_e hq
    rw [hq]
    obtain ⟨h1, h2⟩ := Prod.mk.inj (Option.some.inj h)
    subst h1
    subst h2
    subst hQ
    exact r_zreti cx hr hlk hV hz dX10_isCrate_17
  rw [hH, hlocs] at goal
  exact goal
theorem k_X10_isCrate {p : Program} {l : Launch} {e : Env} {R : Room} {s : State} {m : MethodId} {a : Array Value} {below : List Frame} {meth : Method} {c : Code} {H : Heap} {locs : List Loc} {cells slots : Nat} {Q : State → Prop} {cc : ByteArray} {own : String} {nL pc : Nat} {ls : Array Slot} {rest : List Value} {A : Nat → Prop} {E : EV} {X : va_W} {σ : St} {p1 : Int32} {p2 : Int32} {rv : Int32} {σf : St} (h : x_X10_isCrate p1 p2 σ = some (rv, σf)) (cx : CallFix p m c cc nL s a TBL own) (hV : AtW E (wM E σ ++ X) A s H locs) {idx : Nat} (w1 : Cond.methodLink own idx yX10_isCrate ∈ TBL) (hR : (rm_X10_isCrate).frames + 1 ≤ R.frames ∧ 8 + (3 + 11) + (rm_X10_isCrate).locals ≤ R.locals) (hcs : cells ≤ R.cells ∧ slots ≤ R.slots) (hls : ls.size = nL) (hcat : (rest.map fun v => v.category).sum ≤ 8) (d : decode cc pc = .ok (.invokevirtual idx, 3)) (kk : ∀ (H1 : Heap) (locs1 : List Loc), AtW E (wM E σf ++ X) A s H1 locs1 → W p l e R s m a below meth c H1 locs1 cells slots Q (F0 m (pc + 3) ls (.int rv :: rest))) : W p l e R s m a below meth c H locs cells slots Q (F0 m pc ls (.int p2 :: .int p1 :: .ref (eA E 0) :: rest)) :=
  r_calli (n := 2) (As := [.int p1, .int p2]) (q0 := 0) (ci := 10) (qq := (RX10, TX10, 64)) (c_X10_isCrate h) wM_fst rfl rfl mk_7_150 mk_P_75 mk_1_11 mk_7_151 (by decide +kernel) rfl ⟨rfl, rfl⟩ cx hV w1 hR hcs hls rfl hcat d kk
def x_X10_isSleeve (p1 : Int32) (p2 : Int32) (σ : St) : Option (Int32 × St) :=
  bd (x_X10_within p1 0 ((gI σ 9) - 1)) fun v1 =>
  bd2 (x_X10_may v1 p2 1 σ) fun v2 σ3 =>
  bd (bz v2) fun v4 =>
  some (v4, σ3)
abbrev rm_X10_isSleeve : Room := { frames := 1, cells := 0, slots := 0, locals := 23 }
set_option maxHeartbeats 4000000 in
set_option maxRecDepth 100000 in
theorem c_X10_isSleeve {l : Launch} {E : EV} {X : va_W} {σ : St} {p1 : Int32} {p2 : Int32} {rv : Int32} {σf : St} (h : x_X10_isSleeve p1 p2 σ = some (rv, σf)) : CM l yX10_isSleeve cX10_isSleeve 3 (some .boolean) rm_X10_isSleeve [.ref (eA E 0), .int p1, .int p2] E (wM E σ ++ X) (wM E σf ++ X) (qI rv) := by
  refine CM.start (by decide) (Nat.le_of_ble_eq_true rfl) (fun p e s m a below meth c A ls cx hr hlk hV hl => ?_)
  have cx : CallFix p m c cX10_isSleeve 3 s a TBL RX10 := cx
  have hx := cx.1
  have hb := cx.2.1
  have hl : lv_has ls 3 [(0, .ref (eA E 0)), (1, .int p1), (2, .int p2)] := hl
  generalize hQ : EQ E (wM E σf ++ X) (qI rv) A s a below = QQ
  obtain ⟨H, hH⟩ : ∃ H, H = s.heap := ⟨_, rfl⟩
  obtain ⟨locs, hlocs⟩ : ∃ z, z = ([] : List Loc) := ⟨_, rfl⟩
  have hV : AtW E (wM E σ ++ X) A s H locs := by rw [hH, hlocs]; exact hV
  have goal : W p l e rm_X10_isSleeve s m a below meth c H locs 0 0 QQ (F0 m 0 ls []) := by
    unfold x_X10_isSleeve at h
    refine lv_aload_n hx hb dX10_isSleeve_0 rfl (lv_at hl 0 rfl) ?_
    refine lv_iload_n hx hb dX10_isSleeve_1 rfl (lv_at hl 1 rfl) ?_
    refine lv_iconst (v := 0) hx hb dX10_isSleeve_2 (by decide) ?_
    refine lv_aload_n hx hb dX10_isSleeve_3 rfl (lv_at hl 0 rfl) ?_
    refine G_X10_sleeves cx hV mk_6_122 dX10_isSleeve_4 ?_
    refine lv_iconst (v := 1) hx hb dX10_isSleeve_7 (by decide) ?_
    refine lv_isub hx hb dX10_isSleeve_8 ?_
    refine bd_e h (fun v1 hq h => ?_)
    refine k_X10_within hq cx hV mk_7_141 ⟨Nat.le_of_ble_eq_true rfl, Nat.le_of_ble_eq_true rfl⟩ ⟨Nat.zero_le _, Nat.zero_le _⟩ hl.1 (Nat.le_of_ble_eq_true rfl) dX10_isSleeve_9 (fun H locs hV => ?_)
    refine lv_iload_n hx hb dX10_isSleeve_12 rfl (lv_at hl 2 rfl) ?_
    refine lv_iconst (v := 1) hx hb dX10_isSleeve_13 (by decide) ?_
    refine bd2_e h (fun v2 σ3 hq h => ?_)
    refine k_X10_may hq cx hV mk_7_62 ⟨Nat.le_of_ble_eq_true rfl, Nat.le_of_ble_eq_true rfl⟩ ⟨Nat.zero_le _, Nat.zero_le _⟩ hl.1 (Nat.le_of_ble_eq_true rfl) dX10_isSleeve_14 (fun H locs hV => ?_)
    refine bd_e h (fun v4 hq h => ?_)
    obtain ⟨hq, hz⟩ := bz_e hq
    rw [hq]
    obtain ⟨h1, h2⟩ := Prod.mk.inj (Option.some.inj h)
    subst h1
    subst h2
    subst hQ
    exact r_zreti cx hr hlk hV hz dX10_isSleeve_17
  rw [hH, hlocs] at goal
  exact goal
theorem k_X10_isSleeve {p : Program} {l : Launch} {e : Env} {R : Room} {s : State} {m : MethodId} {a : Array Value} {below : List Frame} {meth : Method} {c : Code} {H : Heap} {locs : List Loc} {cells slots : Nat} {Q : State → Prop} {cc : ByteArray} {own : String} {nL pc : Nat} {ls : Array Slot} {rest : List Value} {A : Nat → Prop} {E : EV} {X : va_W} {σ : St} {p1 : Int32} {p2 : Int32} {rv : Int32} {σf : St} (h : x_X10_isSleeve p1 p2 σ = some (rv, σf)) (cx : CallFix p m c cc nL s a TBL own) (hV : AtW E (wM E σ ++ X) A s H locs) {idx : Nat} (w1 : Cond.methodLink own idx yX10_isSleeve ∈ TBL) (hR : (rm_X10_isSleeve).frames + 1 ≤ R.frames ∧ 8 + (3 + 11) + (rm_X10_isSleeve).locals ≤ R.locals) (hcs : cells ≤ R.cells ∧ slots ≤ R.slots) (hls : ls.size = nL) (hcat : (rest.map fun v => v.category).sum ≤ 8) (d : decode cc pc = .ok (.invokevirtual idx, 3)) (kk : ∀ (H1 : Heap) (locs1 : List Loc), AtW E (wM E σf ++ X) A s H1 locs1 → W p l e R s m a below meth c H1 locs1 cells slots Q (F0 m (pc + 3) ls (.int rv :: rest))) : W p l e R s m a below meth c H locs cells slots Q (F0 m pc ls (.int p2 :: .int p1 :: .ref (eA E 0) :: rest)) :=
  r_calli (n := 2) (As := [.int p1, .int p2]) (q0 := 0) (ci := 10) (qq := (RX10, TX10, 64)) (c_X10_isSleeve h) wM_fst rfl rfl mk_7_162 mk_P_76 mk_1_11 mk_7_163 (by decide +kernel) rfl ⟨rfl, rfl⟩ cx hV w1 hR hcs hls rfl hcat d kk
def x_X10_isLooker (p1 : Int32) (p2 : Int32) (σ : St) : Option (Int32 × St) :=
  bd (x_X10_within p1 0 ((gI σ 10) - 1)) fun v1 =>
  bd2 (x_X10_may v1 p2 1 σ) fun v2 σ3 =>
  bd (bz v2) fun v4 =>
  some (v4, σ3)
abbrev rm_X10_isLooker : Room := { frames := 1, cells := 0, slots := 0, locals := 23 }
set_option maxHeartbeats 4000000 in
set_option maxRecDepth 100000 in
theorem c_X10_isLooker {l : Launch} {E : EV} {X : va_W} {σ : St} {p1 : Int32} {p2 : Int32} {rv : Int32} {σf : St} (h : x_X10_isLooker p1 p2 σ = some (rv, σf)) : CM l yX10_isLooker cX10_isLooker 3 (some .boolean) rm_X10_isLooker [.ref (eA E 0), .int p1, .int p2] E (wM E σ ++ X) (wM E σf ++ X) (qI rv) := by
  refine CM.start (by decide) (Nat.le_of_ble_eq_true rfl) (fun p e s m a below meth c A ls cx hr hlk hV hl => ?_)
  have cx : CallFix p m c cX10_isLooker 3 s a TBL RX10 := cx
  have hx := cx.1
  have hb := cx.2.1
  have hl : lv_has ls 3 [(0, .ref (eA E 0)), (1, .int p1), (2, .int p2)] := hl
  generalize hQ : EQ E (wM E σf ++ X) (qI rv) A s a below = QQ
  obtain ⟨H, hH⟩ : ∃ H, H = s.heap := ⟨_, rfl⟩
  obtain ⟨locs, hlocs⟩ : ∃ z, z = ([] : List Loc) := ⟨_, rfl⟩
  have hV : AtW E (wM E σ ++ X) A s H locs := by rw [hH, hlocs]; exact hV
  have goal : W p l e rm_X10_isLooker s m a below meth c H locs 0 0 QQ (F0 m 0 ls []) := by
    unfold x_X10_isLooker at h
    refine lv_aload_n hx hb dX10_isLooker_0 rfl (lv_at hl 0 rfl) ?_
    refine lv_iload_n hx hb dX10_isLooker_1 rfl (lv_at hl 1 rfl) ?_
    refine lv_iconst (v := 0) hx hb dX10_isLooker_2 (by decide) ?_
    refine lv_aload_n hx hb dX10_isLooker_3 rfl (lv_at hl 0 rfl) ?_
    refine G_X10_lookers cx hV mk_6_123 dX10_isLooker_4 ?_
    refine lv_iconst (v := 1) hx hb dX10_isLooker_7 (by decide) ?_
    refine lv_isub hx hb dX10_isLooker_8 ?_
    refine bd_e h (fun v1 hq h => ?_)
    refine k_X10_within hq cx hV mk_7_141 ⟨Nat.le_of_ble_eq_true rfl, Nat.le_of_ble_eq_true rfl⟩ ⟨Nat.zero_le _, Nat.zero_le _⟩ hl.1 (Nat.le_of_ble_eq_true rfl) dX10_isLooker_9 (fun H locs hV => ?_)
    refine lv_iload_n hx hb dX10_isLooker_12 rfl (lv_at hl 2 rfl) ?_
    refine lv_iconst (v := 1) hx hb dX10_isLooker_13 (by decide) ?_
    refine bd2_e h (fun v2 σ3 hq h => ?_)
    refine k_X10_may hq cx hV mk_7_62 ⟨Nat.le_of_ble_eq_true rfl, Nat.le_of_ble_eq_true rfl⟩ ⟨Nat.zero_le _, Nat.zero_le _⟩ hl.1 (Nat.le_of_ble_eq_true rfl) dX10_isLooker_14 (fun H locs hV => ?_)
    refine bd_e h (fun v4 hq h => ?_)
    obtain ⟨hq, hz⟩ := bz_e hq
    rw [hq]
    obtain ⟨h1, h2⟩ := Prod.mk.inj (Option.some.inj h)
    subst h1
    subst h2
    subst hQ
    exact r_zreti cx hr hlk hV hz dX10_isLooker_17
  rw [hH, hlocs] at goal
  exact goal
theorem k_X10_isLooker {p : Program} {l : Launch} {e : Env} {R : Room} {s : State} {m : MethodId} {a : Array Value} {below : List Frame} {meth : Method} {c : Code} {H : Heap} {locs : List Loc} {cells slots : Nat} {Q : State → Prop} {cc : ByteArray} {own : String} {nL pc : Nat} {ls : Array Slot} {rest : List Value} {A : Nat → Prop} {E : EV} {X : va_W} {σ : St} {p1 : Int32} {p2 : Int32} {rv : Int32} {σf : St} (h : x_X10_isLooker p1 p2 σ = some (rv, σf)) (cx : CallFix p m c cc nL s a TBL own) (hV : AtW E (wM E σ ++ X) A s H locs) {idx : Nat} (w1 : Cond.methodLink own idx yX10_isLooker ∈ TBL) (hR : (rm_X10_isLooker).frames + 1 ≤ R.frames ∧ 8 + (3 + 11) + (rm_X10_isLooker).locals ≤ R.locals) (hcs : cells ≤ R.cells ∧ slots ≤ R.slots) (hls : ls.size = nL) (hcat : (rest.map fun v => v.category).sum ≤ 8) (d : decode cc pc = .ok (.invokevirtual idx, 3)) (kk : ∀ (H1 : Heap) (locs1 : List Loc), AtW E (wM E σf ++ X) A s H1 locs1 → W p l e R s m a below meth c H1 locs1 cells slots Q (F0 m (pc + 3) ls (.int rv :: rest))) : W p l e R s m a below meth c H locs cells slots Q (F0 m pc ls (.int p2 :: .int p1 :: .ref (eA E 0) :: rest)) :=
  r_calli (n := 2) (As := [.int p1, .int p2]) (q0 := 0) (ci := 10) (qq := (RX10, TX10, 64)) (c_X10_isLooker h) wM_fst rfl rfl mk_7_182 mk_P_80 mk_1_11 mk_7_183 (by decide +kernel) rfl ⟨rfl, rfl⟩ cx hV w1 hR hcs hls rfl hcat d kk
def x_X10_crate (p1 : Int32) (p2 : Int32) (σ : St) : Option (Int32 × St) :=
  bd (some (sI σ 0 0)) fun σ1 =>
  bd2 (x_X10_isCrate p1 1 σ1) fun v2 σ3 =>
  (if v2 = 0 then
  some (0, σ3)
  else
  bd (x_X10_within p2 0 1) fun v4 =>
  bd2 (x_X10_may v4 2 2 σ3) fun v5 σ6 =>
  (if v5 = 0 then
  some (0, σ6)
  else
  (if p2 = 0 then
  bd (ldI (gA σ6 2) (lenM 2) p1) fun v8 =>
  some (v8, σ6)
  else
  bd (ldI (gA σ6 16) (lenM 16) p1) fun v7 =>
  some (v7, σ6))))
abbrev rm_X10_crate : Room := { frames := 2, cells := 0, slots := 0, locals := 45 }
set_option maxHeartbeats 4000000 in
set_option maxRecDepth 100000 in
theorem c_X10_crate {l : Launch} {E : EV} {X : va_W} {σ : St} {p1 : Int32} {p2 : Int32} {rv : Int32} {σf : St} (h : x_X10_crate p1 p2 σ = some (rv, σf)) : CM l yX10_crate cX10_crate 3 (some .int) rm_X10_crate [.ref (eA E 0), .int p1, .int p2] E (wM E σ ++ X) (wM E σf ++ X) (qI rv) := by
  refine CM.start (by decide) (Nat.le_of_ble_eq_true rfl) (fun p e s m a below meth c A ls cx hr hlk hV hl => ?_)
  have cx : CallFix p m c cX10_crate 3 s a TBL RX10 := cx
  have hx := cx.1
  have hb := cx.2.1
  have hl : lv_has ls 3 [(0, .ref (eA E 0)), (1, .int p1), (2, .int p2)] := hl
  generalize hQ : EQ E (wM E σf ++ X) (qI rv) A s a below = QQ
  obtain ⟨H, hH⟩ : ∃ H, H = s.heap := ⟨_, rfl⟩
  obtain ⟨locs, hlocs⟩ : ∃ z, z = ([] : List Loc) := ⟨_, rfl⟩
  have hV : AtW E (wM E σ ++ X) A s H locs := by rw [hH, hlocs]; exact hV
  have goal : W p l e rm_X10_crate s m a below meth c H locs 0 0 QQ (F0 m 0 ls []) := by
    unfold x_X10_crate at h
    refine lv_aload_n hx hb dX10_crate_0 rfl (lv_at hl 0 rfl) ?_
    refine lv_iconst (v := 0) hx hb dX10_crate_1 (by decide) ?_
    refine bd_e h (fun σ1 hq h => ?_)
    refine P_X10_thrown cx hV hq mk_6_97 dX10_crate_2 (fun H locs hV => ?_)
    refine lv_aload_n hx hb dX10_crate_5 rfl (lv_at hl 0 rfl) ?_
    refine lv_iload_n hx hb dX10_crate_6 rfl (lv_at hl 1 rfl) ?_
    refine lv_iconst (v := 1) hx hb dX10_crate_7 (by decide) ?_
    refine bd2_e h (fun v2 σ3 hq h => ?_)
    refine k_X10_isCrate hq cx hV mk_7_148 ⟨Nat.le_of_ble_eq_true rfl, Nat.le_of_ble_eq_true rfl⟩ ⟨Nat.zero_le _, Nat.zero_le _⟩ hl.1 (Nat.le_of_ble_eq_true rfl) dX10_crate_8 (fun H locs hV => ?_)
    refine lv_if_eq (tgt := 29) hx hb dX10_crate_11 (by decide) (fun hc => ?_) (fun hc => ?_)
    · have h := ifp hc h
      refine lv_iconst (v := 0) hx hb dX10_crate_29 (by decide) ?_
      obtain ⟨h1, h2⟩ := Prod.mk.inj (Option.some.inj h)
      subst h1
      subst h2
      subst hQ
      exact r_ireti cx hr hlk hV dX10_crate_30
    · have h := ifn hc h
      refine lv_aload_n hx hb dX10_crate_14 rfl (lv_at hl 0 rfl) ?_
      refine lv_iload_n hx hb dX10_crate_15 rfl (lv_at hl 2 rfl) ?_
      refine lv_iconst (v := 0) hx hb dX10_crate_16 (by decide) ?_
      refine lv_iconst (v := 1) hx hb dX10_crate_17 (by decide) ?_
      refine bd_e h (fun v4 hq h => ?_)
      refine k_X10_within hq cx hV mk_7_141 ⟨Nat.le_of_ble_eq_true rfl, Nat.le_of_ble_eq_true rfl⟩ ⟨Nat.zero_le _, Nat.zero_le _⟩ hl.1 (Nat.le_of_ble_eq_true rfl) dX10_crate_18 (fun H locs hV => ?_)
      refine lv_iconst (v := 2) hx hb dX10_crate_21 (by decide) ?_
      refine lv_iconst (v := 2) hx hb dX10_crate_22 (by decide) ?_
      refine bd2_e h (fun v5 σ6 hq h => ?_)
      refine k_X10_may hq cx hV mk_7_62 ⟨Nat.le_of_ble_eq_true rfl, Nat.le_of_ble_eq_true rfl⟩ ⟨Nat.zero_le _, Nat.zero_le _⟩ hl.1 (Nat.le_of_ble_eq_true rfl) dX10_crate_23 (fun H locs hV => ?_)
      refine lv_if_ne (tgt := 31) hx hb dX10_crate_26 (by decide) (fun hc => ?_) (fun hc => ?_)
      · have h := ifn hc h
        refine lv_iload_n hx hb dX10_crate_31 rfl (lv_at hl 2 rfl) ?_
        refine lv_if_ne (tgt := 44) hx hb dX10_crate_32 (by decide) (fun hc => ?_) (fun hc => ?_)
        · have h := ifn hc h
          refine lv_aload_n hx hb dX10_crate_44 rfl (lv_at hl 0 rfl) ?_
          refine G_X10_many cx hV mk_6_129 dX10_crate_45 ?_
          refine lv_iload_n hx hb dX10_crate_48 rfl (lv_at hl 1 rfl) ?_
          refine bd_e h (fun v7 hq h => ?_)
          refine R_M_iald cx hV (by decide) hq dX10_crate_49 ?_
          obtain ⟨h1, h2⟩ := Prod.mk.inj (Option.some.inj h)
          subst h1
          subst h2
          subst hQ
          exact r_ireti cx hr hlk hV dX10_crate_50
        · have h := ifp hc h
          refine lv_aload_n hx hb dX10_crate_35 rfl (lv_at hl 0 rfl) ?_
          refine G_X10_letterOf cx hV mk_6_107 dX10_crate_36 ?_
          refine lv_iload_n hx hb dX10_crate_39 rfl (lv_at hl 1 rfl) ?_
          refine bd_e h (fun v8 hq h => ?_)
          refine R_M_iald cx hV (by decide) hq dX10_crate_40 ?_
          refine lv_goto (tgt := 50) hx hb dX10_crate_41 (by decide) ?_
          obtain ⟨h1, h2⟩ := Prod.mk.inj (Option.some.inj h)
          subst h1
          subst h2
          subst hQ
          exact r_ireti cx hr hlk hV dX10_crate_50
      · have h := ifp hc h
        refine lv_iconst (v := 0) hx hb dX10_crate_29 (by decide) ?_
        obtain ⟨h1, h2⟩ := Prod.mk.inj (Option.some.inj h)
        subst h1
        subst h2
        subst hQ
        exact r_ireti cx hr hlk hV dX10_crate_30
  rw [hH, hlocs] at goal
  exact goal
theorem k_X10_crate {p : Program} {l : Launch} {e : Env} {R : Room} {s : State} {m : MethodId} {a : Array Value} {below : List Frame} {meth : Method} {c : Code} {H : Heap} {locs : List Loc} {cells slots : Nat} {Q : State → Prop} {cc : ByteArray} {own : String} {nL pc : Nat} {ls : Array Slot} {rest : List Value} {A : Nat → Prop} {E : EV} {X : va_W} {σ : St} {p1 : Int32} {p2 : Int32} {rv : Int32} {σf : St} (h : x_X10_crate p1 p2 σ = some (rv, σf)) (cx : CallFix p m c cc nL s a TBL own) (hV : AtW E (wM E σ ++ X) A s H locs) {idx : Nat} (w1 : Cond.methodLink own idx yX10_crate ∈ TBL) (hR : (rm_X10_crate).frames + 1 ≤ R.frames ∧ 8 + (3 + 11) + (rm_X10_crate).locals ≤ R.locals) (hcs : cells ≤ R.cells ∧ slots ≤ R.slots) (hls : ls.size = nL) (hcat : (rest.map fun v => v.category).sum ≤ 8) (d : decode cc pc = .ok (.invokevirtual idx, 3)) (kk : ∀ (H1 : Heap) (locs1 : List Loc), AtW E (wM E σf ++ X) A s H1 locs1 → W p l e R s m a below meth c H1 locs1 cells slots Q (F0 m (pc + 3) ls (.int rv :: rest))) : W p l e R s m a below meth c H locs cells slots Q (F0 m pc ls (.int p2 :: .int p1 :: .ref (eA E 0) :: rest)) :=
  r_calli (n := 2) (As := [.int p1, .int p2]) (q0 := 0) (ci := 10) (qq := (RX10, TX10, 64)) (c_X10_crate h) wM_fst rfl rfl mk_7_145 mk_7_146 mk_1_11 mk_7_147 (by decide +kernel) rfl ⟨rfl, rfl⟩ cx hV w1 hR hcs hls rfl hcat d kk
def x_X10_row (p1 : Int32) (p2 : Int32) (σ : St) : Option (Int32 × St) :=
  bd (some (sI σ 0 0)) fun σ1 =>
  bd2 (x_X10_isCrate p1 1 σ1) fun v2 σ3 =>
  (if v2 = 0 then
  some (0, σ3)
  else
  bd (ldI (gA σ3 16) (lenM 16) p1) fun v4 =>
  bd (x_X10_within p2 0 (v4 - 1)) fun v5 =>
  (if v5 = 0 then
  some ((-1), σ3)
  else
  bd (ldI (gA σ3 17) (lenM 17) ((24 * p1) + p2)) fun v6 =>
  some (v6, σ3)))
abbrev rm_X10_row : Room := { frames := 2, cells := 0, slots := 0, locals := 45 }
set_option maxHeartbeats 4000000 in
set_option maxRecDepth 100000 in
theorem c_X10_row {l : Launch} {E : EV} {X : va_W} {σ : St} {p1 : Int32} {p2 : Int32} {rv : Int32} {σf : St} (h : x_X10_row p1 p2 σ = some (rv, σf)) : CM l yX10_row cX10_row 3 (some .int) rm_X10_row [.ref (eA E 0), .int p1, .int p2] E (wM E σ ++ X) (wM E σf ++ X) (qI rv) := by
  refine CM.start (by decide) (Nat.le_of_ble_eq_true rfl) (fun p e s m a below meth c A ls cx hr hlk hV hl => ?_)
  have cx : CallFix p m c cX10_row 3 s a TBL RX10 := cx
  have hx := cx.1
  have hb := cx.2.1
  have hl : lv_has ls 3 [(0, .ref (eA E 0)), (1, .int p1), (2, .int p2)] := hl
  generalize hQ : EQ E (wM E σf ++ X) (qI rv) A s a below = QQ
  obtain ⟨H, hH⟩ : ∃ H, H = s.heap := ⟨_, rfl⟩
  obtain ⟨locs, hlocs⟩ : ∃ z, z = ([] : List Loc) := ⟨_, rfl⟩
  have hV : AtW E (wM E σ ++ X) A s H locs := by rw [hH, hlocs]; exact hV
  have goal : W p l e rm_X10_row s m a below meth c H locs 0 0 QQ (F0 m 0 ls []) := by
    unfold x_X10_row at h
    refine lv_aload_n hx hb dX10_row_0 rfl (lv_at hl 0 rfl) ?_
    refine lv_iconst (v := 0) hx hb dX10_row_1 (by decide) ?_
    refine bd_e h (fun σ1 hq h => ?_)
    refine P_X10_thrown cx hV hq mk_6_97 dX10_row_2 (fun H locs hV => ?_)
    refine lv_aload_n hx hb dX10_row_5 rfl (lv_at hl 0 rfl) ?_
    refine lv_iload_n hx hb dX10_row_6 rfl (lv_at hl 1 rfl) ?_
    refine lv_iconst (v := 1) hx hb dX10_row_7 (by decide) ?_
    refine bd2_e h (fun v2 σ3 hq h => ?_)
    refine k_X10_isCrate hq cx hV mk_7_148 ⟨Nat.le_of_ble_eq_true rfl, Nat.le_of_ble_eq_true rfl⟩ ⟨Nat.zero_le _, Nat.zero_le _⟩ hl.1 (Nat.le_of_ble_eq_true rfl) dX10_row_8 (fun H locs hV => ?_)
    refine lv_if_ne (tgt := 16) hx hb dX10_row_11 (by decide) (fun hc => ?_) (fun hc => ?_)
    · have h := ifn hc h
      refine lv_iload_n hx hb dX10_row_16 rfl (lv_at hl 2 rfl) ?_
      refine lv_iconst (v := 0) hx hb dX10_row_17 (by decide) ?_
      refine lv_aload_n hx hb dX10_row_18 rfl (lv_at hl 0 rfl) ?_
      refine G_X10_many cx hV mk_6_129 dX10_row_19 ?_
      refine lv_iload_n hx hb dX10_row_22 rfl (lv_at hl 1 rfl) ?_
      refine bd_e h (fun v4 hq h => ?_)
      refine R_M_iald cx hV (by decide) hq dX10_row_23 ?_
      refine lv_iconst (v := 1) hx hb dX10_row_24 (by decide) ?_
      refine lv_isub hx hb dX10_row_25 ?_
      refine bd_e h (fun v5 hq h => ?_)
      refine k_X10_within hq cx hV mk_7_141 ⟨Nat.le_of_ble_eq_true rfl, Nat.le_of_ble_eq_true rfl⟩ ⟨Nat.zero_le _, Nat.zero_le _⟩ hl.1 (Nat.le_of_ble_eq_true rfl) dX10_row_26 (fun H locs hV => ?_)
      refine lv_if_eq (tgt := 46) hx hb dX10_row_29 (by decide) (fun hc => ?_) (fun hc => ?_)
      · have h := ifp hc h
        refine lv_iconst (v := (-1)) hx hb dX10_row_46 (by decide) ?_
        obtain ⟨h1, h2⟩ := Prod.mk.inj (Option.some.inj h)
        subst h1
        subst h2
        subst hQ
        exact r_ireti cx hr hlk hV dX10_row_47
      · have h := ifn hc h
        refine lv_aload_n hx hb dX10_row_32 rfl (lv_at hl 0 rfl) ?_
        refine G_X10_row cx hV mk_6_130 dX10_row_33 ?_
        refine lv_bipush (v := 24) hx hb dX10_row_36 (by decide) ?_
        refine lv_iload_n hx hb dX10_row_38 rfl (lv_at hl 1 rfl) ?_
        refine lv_imul hx hb dX10_row_39 ?_
        refine lv_iload_n hx hb dX10_row_40 rfl (lv_at hl 2 rfl) ?_
        refine lv_iadd hx hb dX10_row_41 ?_
        refine bd_e h (fun v6 hq h => ?_)
        refine R_M_iald cx hV (by decide) hq dX10_row_42 ?_
        refine lv_goto (tgt := 47) hx hb dX10_row_43 (by decide) ?_
        obtain ⟨h1, h2⟩ := Prod.mk.inj (Option.some.inj h)
        subst h1
        subst h2
        subst hQ
        exact r_ireti cx hr hlk hV dX10_row_47
    · have h := ifp hc h
      refine lv_iconst (v := 0) hx hb dX10_row_14 (by decide) ?_
      obtain ⟨h1, h2⟩ := Prod.mk.inj (Option.some.inj h)
      subst h1
      subst h2
      subst hQ
      exact r_ireti cx hr hlk hV dX10_row_15
  rw [hH, hlocs] at goal
  exact goal
theorem k_X10_row {p : Program} {l : Launch} {e : Env} {R : Room} {s : State} {m : MethodId} {a : Array Value} {below : List Frame} {meth : Method} {c : Code} {H : Heap} {locs : List Loc} {cells slots : Nat} {Q : State → Prop} {cc : ByteArray} {own : String} {nL pc : Nat} {ls : Array Slot} {rest : List Value} {A : Nat → Prop} {E : EV} {X : va_W} {σ : St} {p1 : Int32} {p2 : Int32} {rv : Int32} {σf : St} (h : x_X10_row p1 p2 σ = some (rv, σf)) (cx : CallFix p m c cc nL s a TBL own) (hV : AtW E (wM E σ ++ X) A s H locs) {idx : Nat} (w1 : Cond.methodLink own idx yX10_row ∈ TBL) (hR : (rm_X10_row).frames + 1 ≤ R.frames ∧ 8 + (3 + 11) + (rm_X10_row).locals ≤ R.locals) (hcs : cells ≤ R.cells ∧ slots ≤ R.slots) (hls : ls.size = nL) (hcat : (rest.map fun v => v.category).sum ≤ 8) (d : decode cc pc = .ok (.invokevirtual idx, 3)) (kk : ∀ (H1 : Heap) (locs1 : List Loc), AtW E (wM E σf ++ X) A s H1 locs1 → W p l e R s m a below meth c H1 locs1 cells slots Q (F0 m (pc + 3) ls (.int rv :: rest))) : W p l e R s m a below meth c H locs cells slots Q (F0 m pc ls (.int p2 :: .int p1 :: .ref (eA E 0) :: rest)) :=
  r_calli (n := 2) (As := [.int p1, .int p2]) (q0 := 0) (ci := 10) (qq := (RX10, TX10, 64)) (c_X10_row h) wM_fst rfl rfl mk_7_153 mk_7_154 mk_1_11 mk_7_155 (by decide +kernel) rfl ⟨rfl, rfl⟩ cx hV w1 hR hcs hls rfl hcat d kk
def x_X10_away (p1 : Int32) (σ : St) : Option Int32 :=
  bd (ldI (gA σ 7) (lenM 7) p1) fun v1 =>
  bd (x_X10_own p1 σ) fun v2 =>
  (if v2 ≤ v1 then
  bd (ldI (gA σ 7) (lenM 7) p1) fun v3 =>
  bd (x_X10_own p1 σ) fun v4 =>
  some (v3 - v4)
  else
  bd (x_X10_own p1 σ) fun v5 =>
  bd (ldI (gA σ 7) (lenM 7) p1) fun v6 =>
  some (v5 - v6))
abbrev rm_X10_away : Room := { frames := 2, cells := 0, slots := 0, locals := 46 }
set_option maxHeartbeats 4000000 in
set_option maxRecDepth 100000 in
theorem c_X10_away {l : Launch} {E : EV} {X : va_W} {σ : St} {p1 : Int32} {rv : Int32} (h : x_X10_away p1 σ = some rv) : CM l yX10_away cX10_away 2 (some .int) rm_X10_away [.ref (eA E 0), .int p1] E (wM E σ ++ X) (wM E σ ++ X) (qI rv) := by
  refine CM.start (by decide) (Nat.le_of_ble_eq_true rfl) (fun p e s m a below meth c A ls cx hr hlk hV hl => ?_)
  have cx : CallFix p m c cX10_away 2 s a TBL RX10 := cx
  have hx := cx.1
  have hb := cx.2.1
  have hl : lv_has ls 2 [(0, .ref (eA E 0)), (1, .int p1)] := hl
  generalize hQ : EQ E (wM E σ ++ X) (qI rv) A s a below = QQ
  obtain ⟨H, hH⟩ : ∃ H, H = s.heap := ⟨_, rfl⟩
  obtain ⟨locs, hlocs⟩ : ∃ z, z = ([] : List Loc) := ⟨_, rfl⟩
  have hV : AtW E (wM E σ ++ X) A s H locs := by rw [hH, hlocs]; exact hV
  have goal : W p l e rm_X10_away s m a below meth c H locs 0 0 QQ (F0 m 0 ls []) := by
    unfold x_X10_away at h
    refine lv_aload_n hx hb dX10_away_0 rfl (lv_at hl 0 rfl) ?_
    refine G_X10_liesAt cx hV mk_6_112 dX10_away_1 ?_
    refine lv_iload_n hx hb dX10_away_4 rfl (lv_at hl 1 rfl) ?_
    refine bd_e h (fun v1 hq h => ?_)
    refine R_M_iald cx hV (by decide) hq dX10_away_5 ?_
    refine lv_aload_n hx hb dX10_away_6 rfl (lv_at hl 0 rfl) ?_
    refine lv_iload_n hx hb dX10_away_7 rfl (lv_at hl 1 rfl) ?_
    refine bd_e h (fun v2 hq h => ?_)
    refine k_X10_own hq cx hV mk_7_164 ⟨Nat.le_of_ble_eq_true rfl, Nat.le_of_ble_eq_true rfl⟩ ⟨Nat.zero_le _, Nat.zero_le _⟩ hl.1 (Nat.le_of_ble_eq_true rfl) dX10_away_8 (fun H locs hV => ?_)
    refine lv_icmp_ge (tgt := 29) hx hb dX10_away_11 (by decide) (fun hc => ?_) (fun hc => ?_)
    · have h := ifp hc h
      refine lv_aload_n hx hb dX10_away_29 rfl (lv_at hl 0 rfl) ?_
      refine G_X10_liesAt cx hV mk_6_112 dX10_away_30 ?_
      refine lv_iload_n hx hb dX10_away_33 rfl (lv_at hl 1 rfl) ?_
      refine bd_e h (fun v3 hq h => ?_)
      refine R_M_iald cx hV (by decide) hq dX10_away_34 ?_
      refine lv_aload_n hx hb dX10_away_35 rfl (lv_at hl 0 rfl) ?_
      refine lv_iload_n hx hb dX10_away_36 rfl (lv_at hl 1 rfl) ?_
      refine bd_e h (fun v4 hq h => ?_)
      refine k_X10_own hq cx hV mk_7_164 ⟨Nat.le_of_ble_eq_true rfl, Nat.le_of_ble_eq_true rfl⟩ ⟨Nat.zero_le _, Nat.zero_le _⟩ hl.1 (Nat.le_of_ble_eq_true rfl) dX10_away_37 (fun H locs hV => ?_)
      refine lv_isub hx hb dX10_away_40 ?_
      have h1 := Option.some.inj h
      subst h1
      subst hQ
      exact r_ireti cx hr hlk hV dX10_away_41
    · have h := ifn hc h
      refine lv_aload_n hx hb dX10_away_14 rfl (lv_at hl 0 rfl) ?_
      refine lv_iload_n hx hb dX10_away_15 rfl (lv_at hl 1 rfl) ?_
      refine bd_e h (fun v5 hq h => ?_)
      refine k_X10_own hq cx hV mk_7_164 ⟨Nat.le_of_ble_eq_true rfl, Nat.le_of_ble_eq_true rfl⟩ ⟨Nat.zero_le _, Nat.zero_le _⟩ hl.1 (Nat.le_of_ble_eq_true rfl) dX10_away_16 (fun H locs hV => ?_)
      refine lv_aload_n hx hb dX10_away_19 rfl (lv_at hl 0 rfl) ?_
      refine G_X10_liesAt cx hV mk_6_112 dX10_away_20 ?_
      refine lv_iload_n hx hb dX10_away_23 rfl (lv_at hl 1 rfl) ?_
      refine bd_e h (fun v6 hq h => ?_)
      refine R_M_iald cx hV (by decide) hq dX10_away_24 ?_
      refine lv_isub hx hb dX10_away_25 ?_
      refine lv_goto (tgt := 41) hx hb dX10_away_26 (by decide) ?_
      have h1 := Option.some.inj h
      subst h1
      subst hQ
      exact r_ireti cx hr hlk hV dX10_away_41
  rw [hH, hlocs] at goal
  exact goal
theorem k_X10_away {p : Program} {l : Launch} {e : Env} {R : Room} {s : State} {m : MethodId} {a : Array Value} {below : List Frame} {meth : Method} {c : Code} {H : Heap} {locs : List Loc} {cells slots : Nat} {Q : State → Prop} {cc : ByteArray} {own : String} {nL pc : Nat} {ls : Array Slot} {rest : List Value} {A : Nat → Prop} {E : EV} {X : va_W} {σ : St} {p1 : Int32} {rv : Int32} (h : x_X10_away p1 σ = some rv) (cx : CallFix p m c cc nL s a TBL own) (hV : AtW E (wM E σ ++ X) A s H locs) {idx : Nat} (w1 : Cond.methodLink own idx yX10_away ∈ TBL) (hR : (rm_X10_away).frames + 1 ≤ R.frames ∧ 8 + (2 + 11) + (rm_X10_away).locals ≤ R.locals) (hcs : cells ≤ R.cells ∧ slots ≤ R.slots) (hls : ls.size = nL) (hcat : (rest.map fun v => v.category).sum ≤ 8) (d : decode cc pc = .ok (.invokevirtual idx, 3)) (kk : ∀ (H1 : Heap) (locs1 : List Loc), AtW E (wM E σ ++ X) A s H1 locs1 → W p l e R s m a below meth c H1 locs1 cells slots Q (F0 m (pc + 3) ls (.int rv :: rest))) : W p l e R s m a below meth c H locs cells slots Q (F0 m pc ls (.int p1 :: .ref (eA E 0) :: rest)) :=
  r_calli (n := 1) (As := [.int p1]) (q0 := 0) (ci := 10) (qq := (RX10, TX10, 64)) (c_X10_away h) rfl rfl rfl mk_7_174 mk_P_79 mk_1_11 mk_7_175 (by decide +kernel) rfl ⟨rfl, rfl⟩ cx hV w1 hR hcs hls rfl hcat d kk
def x_X10_kindOf (p1 : Int32) (σ : St) : Option Int32 :=
  bd (ldI (gA σ 7) (lenM 7) p1) fun v1 =>
  (if v1 = (-1) then
  some 4
  else
  bd (ldI (gA σ 8) (lenM 8) p1) fun v2 =>
  (if v2 = p1 then
  bd (x_X10_away p1 σ) fun v3 =>
  (if v3 ≤ 2 then
  some v3
  else
  some 2)
  else
  some 3))
abbrev rm_X10_kindOf : Room := { frames := 3, cells := 0, slots := 0, locals := 67 }
set_option maxHeartbeats 4000000 in
set_option maxRecDepth 100000 in
theorem c_X10_kindOf {l : Launch} {E : EV} {X : va_W} {σ : St} {p1 : Int32} {rv : Int32} (h : x_X10_kindOf p1 σ = some rv) : CM l yX10_kindOf cX10_kindOf 3 (some .int) rm_X10_kindOf [.ref (eA E 0), .int p1] E (wM E σ ++ X) (wM E σ ++ X) (qI rv) := by
  refine CM.start (by decide) (Nat.le_of_ble_eq_true rfl) (fun p e s m a below meth c A ls cx hr hlk hV hl => ?_)
  have cx : CallFix p m c cX10_kindOf 3 s a TBL RX10 := cx
  have hx := cx.1
  have hb := cx.2.1
  have hl : lv_has ls 3 [(0, .ref (eA E 0)), (1, .int p1)] := hl
  generalize hQ : EQ E (wM E σ ++ X) (qI rv) A s a below = QQ
  obtain ⟨H, hH⟩ : ∃ H, H = s.heap := ⟨_, rfl⟩
  obtain ⟨locs, hlocs⟩ : ∃ z, z = ([] : List Loc) := ⟨_, rfl⟩
  have hV : AtW E (wM E σ ++ X) A s H locs := by rw [hH, hlocs]; exact hV
  have goal : W p l e rm_X10_kindOf s m a below meth c H locs 0 0 QQ (F0 m 0 ls []) := by
    unfold x_X10_kindOf at h
    refine lv_aload_n hx hb dX10_kindOf_0 rfl (lv_at hl 0 rfl) ?_
    refine G_X10_liesAt cx hV mk_6_112 dX10_kindOf_1 ?_
    refine lv_iload_n hx hb dX10_kindOf_4 rfl (lv_at hl 1 rfl) ?_
    refine bd_e h (fun v1 hq h => ?_)
    refine R_M_iald cx hV (by decide) hq dX10_kindOf_5 ?_
    refine lv_iconst (v := (-1)) hx hb dX10_kindOf_6 (by decide) ?_
    refine lv_icmp_ne (tgt := 12) hx hb dX10_kindOf_7 (by decide) (fun hc => ?_) (fun hc => ?_)
    · have h := ifn hc h
      refine lv_aload_n hx hb dX10_kindOf_12 rfl (lv_at hl 0 rfl) ?_
      refine G_X10_discAt cx hV mk_6_113 dX10_kindOf_13 ?_
      refine lv_iload_n hx hb dX10_kindOf_16 rfl (lv_at hl 1 rfl) ?_
      refine bd_e h (fun v2 hq h => ?_)
      refine R_M_iald cx hV (by decide) hq dX10_kindOf_17 ?_
      refine lv_iload_n hx hb dX10_kindOf_18 rfl (lv_at hl 1 rfl) ?_
      refine lv_icmp_eq (tgt := 24) hx hb dX10_kindOf_19 (by decide) (fun hc => ?_) (fun hc => ?_)
      · have h := ifp hc h
        refine lv_aload_n hx hb dX10_kindOf_24 rfl (lv_at hl 0 rfl) ?_
        refine lv_iload_n hx hb dX10_kindOf_25 rfl (lv_at hl 1 rfl) ?_
        refine bd_e h (fun v3 hq h => ?_)
        refine k_X10_away hq cx hV mk_7_172 ⟨Nat.le_of_ble_eq_true rfl, Nat.le_of_ble_eq_true rfl⟩ ⟨Nat.zero_le _, Nat.zero_le _⟩ hl.1 (Nat.le_of_ble_eq_true rfl) dX10_kindOf_26 (fun H locs hV => ?_)
        refine lv_istore_n (lv' := [(2, .int v3), (0, .ref (eA E 0)), (1, .int p1)]) hx hb dX10_kindOf_29 rfl hl (by decide) rfl (fun ls hl => ?_)
        refine lv_iload_n hx hb dX10_kindOf_30 rfl (lv_at hl 0 rfl) ?_
        refine lv_iconst (v := 2) hx hb dX10_kindOf_31 (by decide) ?_
        refine lv_icmp_le (tgt := 39) hx hb dX10_kindOf_32 (by decide) (fun hc => ?_) (fun hc => ?_)
        · have h := ifp hc h
          refine lv_iload_n hx hb dX10_kindOf_39 rfl (lv_at hl 0 rfl) ?_
          have h1 := Option.some.inj h
          subst h1
          subst hQ
          exact r_ireti cx hr hlk hV dX10_kindOf_40
        · have h := ifn hc h
          refine lv_iconst (v := 2) hx hb dX10_kindOf_35 (by decide) ?_
          refine lv_goto (tgt := 40) hx hb dX10_kindOf_36 (by decide) ?_
          have h1 := Option.some.inj h
          subst h1
          subst hQ
          exact r_ireti cx hr hlk hV dX10_kindOf_40
      · have h := ifn hc h
        refine lv_iconst (v := 3) hx hb dX10_kindOf_22 (by decide) ?_
        have h1 := Option.some.inj h
        subst h1
        subst hQ
        exact r_ireti cx hr hlk hV dX10_kindOf_23
    · have h := ifp hc h
      refine lv_iconst (v := 4) hx hb dX10_kindOf_10 (by decide) ?_
      have h1 := Option.some.inj h
      subst h1
      subst hQ
      exact r_ireti cx hr hlk hV dX10_kindOf_11
  rw [hH, hlocs] at goal
  exact goal
theorem k_X10_kindOf {p : Program} {l : Launch} {e : Env} {R : Room} {s : State} {m : MethodId} {a : Array Value} {below : List Frame} {meth : Method} {c : Code} {H : Heap} {locs : List Loc} {cells slots : Nat} {Q : State → Prop} {cc : ByteArray} {own : String} {nL pc : Nat} {ls : Array Slot} {rest : List Value} {A : Nat → Prop} {E : EV} {X : va_W} {σ : St} {p1 : Int32} {rv : Int32} (h : x_X10_kindOf p1 σ = some rv) (cx : CallFix p m c cc nL s a TBL own) (hV : AtW E (wM E σ ++ X) A s H locs) {idx : Nat} (w1 : Cond.methodLink own idx yX10_kindOf ∈ TBL) (hR : (rm_X10_kindOf).frames + 1 ≤ R.frames ∧ 8 + (3 + 11) + (rm_X10_kindOf).locals ≤ R.locals) (hcs : cells ≤ R.cells ∧ slots ≤ R.slots) (hls : ls.size = nL) (hcat : (rest.map fun v => v.category).sum ≤ 8) (d : decode cc pc = .ok (.invokevirtual idx, 3)) (kk : ∀ (H1 : Heap) (locs1 : List Loc), AtW E (wM E σ ++ X) A s H1 locs1 → W p l e R s m a below meth c H1 locs1 cells slots Q (F0 m (pc + 3) ls (.int rv :: rest))) : W p l e R s m a below meth c H locs cells slots Q (F0 m pc ls (.int p1 :: .ref (eA E 0) :: rest)) :=
  r_calli (n := 1) (As := [.int p1]) (q0 := 0) (ci := 10) (qq := (RX10, TX10, 64)) (c_X10_kindOf h) rfl rfl rfl mk_7_170 mk_P_78 mk_1_11 mk_7_171 (by decide +kernel) rfl ⟨rfl, rfl⟩ cx hV w1 hR hcs hls rfl hcat d kk
def x_X10_sleeve (p1 : Int32) (p2 : Int32) (σ : St) : Option (Int32 × St) :=
  bd (some (sI σ 0 0)) fun σ1 =>
  bd2 (x_X10_isSleeve p1 1 σ1) fun v2 σ3 =>
  (if v2 = 0 then
  some (0, σ3)
  else
  bd (x_X10_within p2 0 6) fun v4 =>
  bd2 (x_X10_may v4 2 2 σ3) fun v5 σ6 =>
  (if v5 = 0 then
  some (0, σ6)
  else
  (if 3 ≤ p2 then
  (if p2 = 3 then
  bd (x_X10_own p1 σ6) fun v10 =>
  some (v10, σ6)
  else
  (if p2 = 4 then
  bd (ldI (gA σ6 7) (lenM 7) p1) fun v9 =>
  some (v9, σ6)
  else
  (if p2 = 5 then
  bd (ldI (gA σ6 8) (lenM 8) p1) fun v8 =>
  some (v8, σ6)
  else
  bd (x_X10_kindOf p1 σ6) fun v7 =>
  some (v7, σ6))))
  else
  bd (ldI (gA σ6 3) (lenM 3) ((3 * p1) + p2)) fun v11 =>
  some (v11, σ6))))
abbrev rm_X10_sleeve : Room := { frames := 4, cells := 0, slots := 0, locals := 89 }
set_option maxHeartbeats 4000000 in
set_option maxRecDepth 100000 in
theorem c_X10_sleeve {l : Launch} {E : EV} {X : va_W} {σ : St} {p1 : Int32} {p2 : Int32} {rv : Int32} {σf : St} (h : x_X10_sleeve p1 p2 σ = some (rv, σf)) : CM l yX10_sleeve cX10_sleeve 3 (some .int) rm_X10_sleeve [.ref (eA E 0), .int p1, .int p2] E (wM E σ ++ X) (wM E σf ++ X) (qI rv) := by
  refine CM.start (by decide) (Nat.le_of_ble_eq_true rfl) (fun p e s m a below meth c A ls cx hr hlk hV hl => ?_)
  have cx : CallFix p m c cX10_sleeve 3 s a TBL RX10 := cx
  have hx := cx.1
  have hb := cx.2.1
  have hl : lv_has ls 3 [(0, .ref (eA E 0)), (1, .int p1), (2, .int p2)] := hl
  generalize hQ : EQ E (wM E σf ++ X) (qI rv) A s a below = QQ
  obtain ⟨H, hH⟩ : ∃ H, H = s.heap := ⟨_, rfl⟩
  obtain ⟨locs, hlocs⟩ : ∃ z, z = ([] : List Loc) := ⟨_, rfl⟩
  have hV : AtW E (wM E σ ++ X) A s H locs := by rw [hH, hlocs]; exact hV
  have goal : W p l e rm_X10_sleeve s m a below meth c H locs 0 0 QQ (F0 m 0 ls []) := by
    unfold x_X10_sleeve at h
    refine lv_aload_n hx hb dX10_sleeve_0 rfl (lv_at hl 0 rfl) ?_
    refine lv_iconst (v := 0) hx hb dX10_sleeve_1 (by decide) ?_
    refine bd_e h (fun σ1 hq h => ?_)
    refine P_X10_thrown cx hV hq mk_6_97 dX10_sleeve_2 (fun H locs hV => ?_)
    refine lv_aload_n hx hb dX10_sleeve_5 rfl (lv_at hl 0 rfl) ?_
    refine lv_iload_n hx hb dX10_sleeve_6 rfl (lv_at hl 1 rfl) ?_
    refine lv_iconst (v := 1) hx hb dX10_sleeve_7 (by decide) ?_
    refine bd2_e h (fun v2 σ3 hq h => ?_)
    refine k_X10_isSleeve hq cx hV mk_7_160 ⟨Nat.le_of_ble_eq_true rfl, Nat.le_of_ble_eq_true rfl⟩ ⟨Nat.zero_le _, Nat.zero_le _⟩ hl.1 (Nat.le_of_ble_eq_true rfl) dX10_sleeve_8 (fun H locs hV => ?_)
    refine lv_if_eq (tgt := 30) hx hb dX10_sleeve_11 (by decide) (fun hc => ?_) (fun hc => ?_)
    · have h := ifp hc h
      refine lv_iconst (v := 0) hx hb dX10_sleeve_30 (by decide) ?_
      obtain ⟨h1, h2⟩ := Prod.mk.inj (Option.some.inj h)
      subst h1
      subst h2
      subst hQ
      exact r_ireti cx hr hlk hV dX10_sleeve_31
    · have h := ifn hc h
      refine lv_aload_n hx hb dX10_sleeve_14 rfl (lv_at hl 0 rfl) ?_
      refine lv_iload_n hx hb dX10_sleeve_15 rfl (lv_at hl 2 rfl) ?_
      refine lv_iconst (v := 0) hx hb dX10_sleeve_16 (by decide) ?_
      refine lv_bipush (v := 6) hx hb dX10_sleeve_17 (by decide) ?_
      refine bd_e h (fun v4 hq h => ?_)
      refine k_X10_within hq cx hV mk_7_141 ⟨Nat.le_of_ble_eq_true rfl, Nat.le_of_ble_eq_true rfl⟩ ⟨Nat.zero_le _, Nat.zero_le _⟩ hl.1 (Nat.le_of_ble_eq_true rfl) dX10_sleeve_19 (fun H locs hV => ?_)
      refine lv_iconst (v := 2) hx hb dX10_sleeve_22 (by decide) ?_
      refine lv_iconst (v := 2) hx hb dX10_sleeve_23 (by decide) ?_
      refine bd2_e h (fun v5 σ6 hq h => ?_)
      refine k_X10_may hq cx hV mk_7_62 ⟨Nat.le_of_ble_eq_true rfl, Nat.le_of_ble_eq_true rfl⟩ ⟨Nat.zero_le _, Nat.zero_le _⟩ hl.1 (Nat.le_of_ble_eq_true rfl) dX10_sleeve_24 (fun H locs hV => ?_)
      refine lv_if_ne (tgt := 32) hx hb dX10_sleeve_27 (by decide) (fun hc => ?_) (fun hc => ?_)
      · have h := ifn hc h
        refine lv_iload_n hx hb dX10_sleeve_32 rfl (lv_at hl 2 rfl) ?_
        refine lv_iconst (v := 3) hx hb dX10_sleeve_33 (by decide) ?_
        refine lv_icmp_ge (tgt := 48) hx hb dX10_sleeve_34 (by decide) (fun hc => ?_) (fun hc => ?_)
        · have h := ifp hc h
          refine lv_iload_n hx hb dX10_sleeve_48 rfl (lv_at hl 2 rfl) ?_
          refine lv_iconst (v := 3) hx hb dX10_sleeve_49 (by decide) ?_
          refine lv_icmp_ne (tgt := 61) hx hb dX10_sleeve_50 (by decide) (fun hc => ?_) (fun hc => ?_)
          · have h := ifn hc h
            refine lv_iload_n hx hb dX10_sleeve_61 rfl (lv_at hl 2 rfl) ?_
            refine lv_iconst (v := 4) hx hb dX10_sleeve_62 (by decide) ?_
            refine lv_icmp_ne (tgt := 75) hx hb dX10_sleeve_63 (by decide) (fun hc => ?_) (fun hc => ?_)
            · have h := ifn hc h
              refine lv_iload_n hx hb dX10_sleeve_75 rfl (lv_at hl 2 rfl) ?_
              refine lv_iconst (v := 5) hx hb dX10_sleeve_76 (by decide) ?_
              refine lv_icmp_ne (tgt := 89) hx hb dX10_sleeve_77 (by decide) (fun hc => ?_) (fun hc => ?_)
              · have h := ifn hc h
                refine lv_aload_n hx hb dX10_sleeve_89 rfl (lv_at hl 0 rfl) ?_
                refine lv_iload_n hx hb dX10_sleeve_90 rfl (lv_at hl 1 rfl) ?_
                refine bd_e h (fun v7 hq h => ?_)
                refine k_X10_kindOf hq cx hV mk_7_168 ⟨Nat.le_of_ble_eq_true rfl, Nat.le_of_ble_eq_true rfl⟩ ⟨Nat.zero_le _, Nat.zero_le _⟩ hl.1 (Nat.le_of_ble_eq_true rfl) dX10_sleeve_91 (fun H locs hV => ?_)
                obtain ⟨h1, h2⟩ := Prod.mk.inj (Option.some.inj h)
                subst h1
                subst h2
                subst hQ
                exact r_ireti cx hr hlk hV dX10_sleeve_94
              · have h := ifp hc h
                refine lv_aload_n hx hb dX10_sleeve_80 rfl (lv_at hl 0 rfl) ?_
                refine G_X10_discAt cx hV mk_6_113 dX10_sleeve_81 ?_
                refine lv_iload_n hx hb dX10_sleeve_84 rfl (lv_at hl 1 rfl) ?_
                refine bd_e h (fun v8 hq h => ?_)
                refine R_M_iald cx hV (by decide) hq dX10_sleeve_85 ?_
                refine lv_goto (tgt := 94) hx hb dX10_sleeve_86 (by decide) ?_
                obtain ⟨h1, h2⟩ := Prod.mk.inj (Option.some.inj h)
                subst h1
                subst h2
                subst hQ
                exact r_ireti cx hr hlk hV dX10_sleeve_94
            · have h := ifp hc h
              refine lv_aload_n hx hb dX10_sleeve_66 rfl (lv_at hl 0 rfl) ?_
              refine G_X10_liesAt cx hV mk_6_112 dX10_sleeve_67 ?_
              refine lv_iload_n hx hb dX10_sleeve_70 rfl (lv_at hl 1 rfl) ?_
              refine bd_e h (fun v9 hq h => ?_)
              refine R_M_iald cx hV (by decide) hq dX10_sleeve_71 ?_
              refine lv_goto (tgt := 94) hx hb dX10_sleeve_72 (by decide) ?_
              obtain ⟨h1, h2⟩ := Prod.mk.inj (Option.some.inj h)
              subst h1
              subst h2
              subst hQ
              exact r_ireti cx hr hlk hV dX10_sleeve_94
          · have h := ifp hc h
            refine lv_aload_n hx hb dX10_sleeve_53 rfl (lv_at hl 0 rfl) ?_
            refine lv_iload_n hx hb dX10_sleeve_54 rfl (lv_at hl 1 rfl) ?_
            refine bd_e h (fun v10 hq h => ?_)
            refine k_X10_own hq cx hV mk_7_164 ⟨Nat.le_of_ble_eq_true rfl, Nat.le_of_ble_eq_true rfl⟩ ⟨Nat.zero_le _, Nat.zero_le _⟩ hl.1 (Nat.le_of_ble_eq_true rfl) dX10_sleeve_55 (fun H locs hV => ?_)
            refine lv_goto (tgt := 94) hx hb dX10_sleeve_58 (by decide) ?_
            obtain ⟨h1, h2⟩ := Prod.mk.inj (Option.some.inj h)
            subst h1
            subst h2
            subst hQ
            exact r_ireti cx hr hlk hV dX10_sleeve_94
        · have h := ifn hc h
          refine lv_aload_n hx hb dX10_sleeve_37 rfl (lv_at hl 0 rfl) ?_
          refine G_X10_sleeve cx hV mk_6_108 dX10_sleeve_38 ?_
          refine lv_iconst (v := 3) hx hb dX10_sleeve_41 (by decide) ?_
          refine lv_iload_n hx hb dX10_sleeve_42 rfl (lv_at hl 1 rfl) ?_
          refine lv_imul hx hb dX10_sleeve_43 ?_
          refine lv_iload_n hx hb dX10_sleeve_44 rfl (lv_at hl 2 rfl) ?_
          refine lv_iadd hx hb dX10_sleeve_45 ?_
          refine bd_e h (fun v11 hq h => ?_)
          refine R_M_iald cx hV (by decide) hq dX10_sleeve_46 ?_
          obtain ⟨h1, h2⟩ := Prod.mk.inj (Option.some.inj h)
          subst h1
          subst h2
          subst hQ
          exact r_ireti cx hr hlk hV dX10_sleeve_47
      · have h := ifp hc h
        refine lv_iconst (v := 0) hx hb dX10_sleeve_30 (by decide) ?_
        obtain ⟨h1, h2⟩ := Prod.mk.inj (Option.some.inj h)
        subst h1
        subst h2
        subst hQ
        exact r_ireti cx hr hlk hV dX10_sleeve_31
  rw [hH, hlocs] at goal
  exact goal
theorem k_X10_sleeve {p : Program} {l : Launch} {e : Env} {R : Room} {s : State} {m : MethodId} {a : Array Value} {below : List Frame} {meth : Method} {c : Code} {H : Heap} {locs : List Loc} {cells slots : Nat} {Q : State → Prop} {cc : ByteArray} {own : String} {nL pc : Nat} {ls : Array Slot} {rest : List Value} {A : Nat → Prop} {E : EV} {X : va_W} {σ : St} {p1 : Int32} {p2 : Int32} {rv : Int32} {σf : St} (h : x_X10_sleeve p1 p2 σ = some (rv, σf)) (cx : CallFix p m c cc nL s a TBL own) (hV : AtW E (wM E σ ++ X) A s H locs) {idx : Nat} (w1 : Cond.methodLink own idx yX10_sleeve ∈ TBL) (hR : (rm_X10_sleeve).frames + 1 ≤ R.frames ∧ 8 + (3 + 11) + (rm_X10_sleeve).locals ≤ R.locals) (hcs : cells ≤ R.cells ∧ slots ≤ R.slots) (hls : ls.size = nL) (hcat : (rest.map fun v => v.category).sum ≤ 8) (d : decode cc pc = .ok (.invokevirtual idx, 3)) (kk : ∀ (H1 : Heap) (locs1 : List Loc), AtW E (wM E σf ++ X) A s H1 locs1 → W p l e R s m a below meth c H1 locs1 cells slots Q (F0 m (pc + 3) ls (.int rv :: rest))) : W p l e R s m a below meth c H locs cells slots Q (F0 m pc ls (.int p2 :: .int p1 :: .ref (eA E 0) :: rest)) :=
  r_calli (n := 2) (As := [.int p1, .int p2]) (q0 := 0) (ci := 10) (qq := (RX10, TX10, 64)) (c_X10_sleeve h) wM_fst rfl rfl mk_7_157 mk_7_158 mk_1_11 mk_7_159 (by decide +kernel) rfl ⟨rfl, rfl⟩ cx hV w1 hR hcs hls rfl hcat d kk
def x_X10_looker (p1 : Int32) (p2 : Int32) (σ : St) : Option (Int32 × St) :=
  bd (some (sI σ 0 0)) fun σ1 =>
  bd2 (x_X10_isLooker p1 1 σ1) fun v2 σ3 =>
  (if v2 = 0 then
  some (0, σ3)
  else
  bd (x_X10_within p2 0 5) fun v4 =>
  bd2 (x_X10_may v4 2 2 σ3) fun v5 σ6 =>
  (if v5 = 0 then
  some (0, σ6)
  else
  bd (ldI (gA σ6 4) (lenM 4) ((6 * p1) + p2)) fun v7 =>
  some (v7, σ6)))
abbrev rm_X10_looker : Room := { frames := 2, cells := 0, slots := 0, locals := 45 }
set_option maxHeartbeats 4000000 in
set_option maxRecDepth 100000 in
theorem c_X10_looker {l : Launch} {E : EV} {X : va_W} {σ : St} {p1 : Int32} {p2 : Int32} {rv : Int32} {σf : St} (h : x_X10_looker p1 p2 σ = some (rv, σf)) : CM l yX10_looker cX10_looker 3 (some .int) rm_X10_looker [.ref (eA E 0), .int p1, .int p2] E (wM E σ ++ X) (wM E σf ++ X) (qI rv) := by
  refine CM.start (by decide) (Nat.le_of_ble_eq_true rfl) (fun p e s m a below meth c A ls cx hr hlk hV hl => ?_)
  have cx : CallFix p m c cX10_looker 3 s a TBL RX10 := cx
  have hx := cx.1
  have hb := cx.2.1
  have hl : lv_has ls 3 [(0, .ref (eA E 0)), (1, .int p1), (2, .int p2)] := hl
  generalize hQ : EQ E (wM E σf ++ X) (qI rv) A s a below = QQ
  obtain ⟨H, hH⟩ : ∃ H, H = s.heap := ⟨_, rfl⟩
  obtain ⟨locs, hlocs⟩ : ∃ z, z = ([] : List Loc) := ⟨_, rfl⟩
  have hV : AtW E (wM E σ ++ X) A s H locs := by rw [hH, hlocs]; exact hV
  have goal : W p l e rm_X10_looker s m a below meth c H locs 0 0 QQ (F0 m 0 ls []) := by
    unfold x_X10_looker at h
    refine lv_aload_n hx hb dX10_looker_0 rfl (lv_at hl 0 rfl) ?_
    refine lv_iconst (v := 0) hx hb dX10_looker_1 (by decide) ?_
    refine bd_e h (fun σ1 hq h => ?_)
    refine P_X10_thrown cx hV hq mk_6_97 dX10_looker_2 (fun H locs hV => ?_)
    refine lv_aload_n hx hb dX10_looker_5 rfl (lv_at hl 0 rfl) ?_
    refine lv_iload_n hx hb dX10_looker_6 rfl (lv_at hl 1 rfl) ?_
    refine lv_iconst (v := 1) hx hb dX10_looker_7 (by decide) ?_
    refine bd2_e h (fun v2 σ3 hq h => ?_)
    refine k_X10_isLooker hq cx hV mk_7_180 ⟨Nat.le_of_ble_eq_true rfl, Nat.le_of_ble_eq_true rfl⟩ ⟨Nat.zero_le _, Nat.zero_le _⟩ hl.1 (Nat.le_of_ble_eq_true rfl) dX10_looker_8 (fun H locs hV => ?_)
    refine lv_if_eq (tgt := 29) hx hb dX10_looker_11 (by decide) (fun hc => ?_) (fun hc => ?_)
    · have h := ifp hc h
      refine lv_iconst (v := 0) hx hb dX10_looker_29 (by decide) ?_
      obtain ⟨h1, h2⟩ := Prod.mk.inj (Option.some.inj h)
      subst h1
      subst h2
      subst hQ
      exact r_ireti cx hr hlk hV dX10_looker_30
    · have h := ifn hc h
      refine lv_aload_n hx hb dX10_looker_14 rfl (lv_at hl 0 rfl) ?_
      refine lv_iload_n hx hb dX10_looker_15 rfl (lv_at hl 2 rfl) ?_
      refine lv_iconst (v := 0) hx hb dX10_looker_16 (by decide) ?_
      refine lv_iconst (v := 5) hx hb dX10_looker_17 (by decide) ?_
      refine bd_e h (fun v4 hq h => ?_)
      refine k_X10_within hq cx hV mk_7_141 ⟨Nat.le_of_ble_eq_true rfl, Nat.le_of_ble_eq_true rfl⟩ ⟨Nat.zero_le _, Nat.zero_le _⟩ hl.1 (Nat.le_of_ble_eq_true rfl) dX10_looker_18 (fun H locs hV => ?_)
      refine lv_iconst (v := 2) hx hb dX10_looker_21 (by decide) ?_
      refine lv_iconst (v := 2) hx hb dX10_looker_22 (by decide) ?_
      refine bd2_e h (fun v5 σ6 hq h => ?_)
      refine k_X10_may hq cx hV mk_7_62 ⟨Nat.le_of_ble_eq_true rfl, Nat.le_of_ble_eq_true rfl⟩ ⟨Nat.zero_le _, Nat.zero_le _⟩ hl.1 (Nat.le_of_ble_eq_true rfl) dX10_looker_23 (fun H locs hV => ?_)
      refine lv_if_ne (tgt := 31) hx hb dX10_looker_26 (by decide) (fun hc => ?_) (fun hc => ?_)
      · have h := ifn hc h
        refine lv_aload_n hx hb dX10_looker_31 rfl (lv_at hl 0 rfl) ?_
        refine G_X10_looker cx hV mk_6_109 dX10_looker_32 ?_
        refine lv_bipush (v := 6) hx hb dX10_looker_35 (by decide) ?_
        refine lv_iload_n hx hb dX10_looker_37 rfl (lv_at hl 1 rfl) ?_
        refine lv_imul hx hb dX10_looker_38 ?_
        refine lv_iload_n hx hb dX10_looker_39 rfl (lv_at hl 2 rfl) ?_
        refine lv_iadd hx hb dX10_looker_40 ?_
        refine bd_e h (fun v7 hq h => ?_)
        refine R_M_iald cx hV (by decide) hq dX10_looker_41 ?_
        obtain ⟨h1, h2⟩ := Prod.mk.inj (Option.some.inj h)
        subst h1
        subst h2
        subst hQ
        exact r_ireti cx hr hlk hV dX10_looker_42
      · have h := ifp hc h
        refine lv_iconst (v := 0) hx hb dX10_looker_29 (by decide) ?_
        obtain ⟨h1, h2⟩ := Prod.mk.inj (Option.some.inj h)
        subst h1
        subst h2
        subst hQ
        exact r_ireti cx hr hlk hV dX10_looker_30
  rw [hH, hlocs] at goal
  exact goal
theorem k_X10_looker {p : Program} {l : Launch} {e : Env} {R : Room} {s : State} {m : MethodId} {a : Array Value} {below : List Frame} {meth : Method} {c : Code} {H : Heap} {locs : List Loc} {cells slots : Nat} {Q : State → Prop} {cc : ByteArray} {own : String} {nL pc : Nat} {ls : Array Slot} {rest : List Value} {A : Nat → Prop} {E : EV} {X : va_W} {σ : St} {p1 : Int32} {p2 : Int32} {rv : Int32} {σf : St} (h : x_X10_looker p1 p2 σ = some (rv, σf)) (cx : CallFix p m c cc nL s a TBL own) (hV : AtW E (wM E σ ++ X) A s H locs) {idx : Nat} (w1 : Cond.methodLink own idx yX10_looker ∈ TBL) (hR : (rm_X10_looker).frames + 1 ≤ R.frames ∧ 8 + (3 + 11) + (rm_X10_looker).locals ≤ R.locals) (hcs : cells ≤ R.cells ∧ slots ≤ R.slots) (hls : ls.size = nL) (hcat : (rest.map fun v => v.category).sum ≤ 8) (d : decode cc pc = .ok (.invokevirtual idx, 3)) (kk : ∀ (H1 : Heap) (locs1 : List Loc), AtW E (wM E σf ++ X) A s H1 locs1 → W p l e R s m a below meth c H1 locs1 cells slots Q (F0 m (pc + 3) ls (.int rv :: rest))) : W p l e R s m a below meth c H locs cells slots Q (F0 m pc ls (.int p2 :: .int p1 :: .ref (eA E 0) :: rest)) :=
  r_calli (n := 2) (As := [.int p1, .int p2]) (q0 := 0) (ci := 10) (qq := (RX10, TX10, 64)) (c_X10_looker h) wM_fst rfl rfl mk_7_177 mk_7_178 mk_1_11 mk_7_179 (by decide +kernel) rfl ⟨rfl, rfl⟩ cx hV w1 hR hcs hls rfl hcat d kk
def x_X10_missed (p1 : Int32) (σ : St) : Option (Int32 × St) :=
  bd (some (sI σ 0 0)) fun σ1 =>
  bd (x_X10_within p1 1 8) fun v2 =>
  bd2 (x_X10_may v2 1 2 σ1) fun v3 σ4 =>
  (if v3 = 0 then
  some (0, σ4)
  else
  bd (ldI (gA σ4 5) (lenM 5) p1) fun v5 =>
  some (v5, σ4))
abbrev rm_X10_missed : Room := { frames := 1, cells := 0, slots := 0, locals := 23 }
set_option maxHeartbeats 4000000 in
set_option maxRecDepth 100000 in
theorem c_X10_missed {l : Launch} {E : EV} {X : va_W} {σ : St} {p1 : Int32} {rv : Int32} {σf : St} (h : x_X10_missed p1 σ = some (rv, σf)) : CM l yX10_missed cX10_missed 2 (some .int) rm_X10_missed [.ref (eA E 0), .int p1] E (wM E σ ++ X) (wM E σf ++ X) (qI rv) := by
  refine CM.start (by decide) (Nat.le_of_ble_eq_true rfl) (fun p e s m a below meth c A ls cx hr hlk hV hl => ?_)
  have cx : CallFix p m c cX10_missed 2 s a TBL RX10 := cx
  have hx := cx.1
  have hb := cx.2.1
  have hl : lv_has ls 2 [(0, .ref (eA E 0)), (1, .int p1)] := hl
  generalize hQ : EQ E (wM E σf ++ X) (qI rv) A s a below = QQ
  obtain ⟨H, hH⟩ : ∃ H, H = s.heap := ⟨_, rfl⟩
  obtain ⟨locs, hlocs⟩ : ∃ z, z = ([] : List Loc) := ⟨_, rfl⟩
  have hV : AtW E (wM E σ ++ X) A s H locs := by rw [hH, hlocs]; exact hV
  have goal : W p l e rm_X10_missed s m a below meth c H locs 0 0 QQ (F0 m 0 ls []) := by
    unfold x_X10_missed at h
    refine lv_aload_n hx hb dX10_missed_0 rfl (lv_at hl 0 rfl) ?_
    refine lv_iconst (v := 0) hx hb dX10_missed_1 (by decide) ?_
    refine bd_e h (fun σ1 hq h => ?_)
    refine P_X10_thrown cx hV hq mk_6_97 dX10_missed_2 (fun H locs hV => ?_)
    refine lv_aload_n hx hb dX10_missed_5 rfl (lv_at hl 0 rfl) ?_
    refine lv_iload_n hx hb dX10_missed_6 rfl (lv_at hl 1 rfl) ?_
    refine lv_iconst (v := 1) hx hb dX10_missed_7 (by decide) ?_
    refine lv_bipush (v := 8) hx hb dX10_missed_8 (by decide) ?_
    refine bd_e h (fun v2 hq h => ?_)
    refine k_X10_within hq cx hV mk_7_141 ⟨Nat.le_of_ble_eq_true rfl, Nat.le_of_ble_eq_true rfl⟩ ⟨Nat.zero_le _, Nat.zero_le _⟩ hl.1 (Nat.le_of_ble_eq_true rfl) dX10_missed_10 (fun H locs hV => ?_)
    refine lv_iconst (v := 1) hx hb dX10_missed_13 (by decide) ?_
    refine lv_iconst (v := 2) hx hb dX10_missed_14 (by decide) ?_
    refine bd2_e h (fun v3 σ4 hq h => ?_)
    refine k_X10_may hq cx hV mk_7_62 ⟨Nat.le_of_ble_eq_true rfl, Nat.le_of_ble_eq_true rfl⟩ ⟨Nat.zero_le _, Nat.zero_le _⟩ hl.1 (Nat.le_of_ble_eq_true rfl) dX10_missed_15 (fun H locs hV => ?_)
    refine lv_if_ne (tgt := 23) hx hb dX10_missed_18 (by decide) (fun hc => ?_) (fun hc => ?_)
    · have h := ifn hc h
      refine lv_aload_n hx hb dX10_missed_23 rfl (lv_at hl 0 rfl) ?_
      refine G_X10_missed cx hV mk_6_110 dX10_missed_24 ?_
      refine lv_iload_n hx hb dX10_missed_27 rfl (lv_at hl 1 rfl) ?_
      refine bd_e h (fun v5 hq h => ?_)
      refine R_M_iald cx hV (by decide) hq dX10_missed_28 ?_
      obtain ⟨h1, h2⟩ := Prod.mk.inj (Option.some.inj h)
      subst h1
      subst h2
      subst hQ
      exact r_ireti cx hr hlk hV dX10_missed_29
    · have h := ifp hc h
      refine lv_iconst (v := 0) hx hb dX10_missed_21 (by decide) ?_
      obtain ⟨h1, h2⟩ := Prod.mk.inj (Option.some.inj h)
      subst h1
      subst h2
      subst hQ
      exact r_ireti cx hr hlk hV dX10_missed_22
  rw [hH, hlocs] at goal
  exact goal
theorem k_X10_missed {p : Program} {l : Launch} {e : Env} {R : Room} {s : State} {m : MethodId} {a : Array Value} {below : List Frame} {meth : Method} {c : Code} {H : Heap} {locs : List Loc} {cells slots : Nat} {Q : State → Prop} {cc : ByteArray} {own : String} {nL pc : Nat} {ls : Array Slot} {rest : List Value} {A : Nat → Prop} {E : EV} {X : va_W} {σ : St} {p1 : Int32} {rv : Int32} {σf : St} (h : x_X10_missed p1 σ = some (rv, σf)) (cx : CallFix p m c cc nL s a TBL own) (hV : AtW E (wM E σ ++ X) A s H locs) {idx : Nat} (w1 : Cond.methodLink own idx yX10_missed ∈ TBL) (hR : (rm_X10_missed).frames + 1 ≤ R.frames ∧ 8 + (2 + 11) + (rm_X10_missed).locals ≤ R.locals) (hcs : cells ≤ R.cells ∧ slots ≤ R.slots) (hls : ls.size = nL) (hcat : (rest.map fun v => v.category).sum ≤ 8) (d : decode cc pc = .ok (.invokevirtual idx, 3)) (kk : ∀ (H1 : Heap) (locs1 : List Loc), AtW E (wM E σf ++ X) A s H1 locs1 → W p l e R s m a below meth c H1 locs1 cells slots Q (F0 m (pc + 3) ls (.int rv :: rest))) : W p l e R s m a below meth c H locs cells slots Q (F0 m pc ls (.int p1 :: .ref (eA E 0) :: rest)) :=
  r_calli (n := 1) (As := [.int p1]) (q0 := 0) (ci := 10) (qq := (RX10, TX10, 64)) (c_X10_missed h) wM_fst rfl rfl mk_7_185 mk_7_186 mk_1_11 mk_7_187 (by decide +kernel) rfl ⟨rfl, rfl⟩ cx hV w1 hR hcs hls rfl hcat d kk
def x_X10_lay_b39 (w1 : Int32) (w2 : Int32) (w3 : Int32) (σ4 : St) : Option (Int32 × St) :=
  bd2 (x_X10_may w3 3 3 σ4) fun v5 σ6 =>
  (if v5 = 0 then
  some (0, σ6)
  else
  bd (ldI (gA σ6 7) (lenM 7) w1) fun v7 =>
  bd (x_X10_goesOut w1 σ6) fun σ8 =>
  bd (x_X10_comesTo w2 w1 σ8) fun σ9 =>
  some (v7, σ9))
def x_X10_lay (p1 : Int32) (p2 : Int32) (σ : St) : Option (Int32 × St) :=
  bd (some (sI σ 0 0)) fun σ10 =>
  bd2 (x_X10_isCrate p2 1 σ10) fun v11 σ12 =>
  (if v11 = 0 then
  some (0, σ12)
  else
  bd2 (x_X10_isSleeve p1 2 σ12) fun v13 σ14 =>
  (if v13 = 0 then
  some (0, σ14)
  else
  bd (ldI (gA σ14 7) (lenM 7) p1) fun v15 =>
  (if v15 = (-1) then
  x_X10_lay_b39 p1 p2 0 σ14
  else
  x_X10_lay_b39 p1 p2 1 σ14)))
abbrev rm_X10_lay : Room := { frames := 2, cells := 0, slots := 0, locals := 45 }
set_option maxHeartbeats 4000000 in
set_option maxRecDepth 100000 in
theorem c_X10_lay {l : Launch} {E : EV} {X : va_W} {σ : St} {p1 : Int32} {p2 : Int32} {rv : Int32} {σf : St} (h : x_X10_lay p1 p2 σ = some (rv, σf)) : CM l yX10_lay cX10_lay 4 (some .int) rm_X10_lay [.ref (eA E 0), .int p1, .int p2] E (wM E σ ++ X) (wM E σf ++ X) (qI rv) := by
  refine CM.start (by decide) (Nat.le_of_ble_eq_true rfl) (fun p e s m a below meth c A ls cx hr hlk hV hl => ?_)
  have cx : CallFix p m c cX10_lay 4 s a TBL RX10 := cx
  have hx := cx.1
  have hb := cx.2.1
  have hl : lv_has ls 4 [(0, .ref (eA E 0)), (1, .int p1), (2, .int p2)] := hl
  generalize hQ : EQ E (wM E σf ++ X) (qI rv) A s a below = QQ
  obtain ⟨H, hH⟩ : ∃ H, H = s.heap := ⟨_, rfl⟩
  obtain ⟨locs, hlocs⟩ : ∃ z, z = ([] : List Loc) := ⟨_, rfl⟩
  have hV : AtW E (wM E σ ++ X) A s H locs := by rw [hH, hlocs]; exact hV
  have goal : W p l e rm_X10_lay s m a below meth c H locs 0 0 QQ (F0 m 0 ls []) := by
    unfold x_X10_lay at h
    have hj39 : ∀ (w1 : Int32) (w2 : Int32) (w3 : Int32) (σ4 : St) (H : Heap) (locs : List Loc) (ls : Array Slot), x_X10_lay_b39 w1 w2 w3 σ4 = some (rv, σf) → AtW E (wM E σ4 ++ X) A s H locs → lv_has ls 4 [(0, .ref (eA E 0)), (1, .int w1), (2, .int w2)] → W p l e rm_X10_lay s m a below meth c H locs 0 0 QQ (F0 m 39 ls [.int w3, .ref (eA E 0)]) := by
      intro w1 w2 w3 σ4 H locs ls h hV hl
      unfold x_X10_lay_b39 at h
      refine lv_iconst (v := 3) hx hb dX10_lay_39 (by decide) ?_
      refine lv_iconst (v := 3) hx hb dX10_lay_40 (by decide) ?_
      refine bd2_e h (fun v5 σ6 hq h => ?_)
      refine k_X10_may hq cx hV mk_7_62 ⟨Nat.le_of_ble_eq_true rfl, Nat.le_of_ble_eq_true rfl⟩ ⟨Nat.zero_le _, Nat.zero_le _⟩ hl.1 (Nat.le_of_ble_eq_true rfl) dX10_lay_41 (fun H locs hV => ?_)
      refine lv_if_ne (tgt := 49) hx hb dX10_lay_44 (by decide) (fun hc => ?_) (fun hc => ?_)
      · have h := ifn hc h
        refine lv_aload_n hx hb dX10_lay_49 rfl (lv_at hl 0 rfl) ?_
        refine G_X10_liesAt cx hV mk_6_112 dX10_lay_50 ?_
        refine lv_iload_n hx hb dX10_lay_53 rfl (lv_at hl 1 rfl) ?_
        refine bd_e h (fun v7 hq h => ?_)
        refine R_M_iald cx hV (by decide) hq dX10_lay_54 ?_
        refine lv_istore_n (lv' := [(3, .int v7), (0, .ref (eA E 0)), (1, .int w1), (2, .int w2)]) hx hb dX10_lay_55 rfl hl (by decide) rfl (fun ls hl => ?_)
        refine lv_aload_n hx hb dX10_lay_56 rfl (lv_at hl 1 rfl) ?_
        refine lv_iload_n hx hb dX10_lay_57 rfl (lv_at hl 2 rfl) ?_
        refine bd_e h (fun σ8 hq h => ?_)
        refine k_X10_goesOut hq cx hV mk_7_192 ⟨Nat.le_of_ble_eq_true rfl, Nat.le_of_ble_eq_true rfl⟩ ⟨Nat.zero_le _, Nat.zero_le _⟩ hl.1 (Nat.le_of_ble_eq_true rfl) dX10_lay_58 (fun H locs hV => ?_)
        refine lv_aload_n hx hb dX10_lay_61 rfl (lv_at hl 1 rfl) ?_
        refine lv_iload_n hx hb dX10_lay_62 rfl (lv_at hl 3 rfl) ?_
        refine lv_iload_n hx hb dX10_lay_63 rfl (lv_at hl 2 rfl) ?_
        refine bd_e h (fun σ9 hq h => ?_)
        refine k_X10_comesTo hq cx hV mk_6_93 ⟨Nat.le_of_ble_eq_true rfl, Nat.le_of_ble_eq_true rfl⟩ ⟨Nat.zero_le _, Nat.zero_le _⟩ hl.1 (Nat.le_of_ble_eq_true rfl) dX10_lay_64 (fun H locs hV => ?_)
        refine lv_iload_n hx hb dX10_lay_67 rfl (lv_at hl 0 rfl) ?_
        obtain ⟨h1, h2⟩ := Prod.mk.inj (Option.some.inj h)
        subst h1
        subst h2
        subst hQ
        exact r_ireti cx hr hlk hV dX10_lay_68
      · have h := ifp hc h
        refine lv_iconst (v := 0) hx hb dX10_lay_47 (by decide) ?_
        obtain ⟨h1, h2⟩ := Prod.mk.inj (Option.some.inj h)
        subst h1
        subst h2
        subst hQ
        exact r_ireti cx hr hlk hV dX10_lay_48
    refine lv_aload_n hx hb dX10_lay_0 rfl (lv_at hl 0 rfl) ?_
    refine lv_iconst (v := 0) hx hb dX10_lay_1 (by decide) ?_
    refine bd_e h (fun σ10 hq h => ?_)
    refine P_X10_thrown cx hV hq mk_6_97 dX10_lay_2 (fun H locs hV => ?_)
    refine lv_aload_n hx hb dX10_lay_5 rfl (lv_at hl 0 rfl) ?_
    refine lv_iload_n hx hb dX10_lay_6 rfl (lv_at hl 2 rfl) ?_
    refine lv_iconst (v := 1) hx hb dX10_lay_7 (by decide) ?_
    refine bd2_e h (fun v11 σ12 hq h => ?_)
    refine k_X10_isCrate hq cx hV mk_7_148 ⟨Nat.le_of_ble_eq_true rfl, Nat.le_of_ble_eq_true rfl⟩ ⟨Nat.zero_le _, Nat.zero_le _⟩ hl.1 (Nat.le_of_ble_eq_true rfl) dX10_lay_8 (fun H locs hV => ?_)
    refine lv_if_eq (tgt := 47) hx hb dX10_lay_11 (by decide) (fun hc => ?_) (fun hc => ?_)
    · have h := ifp hc h
      refine lv_iconst (v := 0) hx hb dX10_lay_47 (by decide) ?_
      obtain ⟨h1, h2⟩ := Prod.mk.inj (Option.some.inj h)
      subst h1
      subst h2
      subst hQ
      exact r_ireti cx hr hlk hV dX10_lay_48
    · have h := ifn hc h
      refine lv_aload_n hx hb dX10_lay_14 rfl (lv_at hl 0 rfl) ?_
      refine lv_iload_n hx hb dX10_lay_15 rfl (lv_at hl 1 rfl) ?_
      refine lv_iconst (v := 2) hx hb dX10_lay_16 (by decide) ?_
      refine bd2_e h (fun v13 σ14 hq h => ?_)
      refine k_X10_isSleeve hq cx hV mk_7_160 ⟨Nat.le_of_ble_eq_true rfl, Nat.le_of_ble_eq_true rfl⟩ ⟨Nat.zero_le _, Nat.zero_le _⟩ hl.1 (Nat.le_of_ble_eq_true rfl) dX10_lay_17 (fun H locs hV => ?_)
      refine lv_if_eq (tgt := 47) hx hb dX10_lay_20 (by decide) (fun hc => ?_) (fun hc => ?_)
      · have h := ifp hc h
        refine lv_iconst (v := 0) hx hb dX10_lay_47 (by decide) ?_
        obtain ⟨h1, h2⟩ := Prod.mk.inj (Option.some.inj h)
        subst h1
        subst h2
        subst hQ
        exact r_ireti cx hr hlk hV dX10_lay_48
      · have h := ifn hc h
        refine lv_aload_n hx hb dX10_lay_23 rfl (lv_at hl 0 rfl) ?_
        refine lv_aload_n hx hb dX10_lay_24 rfl (lv_at hl 0 rfl) ?_
        refine G_X10_liesAt cx hV mk_6_112 dX10_lay_25 ?_
        refine lv_iload_n hx hb dX10_lay_28 rfl (lv_at hl 1 rfl) ?_
        refine bd_e h (fun v15 hq h => ?_)
        refine R_M_iald cx hV (by decide) hq dX10_lay_29 ?_
        refine lv_iconst (v := (-1)) hx hb dX10_lay_30 (by decide) ?_
        refine lv_icmp_eq (tgt := 38) hx hb dX10_lay_31 (by decide) (fun hc => ?_) (fun hc => ?_)
        · have h := ifp hc h
          refine lv_iconst (v := 0) hx hb dX10_lay_38 (by decide) ?_
          exact hj39 p1 p2 0 σ14 _ _ _ h hV (lv_sub hl [0, 1, 2] rfl)
        · have h := ifn hc h
          refine lv_iconst (v := 1) hx hb dX10_lay_34 (by decide) ?_
          refine lv_goto (tgt := 39) hx hb dX10_lay_35 (by decide) ?_
          exact hj39 p1 p2 1 σ14 _ _ _ h hV (lv_sub hl [0, 1, 2] rfl)
  rw [hH, hlocs] at goal
  exact goal
theorem k_X10_lay {p : Program} {l : Launch} {e : Env} {R : Room} {s : State} {m : MethodId} {a : Array Value} {below : List Frame} {meth : Method} {c : Code} {H : Heap} {locs : List Loc} {cells slots : Nat} {Q : State → Prop} {cc : ByteArray} {own : String} {nL pc : Nat} {ls : Array Slot} {rest : List Value} {A : Nat → Prop} {E : EV} {X : va_W} {σ : St} {p1 : Int32} {p2 : Int32} {rv : Int32} {σf : St} (h : x_X10_lay p1 p2 σ = some (rv, σf)) (cx : CallFix p m c cc nL s a TBL own) (hV : AtW E (wM E σ ++ X) A s H locs) {idx : Nat} (w1 : Cond.methodLink own idx yX10_lay ∈ TBL) (hR : (rm_X10_lay).frames + 1 ≤ R.frames ∧ 8 + (4 + 11) + (rm_X10_lay).locals ≤ R.locals) (hcs : cells ≤ R.cells ∧ slots ≤ R.slots) (hls : ls.size = nL) (hcat : (rest.map fun v => v.category).sum ≤ 8) (d : decode cc pc = .ok (.invokevirtual idx, 3)) (kk : ∀ (H1 : Heap) (locs1 : List Loc), AtW E (wM E σf ++ X) A s H1 locs1 → W p l e R s m a below meth c H1 locs1 cells slots Q (F0 m (pc + 3) ls (.int rv :: rest))) : W p l e R s m a below meth c H locs cells slots Q (F0 m pc ls (.int p2 :: .int p1 :: .ref (eA E 0) :: rest)) :=
  r_calli (n := 2) (As := [.int p1, .int p2]) (q0 := 0) (ci := 10) (qq := (RX10, TX10, 64)) (c_X10_lay h) wM_fst rfl rfl mk_7_189 mk_7_190 mk_1_11 mk_7_191 (by decide +kernel) rfl ⟨rfl, rfl⟩ cx hV w1 hR hcs hls rfl hcat d kk
def x_X10_swaps (p1 : Int32) (p2 : Int32) (σ : St) : Option St :=
  bd (ldI (gA σ 8) (lenM 8) p1) fun v1 =>
  bd (ldI (gA σ 8) (lenM 8) p2) fun v2 =>
  bd (stI σ 8 (lenM 8) p1 v2) fun σ3 =>
  bd (stI σ3 8 (lenM 8) p2 v1) fun σ4 =>
  some σ4
abbrev rm_X10_swaps : Room := { frames := 0, cells := 0, slots := 0, locals := 0 }
set_option maxHeartbeats 4000000 in
set_option maxRecDepth 100000 in
theorem c_X10_swaps {l : Launch} {E : EV} {X : va_W} {σ : St} {p1 : Int32} {p2 : Int32} {σf : St} (h : x_X10_swaps p1 p2 σ = some σf) : CM l yX10_swaps cX10_swaps 4 none rm_X10_swaps [.ref (eA E 0), .int p1, .int p2] E (wM E σ ++ X) (wM E σf ++ X) qV := by
  refine CM.start (by decide) (Nat.le_of_ble_eq_true rfl) (fun p e s m a below meth c A ls cx hr hlk hV hl => ?_)
  have cx : CallFix p m c cX10_swaps 4 s a TBL RX10 := cx
  have hx := cx.1
  have hb := cx.2.1
  have hl : lv_has ls 4 [(0, .ref (eA E 0)), (1, .int p1), (2, .int p2)] := hl
  generalize hQ : EQ E (wM E σf ++ X) qV A s a below = QQ
  obtain ⟨H, hH⟩ : ∃ H, H = s.heap := ⟨_, rfl⟩
  obtain ⟨locs, hlocs⟩ : ∃ z, z = ([] : List Loc) := ⟨_, rfl⟩
  have hV : AtW E (wM E σ ++ X) A s H locs := by rw [hH, hlocs]; exact hV
  have goal : W p l e rm_X10_swaps s m a below meth c H locs 0 0 QQ (F0 m 0 ls []) := by
    unfold x_X10_swaps at h
    refine lv_aload_n hx hb dX10_swaps_0 rfl (lv_at hl 0 rfl) ?_
    refine G_X10_discAt cx hV mk_6_113 dX10_swaps_1 ?_
    refine lv_iload_n hx hb dX10_swaps_4 rfl (lv_at hl 1 rfl) ?_
    refine bd_e h (fun v1 hq h => ?_)
    refine R_M_iald cx hV (by decide) hq dX10_swaps_5 ?_
    refine lv_istore_n (lv' := [(3, .int v1), (0, .ref (eA E 0)), (1, .int p1), (2, .int p2)]) hx hb dX10_swaps_6 rfl hl (by decide) rfl (fun ls hl => ?_)
    refine lv_aload_n hx hb dX10_swaps_7 rfl (lv_at hl 1 rfl) ?_
    refine G_X10_discAt cx hV mk_6_113 dX10_swaps_8 ?_
    refine lv_iload_n hx hb dX10_swaps_11 rfl (lv_at hl 2 rfl) ?_
    refine lv_aload_n hx hb dX10_swaps_12 rfl (lv_at hl 1 rfl) ?_
    refine G_X10_discAt cx hV mk_6_113 dX10_swaps_13 ?_
    refine lv_iload_n hx hb dX10_swaps_16 rfl (lv_at hl 3 rfl) ?_
    refine bd_e h (fun v2 hq h => ?_)
    refine R_M_iald cx hV (by decide) hq dX10_swaps_17 ?_
    refine bd_e h (fun σ3 hq h => ?_)
    refine R_M_iast cx hV (by decide) hq dX10_swaps_18 (fun H locs hV => ?_)
    refine lv_aload_n hx hb dX10_swaps_19 rfl (lv_at hl 1 rfl) ?_
    refine G_X10_discAt cx hV mk_6_113 dX10_swaps_20 ?_
    refine lv_iload_n hx hb dX10_swaps_23 rfl (lv_at hl 3 rfl) ?_
    refine lv_iload_n hx hb dX10_swaps_24 rfl (lv_at hl 0 rfl) ?_
    refine bd_e h (fun σ4 hq h => ?_)
    refine R_M_iast cx hV (by decide) hq dX10_swaps_25 (fun H locs hV => ?_)
    have h1 := Option.some.inj h
    subst h1
    subst hQ
    exact r_vret cx hr hlk hV dX10_swaps_26
  rw [hH, hlocs] at goal
  exact goal
theorem k_X10_swaps {p : Program} {l : Launch} {e : Env} {R : Room} {s : State} {m : MethodId} {a : Array Value} {below : List Frame} {meth : Method} {c : Code} {H : Heap} {locs : List Loc} {cells slots : Nat} {Q : State → Prop} {cc : ByteArray} {own : String} {nL pc : Nat} {ls : Array Slot} {rest : List Value} {A : Nat → Prop} {E : EV} {X : va_W} {σ : St} {p1 : Int32} {p2 : Int32} {σf : St} (h : x_X10_swaps p1 p2 σ = some σf) (cx : CallFix p m c cc nL s a TBL own) (hV : AtW E (wM E σ ++ X) A s H locs) {idx : Nat} (w1 : Cond.methodLink own idx yX10_swaps ∈ TBL) (hR : (rm_X10_swaps).frames + 1 ≤ R.frames ∧ 8 + (4 + 11) + (rm_X10_swaps).locals ≤ R.locals) (hcs : cells ≤ R.cells ∧ slots ≤ R.slots) (hls : ls.size = nL) (hcat : (rest.map fun v => v.category).sum ≤ 8) (d : decode cc pc = .ok (.invokevirtual idx, 3)) (kk : ∀ (H1 : Heap) (locs1 : List Loc), AtW E (wM E σf ++ X) A s H1 locs1 → W p l e R s m a below meth c H1 locs1 cells slots Q (F0 m (pc + 3) ls (rest))) : W p l e R s m a below meth c H locs cells slots Q (F0 m pc ls (.int p2 :: .int p1 :: .ref (eA E 0) :: rest)) :=
  r_callv (n := 2) (As := [.int p1, .int p2]) (q0 := 0) (ci := 10) (qq := (RX10, TX10, 64)) (c_X10_swaps h) wM_fst rfl rfl mk_7_202 mk_P_82 mk_1_11 mk_7_203 (by decide +kernel) rfl ⟨rfl, rfl⟩ cx hV w1 hR hcs hls rfl hcat d kk
def x_X10_change_b34 (w1 : Int32) (w2 : Int32) (w3 : Int32) (σ4 : St) : Option (Int32 × St) :=
  bd2 (x_X10_may w3 2 2 σ4) fun v5 σ6 =>
  (if v5 = 0 then
  some (0, σ6)
  else
  bd (x_X10_swaps w1 w2 σ6) fun σ7 =>
  bd (ldI (gA σ7 8) (lenM 8) w1) fun v8 =>
  some (v8, σ7))
def x_X10_change (p1 : Int32) (p2 : Int32) (σ : St) : Option (Int32 × St) :=
  bd (some (sI σ 0 0)) fun σ9 =>
  bd2 (x_X10_isSleeve p1 1 σ9) fun v10 σ11 =>
  (if v10 = 0 then
  some (0, σ11)
  else
  bd2 (x_X10_isSleeve p2 1 σ11) fun v12 σ13 =>
  (if v12 = 0 then
  some (0, σ13)
  else
  (if p1 = p2 then
  x_X10_change_b34 p1 p2 0 σ13
  else
  x_X10_change_b34 p1 p2 1 σ13)))
abbrev rm_X10_change : Room := { frames := 2, cells := 0, slots := 0, locals := 45 }
set_option maxHeartbeats 4000000 in
set_option maxRecDepth 100000 in
theorem c_X10_change {l : Launch} {E : EV} {X : va_W} {σ : St} {p1 : Int32} {p2 : Int32} {rv : Int32} {σf : St} (h : x_X10_change p1 p2 σ = some (rv, σf)) : CM l yX10_change cX10_change 3 (some .int) rm_X10_change [.ref (eA E 0), .int p1, .int p2] E (wM E σ ++ X) (wM E σf ++ X) (qI rv) := by
  refine CM.start (by decide) (Nat.le_of_ble_eq_true rfl) (fun p e s m a below meth c A ls cx hr hlk hV hl => ?_)
  have cx : CallFix p m c cX10_change 3 s a TBL RX10 := cx
  have hx := cx.1
  have hb := cx.2.1
  have hl : lv_has ls 3 [(0, .ref (eA E 0)), (1, .int p1), (2, .int p2)] := hl
  generalize hQ : EQ E (wM E σf ++ X) (qI rv) A s a below = QQ
  obtain ⟨H, hH⟩ : ∃ H, H = s.heap := ⟨_, rfl⟩
  obtain ⟨locs, hlocs⟩ : ∃ z, z = ([] : List Loc) := ⟨_, rfl⟩
  have hV : AtW E (wM E σ ++ X) A s H locs := by rw [hH, hlocs]; exact hV
  have goal : W p l e rm_X10_change s m a below meth c H locs 0 0 QQ (F0 m 0 ls []) := by
    unfold x_X10_change at h
    have hj34 : ∀ (w1 : Int32) (w2 : Int32) (w3 : Int32) (σ4 : St) (H : Heap) (locs : List Loc) (ls : Array Slot), x_X10_change_b34 w1 w2 w3 σ4 = some (rv, σf) → AtW E (wM E σ4 ++ X) A s H locs → lv_has ls 3 [(0, .ref (eA E 0)), (1, .int w1), (2, .int w2)] → W p l e rm_X10_change s m a below meth c H locs 0 0 QQ (F0 m 34 ls [.int w3, .ref (eA E 0)]) := by
      intro w1 w2 w3 σ4 H locs ls h hV hl
      unfold x_X10_change_b34 at h
      refine lv_iconst (v := 2) hx hb dX10_change_34 (by decide) ?_
      refine lv_iconst (v := 2) hx hb dX10_change_35 (by decide) ?_
      refine bd2_e h (fun v5 σ6 hq h => ?_)
      refine k_X10_may hq cx hV mk_7_62 ⟨Nat.le_of_ble_eq_true rfl, Nat.le_of_ble_eq_true rfl⟩ ⟨Nat.zero_le _, Nat.zero_le _⟩ hl.1 (Nat.le_of_ble_eq_true rfl) dX10_change_36 (fun H locs hV => ?_)
      refine lv_if_ne (tgt := 44) hx hb dX10_change_39 (by decide) (fun hc => ?_) (fun hc => ?_)
      · have h := ifn hc h
        refine lv_aload_n hx hb dX10_change_44 rfl (lv_at hl 0 rfl) ?_
        refine lv_iload_n hx hb dX10_change_45 rfl (lv_at hl 1 rfl) ?_
        refine lv_iload_n hx hb dX10_change_46 rfl (lv_at hl 2 rfl) ?_
        refine bd_e h (fun σ7 hq h => ?_)
        refine k_X10_swaps hq cx hV mk_7_200 ⟨Nat.le_of_ble_eq_true rfl, Nat.le_of_ble_eq_true rfl⟩ ⟨Nat.zero_le _, Nat.zero_le _⟩ hl.1 (Nat.le_of_ble_eq_true rfl) dX10_change_47 (fun H locs hV => ?_)
        refine lv_aload_n hx hb dX10_change_50 rfl (lv_at hl 0 rfl) ?_
        refine G_X10_discAt cx hV mk_6_113 dX10_change_51 ?_
        refine lv_iload_n hx hb dX10_change_54 rfl (lv_at hl 1 rfl) ?_
        refine bd_e h (fun v8 hq h => ?_)
        refine R_M_iald cx hV (by decide) hq dX10_change_55 ?_
        obtain ⟨h1, h2⟩ := Prod.mk.inj (Option.some.inj h)
        subst h1
        subst h2
        subst hQ
        exact r_ireti cx hr hlk hV dX10_change_56
      · have h := ifp hc h
        refine lv_iconst (v := 0) hx hb dX10_change_42 (by decide) ?_
        obtain ⟨h1, h2⟩ := Prod.mk.inj (Option.some.inj h)
        subst h1
        subst h2
        subst hQ
        exact r_ireti cx hr hlk hV dX10_change_43
    refine lv_aload_n hx hb dX10_change_0 rfl (lv_at hl 0 rfl) ?_
    refine lv_iconst (v := 0) hx hb dX10_change_1 (by decide) ?_
    refine bd_e h (fun σ9 hq h => ?_)
    refine P_X10_thrown cx hV hq mk_6_97 dX10_change_2 (fun H locs hV => ?_)
    refine lv_aload_n hx hb dX10_change_5 rfl (lv_at hl 0 rfl) ?_
    refine lv_iload_n hx hb dX10_change_6 rfl (lv_at hl 1 rfl) ?_
    refine lv_iconst (v := 1) hx hb dX10_change_7 (by decide) ?_
    refine bd2_e h (fun v10 σ11 hq h => ?_)
    refine k_X10_isSleeve hq cx hV mk_7_160 ⟨Nat.le_of_ble_eq_true rfl, Nat.le_of_ble_eq_true rfl⟩ ⟨Nat.zero_le _, Nat.zero_le _⟩ hl.1 (Nat.le_of_ble_eq_true rfl) dX10_change_8 (fun H locs hV => ?_)
    refine lv_if_eq (tgt := 42) hx hb dX10_change_11 (by decide) (fun hc => ?_) (fun hc => ?_)
    · have h := ifp hc h
      refine lv_iconst (v := 0) hx hb dX10_change_42 (by decide) ?_
      obtain ⟨h1, h2⟩ := Prod.mk.inj (Option.some.inj h)
      subst h1
      subst h2
      subst hQ
      exact r_ireti cx hr hlk hV dX10_change_43
    · have h := ifn hc h
      refine lv_aload_n hx hb dX10_change_14 rfl (lv_at hl 0 rfl) ?_
      refine lv_iload_n hx hb dX10_change_15 rfl (lv_at hl 2 rfl) ?_
      refine lv_iconst (v := 1) hx hb dX10_change_16 (by decide) ?_
      refine bd2_e h (fun v12 σ13 hq h => ?_)
      refine k_X10_isSleeve hq cx hV mk_7_160 ⟨Nat.le_of_ble_eq_true rfl, Nat.le_of_ble_eq_true rfl⟩ ⟨Nat.zero_le _, Nat.zero_le _⟩ hl.1 (Nat.le_of_ble_eq_true rfl) dX10_change_17 (fun H locs hV => ?_)
      refine lv_if_eq (tgt := 42) hx hb dX10_change_20 (by decide) (fun hc => ?_) (fun hc => ?_)
      · have h := ifp hc h
        refine lv_iconst (v := 0) hx hb dX10_change_42 (by decide) ?_
        obtain ⟨h1, h2⟩ := Prod.mk.inj (Option.some.inj h)
        subst h1
        subst h2
        subst hQ
        exact r_ireti cx hr hlk hV dX10_change_43
      · have h := ifn hc h
        refine lv_aload_n hx hb dX10_change_23 rfl (lv_at hl 0 rfl) ?_
        refine lv_iload_n hx hb dX10_change_24 rfl (lv_at hl 1 rfl) ?_
        refine lv_iload_n hx hb dX10_change_25 rfl (lv_at hl 2 rfl) ?_
        refine lv_icmp_eq (tgt := 33) hx hb dX10_change_26 (by decide) (fun hc => ?_) (fun hc => ?_)
        · have h := ifp hc h
          refine lv_iconst (v := 0) hx hb dX10_change_33 (by decide) ?_
          exact hj34 p1 p2 0 σ13 _ _ _ h hV (lv_sub hl [0, 1, 2] rfl)
        · have h := ifn hc h
          refine lv_iconst (v := 1) hx hb dX10_change_29 (by decide) ?_
          refine lv_goto (tgt := 34) hx hb dX10_change_30 (by decide) ?_
          exact hj34 p1 p2 1 σ13 _ _ _ h hV (lv_sub hl [0, 1, 2] rfl)
  rw [hH, hlocs] at goal
  exact goal
theorem k_X10_change {p : Program} {l : Launch} {e : Env} {R : Room} {s : State} {m : MethodId} {a : Array Value} {below : List Frame} {meth : Method} {c : Code} {H : Heap} {locs : List Loc} {cells slots : Nat} {Q : State → Prop} {cc : ByteArray} {own : String} {nL pc : Nat} {ls : Array Slot} {rest : List Value} {A : Nat → Prop} {E : EV} {X : va_W} {σ : St} {p1 : Int32} {p2 : Int32} {rv : Int32} {σf : St} (h : x_X10_change p1 p2 σ = some (rv, σf)) (cx : CallFix p m c cc nL s a TBL own) (hV : AtW E (wM E σ ++ X) A s H locs) {idx : Nat} (w1 : Cond.methodLink own idx yX10_change ∈ TBL) (hR : (rm_X10_change).frames + 1 ≤ R.frames ∧ 8 + (3 + 11) + (rm_X10_change).locals ≤ R.locals) (hcs : cells ≤ R.cells ∧ slots ≤ R.slots) (hls : ls.size = nL) (hcat : (rest.map fun v => v.category).sum ≤ 8) (d : decode cc pc = .ok (.invokevirtual idx, 3)) (kk : ∀ (H1 : Heap) (locs1 : List Loc), AtW E (wM E σf ++ X) A s H1 locs1 → W p l e R s m a below meth c H1 locs1 cells slots Q (F0 m (pc + 3) ls (.int rv :: rest))) : W p l e R s m a below meth c H locs cells slots Q (F0 m pc ls (.int p2 :: .int p1 :: .ref (eA E 0) :: rest)) :=
  r_calli (n := 2) (As := [.int p1, .int p2]) (q0 := 0) (ci := 10) (qq := (RX10, TX10, 64)) (c_X10_change h) wM_fst rfl rfl mk_7_197 mk_7_198 mk_1_11 mk_7_199 (by decide +kernel) rfl ⟨rfl, rfl⟩ cx hV w1 hR hcs hls rfl hcat d kk
def x_X10_standsAt_L2 (p1 : Int32) (σ : St) (u1 : Int32) : Option (Bool × Int32) :=
  bd (ldI (gA σ 18) (lenM 18) u1) fun v2 =>
  (if v2 = p1 then
  some (false, u1)
  else
  some (true, (u1 + 1)))
def x_X10_standsAt (p1 : Int32) (σ : St) : Option Int32 :=
  bd (lp (fun v : Int32 => x_X10_standsAt_L2 p1 σ v) FU 0) fun z3 =>
  some z3
abbrev rm_X10_standsAt : Room := { frames := 0, cells := 0, slots := 0, locals := 0 }
set_option maxHeartbeats 4000000 in
set_option maxRecDepth 100000 in
theorem c_X10_standsAt {l : Launch} {E : EV} {X : va_W} {σ : St} {p1 : Int32} {rv : Int32} (h : x_X10_standsAt p1 σ = some rv) : CM l yX10_standsAt cX10_standsAt 3 (some .int) rm_X10_standsAt [.ref (eA E 0), .int p1] E (wM E σ ++ X) (wM E σ ++ X) (qI rv) := by
  refine CM.start (by decide) (Nat.le_of_ble_eq_true rfl) (fun p e s m a below meth c A ls cx hr hlk hV hl => ?_)
  have cx : CallFix p m c cX10_standsAt 3 s a TBL RX10 := cx
  have hx := cx.1
  have hb := cx.2.1
  have hl : lv_has ls 3 [(0, .ref (eA E 0)), (1, .int p1)] := hl
  generalize hQ : EQ E (wM E σ ++ X) (qI rv) A s a below = QQ
  obtain ⟨H, hH⟩ : ∃ H, H = s.heap := ⟨_, rfl⟩
  obtain ⟨locs, hlocs⟩ : ∃ z, z = ([] : List Loc) := ⟨_, rfl⟩
  have hV : AtW E (wM E σ ++ X) A s H locs := by rw [hH, hlocs]; exact hV
  have goal : W p l e rm_X10_standsAt s m a below meth c H locs 0 0 QQ (F0 m 0 ls []) := by
    unfold x_X10_standsAt at h
    refine lv_iconst (v := 0) hx hb dX10_standsAt_0 (by decide) ?_
    refine lv_istore_n (lv' := [(2, .int 0), (0, .ref (eA E 0)), (1, .int p1)]) hx hb dX10_standsAt_1 rfl hl (by decide) rfl (fun ls hl => ?_)
    refine bd_e h (fun z3 ho h => ?_)
    refine (lp_rule (G := (fun v : Int32 => ∀ (H : Heap) (locs : List Loc) (ls : Array Slot), AtW E (wM E σ ++ X) A s H locs → lv_has ls 3 [(0, .ref (eA E 0)), (1, .int p1), (2, .int v)] → W p l e rm_X10_standsAt s m a below meth c H locs 0 0 QQ (F0 m 2 ls []))) (K := (fun v : Int32 => ∀ (H : Heap) (locs : List Loc) (ls : Array Slot), AtW E (wM E σ ++ X) A s H locs → lv_has ls 3 [(2, .int v)] → W p l e rm_X10_standsAt s m a below meth c H locs 0 0 QQ (F0 m 18 ls []))) (fun v b1 y1 h hT1 hF1 => ?_) ho (fun H locs ls hV hl => ?_)) _ _ _ hV (lv_sub hl [1, 2, 0] rfl)
    · obtain ⟨u1, rfl⟩ : ∃ z, z = v := ⟨_, rfl⟩
      have h : x_X10_standsAt_L2 p1 σ u1 = some (b1, y1) := h
      intro H locs ls hV hl
      have hV : AtW E (wM E σ ++ X) A s H locs := hV
      have hl : lv_has ls 3 [(0, .ref (eA E 0)), (1, .int p1), (2, .int u1)] := hl
      unfold x_X10_standsAt_L2 at h
      refine lv_aload_n hx hb dX10_standsAt_2 rfl (lv_at hl 0 rfl) ?_
      refine G_X10_standing cx hV mk_6_131 dX10_standsAt_3 ?_
      refine lv_iload_n hx hb dX10_standsAt_6 rfl (lv_at hl 2 rfl) ?_
      refine bd_e h (fun v2 hq h => ?_)
      refine R_M_iald cx hV (by decide) hq dX10_standsAt_7 ?_
      refine lv_iload_n hx hb dX10_standsAt_8 rfl (lv_at hl 1 rfl) ?_
      refine lv_icmp_eq (tgt := 18) hx hb dX10_standsAt_9 (by decide) (fun hc => ?_) (fun hc => ?_)
      · have h := ifp hc h
        cases h
        exact hF1 rfl _ _ _ hV (lv_sub hl [2] rfl)
      · have h := ifn hc h
        refine lv_iinc (v := (u1 + 1)) (lv' := [(2, .int (u1 + 1)), (0, .ref (eA E 0)), (1, .int p1)]) hx hb dX10_standsAt_12 hl (k := 2) rfl rfl (by decide) rfl (fun ls hl => ?_)
        refine lv_goto (tgt := 2) hx hb dX10_standsAt_15 (by decide) ?_
        cases h
        exact hT1 rfl _ _ _ hV (lv_sub hl [1, 2, 0] rfl)
    · have hV : AtW E (wM E σ ++ X) A s H locs := hV
      have hl : lv_has ls 3 [(2, .int z3)] := hl
      refine lv_iload_n hx hb dX10_standsAt_18 rfl (lv_at hl 0 rfl) ?_
      have h1 := Option.some.inj h
      subst h1
      subst hQ
      exact r_ireti cx hr hlk hV dX10_standsAt_19
  rw [hH, hlocs] at goal
  exact goal
theorem k_X10_standsAt {p : Program} {l : Launch} {e : Env} {R : Room} {s : State} {m : MethodId} {a : Array Value} {below : List Frame} {meth : Method} {c : Code} {H : Heap} {locs : List Loc} {cells slots : Nat} {Q : State → Prop} {cc : ByteArray} {own : String} {nL pc : Nat} {ls : Array Slot} {rest : List Value} {A : Nat → Prop} {E : EV} {X : va_W} {σ : St} {p1 : Int32} {rv : Int32} (h : x_X10_standsAt p1 σ = some rv) (cx : CallFix p m c cc nL s a TBL own) (hV : AtW E (wM E σ ++ X) A s H locs) {idx : Nat} (w1 : Cond.methodLink own idx yX10_standsAt ∈ TBL) (hR : (rm_X10_standsAt).frames + 1 ≤ R.frames ∧ 8 + (3 + 11) + (rm_X10_standsAt).locals ≤ R.locals) (hcs : cells ≤ R.cells ∧ slots ≤ R.slots) (hls : ls.size = nL) (hcat : (rest.map fun v => v.category).sum ≤ 8) (d : decode cc pc = .ok (.invokevirtual idx, 3)) (kk : ∀ (H1 : Heap) (locs1 : List Loc), AtW E (wM E σ ++ X) A s H1 locs1 → W p l e R s m a below meth c H1 locs1 cells slots Q (F0 m (pc + 3) ls (.int rv :: rest))) : W p l e R s m a below meth c H locs cells slots Q (F0 m pc ls (.int p1 :: .ref (eA E 0) :: rest)) :=
  r_calli (n := 1) (As := [.int p1]) (q0 := 0) (ci := 10) (qq := (RX10, TX10, 64)) (c_X10_standsAt h) rfl rfl rfl mk_7_210 mk_P_83 mk_1_11 mk_7_211 (by decide +kernel) rfl ⟨rfl, rfl⟩ cx hV w1 hR hcs hls rfl hcat d kk
def x_X10_wander_L45 (p1 : Int32) (p2 : Int32) (v7 : Int32) (u8 : Int32) (σ9 : St) : Option (Bool × (Int32 × St)) :=
  (if p2 ≤ u8 then
  some (false, (u8, σ9))
  else
  bd (ldI (gA σ9 18) (lenM 18) (u8 + 1)) fun v10 =>
  bd (stI σ9 18 (lenM 18) u8 v10) fun σ11 =>
  some (true, ((u8 + 1), σ11)))
def x_X10_wander_L76 (p1 : Int32) (p2 : Int32) (v7 : Int32) (u14 : Int32) (σ15 : St) : Option (Bool × (Int32 × St)) :=
  (if u14 ≤ p2 then
  some (false, (u14, σ15))
  else
  bd (ldI (gA σ15 18) (lenM 18) (u14 - 1)) fun v16 =>
  bd (stI σ15 18 (lenM 18) u14 v16) fun σ17 =>
  some (true, ((u14 + (-1)), σ17)))
def x_X10_wander (p1 : Int32) (p2 : Int32) (σ : St) : Option (Int32 × St) :=
  bd (some (sI σ 0 0)) fun σ1 =>
  bd2 (x_X10_isCrate p1 1 σ1) fun v2 σ3 =>
  (if v2 = 0 then
  some (0, σ3)
  else
  bd (x_X10_within p2 0 ((gI σ3 8) - 1)) fun v4 =>
  bd2 (x_X10_may v4 2 2 σ3) fun v5 σ6 =>
  (if v5 = 0 then
  some (0, σ6)
  else
  bd (x_X10_standsAt p1 σ6) fun v7 =>
  bd2 (lp (fun v : (Int32 × St) => x_X10_wander_L45 p1 p2 v7 v.1 v.2) FU (v7, σ6)) fun z12 σ13 =>
  bd2 (lp (fun v : (Int32 × St) => x_X10_wander_L76 p1 p2 v7 v.1 v.2) FU (v7, σ13)) fun z18 σ19 =>
  bd (stI σ19 18 (lenM 18) p2 p1) fun σ20 =>
  some (v7, σ20)))
abbrev rm_X10_wander : Room := { frames := 2, cells := 0, slots := 0, locals := 45 }
set_option maxHeartbeats 4000000 in
set_option maxRecDepth 100000 in
theorem c_X10_wander {l : Launch} {E : EV} {X : va_W} {σ : St} {p1 : Int32} {p2 : Int32} {rv : Int32} {σf : St} (h : x_X10_wander p1 p2 σ = some (rv, σf)) : CM l yX10_wander cX10_wander 5 (some .int) rm_X10_wander [.ref (eA E 0), .int p1, .int p2] E (wM E σ ++ X) (wM E σf ++ X) (qI rv) := by
  refine CM.start (by decide) (Nat.le_of_ble_eq_true rfl) (fun p e s m a below meth c A ls cx hr hlk hV hl => ?_)
  have cx : CallFix p m c cX10_wander 5 s a TBL RX10 := cx
  have hx := cx.1
  have hb := cx.2.1
  have hl : lv_has ls 5 [(0, .ref (eA E 0)), (1, .int p1), (2, .int p2)] := hl
  generalize hQ : EQ E (wM E σf ++ X) (qI rv) A s a below = QQ
  obtain ⟨H, hH⟩ : ∃ H, H = s.heap := ⟨_, rfl⟩
  obtain ⟨locs, hlocs⟩ : ∃ z, z = ([] : List Loc) := ⟨_, rfl⟩
  have hV : AtW E (wM E σ ++ X) A s H locs := by rw [hH, hlocs]; exact hV
  have goal : W p l e rm_X10_wander s m a below meth c H locs 0 0 QQ (F0 m 0 ls []) := by
    unfold x_X10_wander at h
    refine lv_aload_n hx hb dX10_wander_0 rfl (lv_at hl 0 rfl) ?_
    refine lv_iconst (v := 0) hx hb dX10_wander_1 (by decide) ?_
    refine bd_e h (fun σ1 hq h => ?_)
    refine P_X10_thrown cx hV hq mk_6_97 dX10_wander_2 (fun H locs hV => ?_)
    refine lv_aload_n hx hb dX10_wander_5 rfl (lv_at hl 0 rfl) ?_
    refine lv_iload_n hx hb dX10_wander_6 rfl (lv_at hl 1 rfl) ?_
    refine lv_iconst (v := 1) hx hb dX10_wander_7 (by decide) ?_
    refine bd2_e h (fun v2 σ3 hq h => ?_)
    refine k_X10_isCrate hq cx hV mk_7_148 ⟨Nat.le_of_ble_eq_true rfl, Nat.le_of_ble_eq_true rfl⟩ ⟨Nat.zero_le _, Nat.zero_le _⟩ hl.1 (Nat.le_of_ble_eq_true rfl) dX10_wander_8 (fun H locs hV => ?_)
    refine lv_if_eq (tgt := 34) hx hb dX10_wander_11 (by decide) (fun hc => ?_) (fun hc => ?_)
    · have h := ifp hc h
      refine lv_iconst (v := 0) hx hb dX10_wander_34 (by decide) ?_
      obtain ⟨h1, h2⟩ := Prod.mk.inj (Option.some.inj h)
      subst h1
      subst h2
      subst hQ
      exact r_ireti cx hr hlk hV dX10_wander_35
    · have h := ifn hc h
      refine lv_aload_n hx hb dX10_wander_14 rfl (lv_at hl 0 rfl) ?_
      refine lv_iload_n hx hb dX10_wander_15 rfl (lv_at hl 2 rfl) ?_
      refine lv_iconst (v := 0) hx hb dX10_wander_16 (by decide) ?_
      refine lv_aload_n hx hb dX10_wander_17 rfl (lv_at hl 0 rfl) ?_
      refine G_X10_crates cx hV mk_6_121 dX10_wander_18 ?_
      refine lv_iconst (v := 1) hx hb dX10_wander_21 (by decide) ?_
      refine lv_isub hx hb dX10_wander_22 ?_
      refine bd_e h (fun v4 hq h => ?_)
      refine k_X10_within hq cx hV mk_7_141 ⟨Nat.le_of_ble_eq_true rfl, Nat.le_of_ble_eq_true rfl⟩ ⟨Nat.zero_le _, Nat.zero_le _⟩ hl.1 (Nat.le_of_ble_eq_true rfl) dX10_wander_23 (fun H locs hV => ?_)
      refine lv_iconst (v := 2) hx hb dX10_wander_26 (by decide) ?_
      refine lv_iconst (v := 2) hx hb dX10_wander_27 (by decide) ?_
      refine bd2_e h (fun v5 σ6 hq h => ?_)
      refine k_X10_may hq cx hV mk_7_62 ⟨Nat.le_of_ble_eq_true rfl, Nat.le_of_ble_eq_true rfl⟩ ⟨Nat.zero_le _, Nat.zero_le _⟩ hl.1 (Nat.le_of_ble_eq_true rfl) dX10_wander_28 (fun H locs hV => ?_)
      refine lv_if_ne (tgt := 36) hx hb dX10_wander_31 (by decide) (fun hc => ?_) (fun hc => ?_)
      · have h := ifn hc h
        refine lv_aload_n hx hb dX10_wander_36 rfl (lv_at hl 0 rfl) ?_
        refine lv_iload_n hx hb dX10_wander_37 rfl (lv_at hl 1 rfl) ?_
        refine bd_e h (fun v7 hq h => ?_)
        refine k_X10_standsAt hq cx hV mk_7_208 ⟨Nat.le_of_ble_eq_true rfl, Nat.le_of_ble_eq_true rfl⟩ ⟨Nat.zero_le _, Nat.zero_le _⟩ hl.1 (Nat.le_of_ble_eq_true rfl) dX10_wander_38 (fun H locs hV => ?_)
        refine lv_istore_n (lv' := [(3, .int v7), (0, .ref (eA E 0)), (1, .int p1), (2, .int p2)]) hx hb dX10_wander_41 rfl hl (by decide) rfl (fun ls hl => ?_)
        refine lv_iload_n hx hb dX10_wander_42 rfl (lv_at hl 0 rfl) ?_
        refine lv_istore (lv' := [(4, .int v7), (3, .int v7), (0, .ref (eA E 0)), (1, .int p1), (2, .int p2)]) hx hb dX10_wander_43 hl (by decide) rfl (fun ls hl => ?_)
        refine bd2_e h (fun z12 σ13 ho h => ?_)
        refine (lp_rule (G := (fun v : (Int32 × St) => ∀ (H : Heap) (locs : List Loc) (ls : Array Slot), AtW E (wM E v.2 ++ X) A s H locs → lv_has ls 5 [(0, .ref (eA E 0)), (1, .int p1), (2, .int p2), (3, .int v7), (4, .int v.1)] → W p l e rm_X10_wander s m a below meth c H locs 0 0 QQ (F0 m 45 ls []))) (K := (fun v : (Int32 × St) => ∀ (H : Heap) (locs : List Loc) (ls : Array Slot), AtW E (wM E v.2 ++ X) A s H locs → lv_has ls 5 [(0, .ref (eA E 0)), (1, .int p1), (2, .int p2), (3, .int v7)] → W p l e rm_X10_wander s m a below meth c H locs 0 0 QQ (F0 m 73 ls []))) (fun v b1 y1 h hT1 hF1 => ?_) ho (fun H locs ls hV hl => ?_)) _ _ _ hV (lv_sub hl [2, 3, 4, 1, 0] rfl)
        · obtain ⟨u8, σ9⟩ := v
          have h : x_X10_wander_L45 p1 p2 v7 u8 σ9 = some (b1, y1) := h
          intro H locs ls hV hl
          have hV : AtW E (wM E σ9 ++ X) A s H locs := hV
          have hl : lv_has ls 5 [(0, .ref (eA E 0)), (1, .int p1), (2, .int p2), (3, .int v7), (4, .int u8)] := hl
          unfold x_X10_wander_L45 at h
          refine lv_iload hx hb dX10_wander_45 (lv_at hl 4 rfl) ?_
          refine lv_iload_n hx hb dX10_wander_47 rfl (lv_at hl 2 rfl) ?_
          refine lv_icmp_ge (tgt := 73) hx hb dX10_wander_48 (by decide) (fun hc => ?_) (fun hc => ?_)
          · have h := ifp hc h
            cases h
            exact hF1 rfl _ _ _ hV (lv_sub hl [0, 1, 2, 3] rfl)
          · have h := ifn hc h
            refine lv_aload_n hx hb dX10_wander_51 rfl (lv_at hl 0 rfl) ?_
            refine G_X10_standing cx hV mk_6_131 dX10_wander_52 ?_
            refine lv_iload hx hb dX10_wander_55 (lv_at hl 4 rfl) ?_
            refine lv_aload_n hx hb dX10_wander_57 rfl (lv_at hl 0 rfl) ?_
            refine G_X10_standing cx hV mk_6_131 dX10_wander_58 ?_
            refine lv_iload hx hb dX10_wander_61 (lv_at hl 4 rfl) ?_
            refine lv_iconst (v := 1) hx hb dX10_wander_63 (by decide) ?_
            refine lv_iadd hx hb dX10_wander_64 ?_
            refine bd_e h (fun v10 hq h => ?_)
            refine R_M_iald cx hV (by decide) hq dX10_wander_65 ?_
            refine bd_e h (fun σ11 hq h => ?_)
            refine R_M_iast cx hV (by decide) hq dX10_wander_66 (fun H locs hV => ?_)
            refine lv_iinc (v := (u8 + 1)) (lv' := [(4, .int (u8 + 1)), (0, .ref (eA E 0)), (1, .int p1), (2, .int p2), (3, .int v7)]) hx hb dX10_wander_67 hl (k := 4) rfl rfl (by decide) rfl (fun ls hl => ?_)
            refine lv_goto (tgt := 45) hx hb dX10_wander_70 (by decide) ?_
            cases h
            exact hT1 rfl _ _ _ hV (lv_sub hl [1, 2, 3, 4, 0] rfl)
        · have hV : AtW E (wM E σ13 ++ X) A s H locs := hV
          have hl : lv_has ls 5 [(0, .ref (eA E 0)), (1, .int p1), (2, .int p2), (3, .int v7)] := hl
          refine lv_iload_n hx hb dX10_wander_73 rfl (lv_at hl 3 rfl) ?_
          refine lv_istore (lv' := [(4, .int v7), (0, .ref (eA E 0)), (1, .int p1), (2, .int p2), (3, .int v7)]) hx hb dX10_wander_74 hl (by decide) rfl (fun ls hl => ?_)
          refine bd2_e h (fun z18 σ19 ho h => ?_)
          refine (lp_rule (G := (fun v : (Int32 × St) => ∀ (H : Heap) (locs : List Loc) (ls : Array Slot), AtW E (wM E v.2 ++ X) A s H locs → lv_has ls 5 [(0, .ref (eA E 0)), (1, .int p1), (2, .int p2), (3, .int v7), (4, .int v.1)] → W p l e rm_X10_wander s m a below meth c H locs 0 0 QQ (F0 m 76 ls []))) (K := (fun v : (Int32 × St) => ∀ (H : Heap) (locs : List Loc) (ls : Array Slot), AtW E (wM E v.2 ++ X) A s H locs → lv_has ls 5 [(0, .ref (eA E 0)), (1, .int p1), (2, .int p2), (3, .int v7)] → W p l e rm_X10_wander s m a below meth c H locs 0 0 QQ (F0 m 104 ls []))) (fun v b1 y1 h hT1 hF1 => ?_) ho (fun H locs ls hV hl => ?_)) _ _ _ hV (lv_sub hl [1, 2, 3, 4, 0] rfl)
          · obtain ⟨u14, σ15⟩ := v
            have h : x_X10_wander_L76 p1 p2 v7 u14 σ15 = some (b1, y1) := h
            intro H locs ls hV hl
            have hV : AtW E (wM E σ15 ++ X) A s H locs := hV
            have hl : lv_has ls 5 [(0, .ref (eA E 0)), (1, .int p1), (2, .int p2), (3, .int v7), (4, .int u14)] := hl
            unfold x_X10_wander_L76 at h
            refine lv_iload hx hb dX10_wander_76 (lv_at hl 4 rfl) ?_
            refine lv_iload_n hx hb dX10_wander_78 rfl (lv_at hl 2 rfl) ?_
            refine lv_icmp_le (tgt := 104) hx hb dX10_wander_79 (by decide) (fun hc => ?_) (fun hc => ?_)
            · have h := ifp hc h
              cases h
              exact hF1 rfl _ _ _ hV (lv_sub hl [0, 1, 2, 3] rfl)
            · have h := ifn hc h
              refine lv_aload_n hx hb dX10_wander_82 rfl (lv_at hl 0 rfl) ?_
              refine G_X10_standing cx hV mk_6_131 dX10_wander_83 ?_
              refine lv_iload hx hb dX10_wander_86 (lv_at hl 4 rfl) ?_
              refine lv_aload_n hx hb dX10_wander_88 rfl (lv_at hl 0 rfl) ?_
              refine G_X10_standing cx hV mk_6_131 dX10_wander_89 ?_
              refine lv_iload hx hb dX10_wander_92 (lv_at hl 4 rfl) ?_
              refine lv_iconst (v := 1) hx hb dX10_wander_94 (by decide) ?_
              refine lv_isub hx hb dX10_wander_95 ?_
              refine bd_e h (fun v16 hq h => ?_)
              refine R_M_iald cx hV (by decide) hq dX10_wander_96 ?_
              refine bd_e h (fun σ17 hq h => ?_)
              refine R_M_iast cx hV (by decide) hq dX10_wander_97 (fun H locs hV => ?_)
              refine lv_iinc (v := (u14 + (-1))) (lv' := [(4, .int (u14 + (-1))), (0, .ref (eA E 0)), (1, .int p1), (2, .int p2), (3, .int v7)]) hx hb dX10_wander_98 hl (k := 4) rfl rfl (by decide) rfl (fun ls hl => ?_)
              refine lv_goto (tgt := 76) hx hb dX10_wander_101 (by decide) ?_
              cases h
              exact hT1 rfl _ _ _ hV (lv_sub hl [1, 2, 3, 4, 0] rfl)
          · have hV : AtW E (wM E σ19 ++ X) A s H locs := hV
            have hl : lv_has ls 5 [(0, .ref (eA E 0)), (1, .int p1), (2, .int p2), (3, .int v7)] := hl
            refine lv_aload_n hx hb dX10_wander_104 rfl (lv_at hl 0 rfl) ?_
            refine G_X10_standing cx hV mk_6_131 dX10_wander_105 ?_
            refine lv_iload_n hx hb dX10_wander_108 rfl (lv_at hl 2 rfl) ?_
            refine lv_iload_n hx hb dX10_wander_109 rfl (lv_at hl 1 rfl) ?_
            refine bd_e h (fun σ20 hq h => ?_)
            refine R_M_iast cx hV (by decide) hq dX10_wander_110 (fun H locs hV => ?_)
            refine lv_iload_n hx hb dX10_wander_111 rfl (lv_at hl 3 rfl) ?_
            obtain ⟨h1, h2⟩ := Prod.mk.inj (Option.some.inj h)
            subst h1
            subst h2
            subst hQ
            exact r_ireti cx hr hlk hV dX10_wander_112
      · have h := ifp hc h
        refine lv_iconst (v := 0) hx hb dX10_wander_34 (by decide) ?_
        obtain ⟨h1, h2⟩ := Prod.mk.inj (Option.some.inj h)
        subst h1
        subst h2
        subst hQ
        exact r_ireti cx hr hlk hV dX10_wander_35
  rw [hH, hlocs] at goal
  exact goal
theorem k_X10_wander {p : Program} {l : Launch} {e : Env} {R : Room} {s : State} {m : MethodId} {a : Array Value} {below : List Frame} {meth : Method} {c : Code} {H : Heap} {locs : List Loc} {cells slots : Nat} {Q : State → Prop} {cc : ByteArray} {own : String} {nL pc : Nat} {ls : Array Slot} {rest : List Value} {A : Nat → Prop} {E : EV} {X : va_W} {σ : St} {p1 : Int32} {p2 : Int32} {rv : Int32} {σf : St} (h : x_X10_wander p1 p2 σ = some (rv, σf)) (cx : CallFix p m c cc nL s a TBL own) (hV : AtW E (wM E σ ++ X) A s H locs) {idx : Nat} (w1 : Cond.methodLink own idx yX10_wander ∈ TBL) (hR : (rm_X10_wander).frames + 1 ≤ R.frames ∧ 8 + (5 + 11) + (rm_X10_wander).locals ≤ R.locals) (hcs : cells ≤ R.cells ∧ slots ≤ R.slots) (hls : ls.size = nL) (hcat : (rest.map fun v => v.category).sum ≤ 8) (d : decode cc pc = .ok (.invokevirtual idx, 3)) (kk : ∀ (H1 : Heap) (locs1 : List Loc), AtW E (wM E σf ++ X) A s H1 locs1 → W p l e R s m a below meth c H1 locs1 cells slots Q (F0 m (pc + 3) ls (.int rv :: rest))) : W p l e R s m a below meth c H locs cells slots Q (F0 m pc ls (.int p2 :: .int p1 :: .ref (eA E 0) :: rest)) :=
  r_calli (n := 2) (As := [.int p1, .int p2]) (q0 := 0) (ci := 10) (qq := (RX10, TX10, 64)) (c_X10_wander h) wM_fst rfl rfl mk_7_205 mk_7_206 mk_1_11 mk_7_207 (by decide +kernel) rfl ⟨rfl, rfl⟩ cx hV w1 hR hcs hls rfl hcat d kk
def x_X10_draw (p1 : Int32) (σ : St) : Option (Int32 × St) :=
  bd (some (sI σ 16 (((gI σ 16) * 1103515245) + 12345))) fun σ1 =>
  bd (rmI (((gI σ1 16) >>> (16 &&& 31)) &&& 32767) p1) fun v2 =>
  some (v2, σ1)
abbrev rm_X10_draw : Room := { frames := 0, cells := 0, slots := 0, locals := 0 }
set_option maxHeartbeats 4000000 in
set_option maxRecDepth 100000 in
theorem c_X10_draw {l : Launch} {E : EV} {X : va_W} {σ : St} {p1 : Int32} {rv : Int32} {σf : St} (h : x_X10_draw p1 σ = some (rv, σf)) : CM l yX10_draw cX10_draw 2 (some .int) rm_X10_draw [.ref (eA E 0), .int p1] E (wM E σ ++ X) (wM E σf ++ X) (qI rv) := by
  refine CM.start (by decide) (Nat.le_of_ble_eq_true rfl) (fun p e s m a below meth c A ls cx hr hlk hV hl => ?_)
  have cx : CallFix p m c cX10_draw 2 s a TBL RX10 := cx
  have hx := cx.1
  have hb := cx.2.1
  have hl : lv_has ls 2 [(0, .ref (eA E 0)), (1, .int p1)] := hl
  generalize hQ : EQ E (wM E σf ++ X) (qI rv) A s a below = QQ
  obtain ⟨H, hH⟩ : ∃ H, H = s.heap := ⟨_, rfl⟩
  obtain ⟨locs, hlocs⟩ : ∃ z, z = ([] : List Loc) := ⟨_, rfl⟩
  have hV : AtW E (wM E σ ++ X) A s H locs := by rw [hH, hlocs]; exact hV
  have goal : W p l e rm_X10_draw s m a below meth c H locs 0 0 QQ (F0 m 0 ls []) := by
    unfold x_X10_draw at h
    refine lv_aload_n hx hb dX10_draw_0 rfl (lv_at hl 0 rfl) ?_
    refine lv_aload_n hx hb dX10_draw_1 rfl (lv_at hl 0 rfl) ?_
    refine G_X10_seed cx hV mk_6_144 dX10_draw_2 ?_
    refine lv_ldcw (v := 1103515245) hx hb cx.2.2.2.1 (cx.2.2.2.2 _ mk_8_0) dX10_draw_5 ?_
    refine lv_imul hx hb dX10_draw_8 ?_
    refine lv_sipush (v := 12345) hx hb dX10_draw_9 (by decide) ?_
    refine lv_iadd hx hb dX10_draw_12 ?_
    refine bd_e h (fun σ1 hq h => ?_)
    refine P_X10_seed cx hV hq mk_6_144 dX10_draw_13 (fun H locs hV => ?_)
    refine lv_aload_n hx hb dX10_draw_16 rfl (lv_at hl 0 rfl) ?_
    refine G_X10_seed cx hV mk_6_144 dX10_draw_17 ?_
    refine lv_bipush (v := 16) hx hb dX10_draw_20 (by decide) ?_
    refine lv_ishr hx hb dX10_draw_22 ?_
    refine lv_sipush (v := 32767) hx hb dX10_draw_23 (by decide) ?_
    refine lv_iand hx hb dX10_draw_26 ?_
    refine lv_iload_n hx hb dX10_draw_27 rfl (lv_at hl 1 rfl) ?_
    refine bd_e h (fun v2 hq h => ?_)
    obtain ⟨hne, hq⟩ := rmI_e hq
    refine lv_irem hx hb dX10_draw_28 hne ?_
    rw [hq]
    obtain ⟨h1, h2⟩ := Prod.mk.inj (Option.some.inj h)
    subst h1
    subst h2
    subst hQ
    exact r_ireti cx hr hlk hV dX10_draw_29
  rw [hH, hlocs] at goal
  exact goal
theorem k_X10_draw {p : Program} {l : Launch} {e : Env} {R : Room} {s : State} {m : MethodId} {a : Array Value} {below : List Frame} {meth : Method} {c : Code} {H : Heap} {locs : List Loc} {cells slots : Nat} {Q : State → Prop} {cc : ByteArray} {own : String} {nL pc : Nat} {ls : Array Slot} {rest : List Value} {A : Nat → Prop} {E : EV} {X : va_W} {σ : St} {p1 : Int32} {rv : Int32} {σf : St} (h : x_X10_draw p1 σ = some (rv, σf)) (cx : CallFix p m c cc nL s a TBL own) (hV : AtW E (wM E σ ++ X) A s H locs) {idx : Nat} (w1 : Cond.methodLink own idx yX10_draw ∈ TBL) (hR : (rm_X10_draw).frames + 1 ≤ R.frames ∧ 8 + (2 + 11) + (rm_X10_draw).locals ≤ R.locals) (hcs : cells ≤ R.cells ∧ slots ≤ R.slots) (hls : ls.size = nL) (hcat : (rest.map fun v => v.category).sum ≤ 8) (d : decode cc pc = .ok (.invokevirtual idx, 3)) (kk : ∀ (H1 : Heap) (locs1 : List Loc), AtW E (wM E σf ++ X) A s H1 locs1 → W p l e R s m a below meth c H1 locs1 cells slots Q (F0 m (pc + 3) ls (.int rv :: rest))) : W p l e R s m a below meth c H locs cells slots Q (F0 m pc ls (.int p1 :: .ref (eA E 0) :: rest)) :=
  r_calli (n := 1) (As := [.int p1]) (q0 := 0) (ci := 10) (qq := (RX10, TX10, 64)) (c_X10_draw h) wM_fst rfl rfl mk_7_238 mk_P_89 mk_1_11 mk_7_239 (by decide +kernel) rfl ⟨rfl, rfl⟩ cx hV w1 hR hcs hls rfl hcat d kk
def x_X10_weights (σ : St) : Option Int32 :=
  bd (ldI (gA σ 6) (lenM 6) 0) fun v1 =>
  bd (ldI (gA σ 6) (lenM 6) 1) fun v2 =>
  bd (ldI (gA σ 6) (lenM 6) 2) fun v3 =>
  bd (ldI (gA σ 6) (lenM 6) 3) fun v4 =>
  some (((v1 + v2) + v3) + v4)
abbrev rm_X10_weights : Room := { frames := 0, cells := 0, slots := 0, locals := 0 }
set_option maxHeartbeats 4000000 in
set_option maxRecDepth 100000 in
theorem c_X10_weights {l : Launch} {E : EV} {X : va_W} {σ : St} {rv : Int32} (h : x_X10_weights σ = some rv) : CM l yX10_weights cX10_weights 1 (some .int) rm_X10_weights [.ref (eA E 0)] E (wM E σ ++ X) (wM E σ ++ X) (qI rv) := by
  refine CM.start (by decide) (Nat.le_of_ble_eq_true rfl) (fun p e s m a below meth c A ls cx hr hlk hV hl => ?_)
  have cx : CallFix p m c cX10_weights 1 s a TBL RX10 := cx
  have hx := cx.1
  have hb := cx.2.1
  have hl : lv_has ls 1 [(0, .ref (eA E 0))] := hl
  generalize hQ : EQ E (wM E σ ++ X) (qI rv) A s a below = QQ
  obtain ⟨H, hH⟩ : ∃ H, H = s.heap := ⟨_, rfl⟩
  obtain ⟨locs, hlocs⟩ : ∃ z, z = ([] : List Loc) := ⟨_, rfl⟩
  have hV : AtW E (wM E σ ++ X) A s H locs := by rw [hH, hlocs]; exact hV
  have goal : W p l e rm_X10_weights s m a below meth c H locs 0 0 QQ (F0 m 0 ls []) := by
    unfold x_X10_weights at h
    refine lv_aload_n hx hb dX10_weights_0 rfl (lv_at hl 0 rfl) ?_
    refine G_X10_weight cx hV mk_6_111 dX10_weights_1 ?_
    refine lv_iconst (v := 0) hx hb dX10_weights_4 (by decide) ?_
    refine bd_e h (fun v1 hq h => ?_)
    refine R_M_iald cx hV (by decide) hq dX10_weights_5 ?_
    refine lv_aload_n hx hb dX10_weights_6 rfl (lv_at hl 0 rfl) ?_
    refine G_X10_weight cx hV mk_6_111 dX10_weights_7 ?_
    refine lv_iconst (v := 1) hx hb dX10_weights_10 (by decide) ?_
    refine bd_e h (fun v2 hq h => ?_)
    refine R_M_iald cx hV (by decide) hq dX10_weights_11 ?_
    refine lv_iadd hx hb dX10_weights_12 ?_
    refine lv_aload_n hx hb dX10_weights_13 rfl (lv_at hl 0 rfl) ?_
    refine G_X10_weight cx hV mk_6_111 dX10_weights_14 ?_
    refine lv_iconst (v := 2) hx hb dX10_weights_17 (by decide) ?_
    refine bd_e h (fun v3 hq h => ?_)
    refine R_M_iald cx hV (by decide) hq dX10_weights_18 ?_
    refine lv_iadd hx hb dX10_weights_19 ?_
    refine lv_aload_n hx hb dX10_weights_20 rfl (lv_at hl 0 rfl) ?_
    refine G_X10_weight cx hV mk_6_111 dX10_weights_21 ?_
    refine lv_iconst (v := 3) hx hb dX10_weights_24 (by decide) ?_
    refine bd_e h (fun v4 hq h => ?_)
    refine R_M_iald cx hV (by decide) hq dX10_weights_25 ?_
    refine lv_iadd hx hb dX10_weights_26 ?_
    have h1 := Option.some.inj h
    subst h1
    subst hQ
    exact r_ireti cx hr hlk hV dX10_weights_27
  rw [hH, hlocs] at goal
  exact goal
theorem k_X10_weights {p : Program} {l : Launch} {e : Env} {R : Room} {s : State} {m : MethodId} {a : Array Value} {below : List Frame} {meth : Method} {c : Code} {H : Heap} {locs : List Loc} {cells slots : Nat} {Q : State → Prop} {cc : ByteArray} {own : String} {nL pc : Nat} {ls : Array Slot} {rest : List Value} {A : Nat → Prop} {E : EV} {X : va_W} {σ : St} {rv : Int32} (h : x_X10_weights σ = some rv) (cx : CallFix p m c cc nL s a TBL own) (hV : AtW E (wM E σ ++ X) A s H locs) {idx : Nat} (w1 : Cond.methodLink own idx yX10_weights ∈ TBL) (hR : (rm_X10_weights).frames + 1 ≤ R.frames ∧ 8 + (1 + 11) + (rm_X10_weights).locals ≤ R.locals) (hcs : cells ≤ R.cells ∧ slots ≤ R.slots) (hls : ls.size = nL) (hcat : (rest.map fun v => v.category).sum ≤ 8) (d : decode cc pc = .ok (.invokevirtual idx, 3)) (kk : ∀ (H1 : Heap) (locs1 : List Loc), AtW E (wM E σ ++ X) A s H1 locs1 → W p l e R s m a below meth c H1 locs1 cells slots Q (F0 m (pc + 3) ls (.int rv :: rest))) : W p l e R s m a below meth c H locs cells slots Q (F0 m pc ls (.ref (eA E 0) :: rest)) :=
  r_calli (n := 0) (As := []) (q0 := 0) (ci := 10) (qq := (RX10, TX10, 64)) (c_X10_weights h) rfl rfl rfl mk_8_7 mk_P_91 mk_1_11 mk_8_8 (by decide +kernel) rfl ⟨rfl, rfl⟩ cx hV w1 hR hcs hls rfl hcat d kk
def x_X10_putFrom_b59 (w1 : Int32) (w2 : Int32) (σ3 : St) : Option (Int32 × St) :=
  bd (x_X10_within w2 0 ((gI σ3 8) - 1)) fun v4 =>
  (if v4 = 0 then
  some (w1, σ3)
  else
  some (w2, σ3))
def x_X10_putFrom (p1 : Int32) (p2 : Int32) (σ : St) : Option (Int32 × St) :=
  bd (x_X10_weights σ) fun v5 =>
  bd2 (x_X10_draw v5 σ) fun v6 σ7 =>
  bd (ldI (gA σ7 6) (lenM 6) 0) fun v8 =>
  (if v8 ≤ v6 then
  bd (ldI (gA σ7 6) (lenM 6) 0) fun v9 =>
  bd (ldI (gA σ7 6) (lenM 6) 1) fun v10 =>
  (if (v9 + v10) ≤ v6 then
  bd (ldI (gA σ7 6) (lenM 6) 0) fun v11 =>
  bd (ldI (gA σ7 6) (lenM 6) 1) fun v12 =>
  bd (ldI (gA σ7 6) (lenM 6) 2) fun v13 =>
  (if ((v11 + v12) + v13) ≤ v6 then
  bd2 (x_X10_draw (gI σ7 8) σ7) fun v14 σ15 =>
  some (v14, σ15)
  else
  some (p1, σ7))
  else
  bd2 (x_X10_draw 2 σ7) fun v16 σ17 =>
  (if v16 = 0 then
  x_X10_putFrom_b59 p1 (p1 - 1) σ17
  else
  x_X10_putFrom_b59 p1 (p1 + 1) σ17))
  else
  bd (x_X10_own p2 σ7) fun v18 =>
  some (v18, σ7))
abbrev rm_X10_putFrom : Room := { frames := 2, cells := 0, slots := 0, locals := 46 }
set_option maxHeartbeats 4000000 in
set_option maxRecDepth 100000 in
theorem c_X10_putFrom {l : Launch} {E : EV} {X : va_W} {σ : St} {p1 : Int32} {p2 : Int32} {rv : Int32} {σf : St} (h : x_X10_putFrom p1 p2 σ = some (rv, σf)) : CM l yX10_putFrom cX10_putFrom 5 (some .int) rm_X10_putFrom [.ref (eA E 0), .int p1, .int p2] E (wM E σ ++ X) (wM E σf ++ X) (qI rv) := by
  refine CM.start (by decide) (Nat.le_of_ble_eq_true rfl) (fun p e s m a below meth c A ls cx hr hlk hV hl => ?_)
  have cx : CallFix p m c cX10_putFrom 5 s a TBL RX10 := cx
  have hx := cx.1
  have hb := cx.2.1
  have hl : lv_has ls 5 [(0, .ref (eA E 0)), (1, .int p1), (2, .int p2)] := hl
  generalize hQ : EQ E (wM E σf ++ X) (qI rv) A s a below = QQ
  obtain ⟨H, hH⟩ : ∃ H, H = s.heap := ⟨_, rfl⟩
  obtain ⟨locs, hlocs⟩ : ∃ z, z = ([] : List Loc) := ⟨_, rfl⟩
  have hV : AtW E (wM E σ ++ X) A s H locs := by rw [hH, hlocs]; exact hV
  have goal : W p l e rm_X10_putFrom s m a below meth c H locs 0 0 QQ (F0 m 0 ls []) := by
    unfold x_X10_putFrom at h
    have hj59 : ∀ (w1 : Int32) (w2 : Int32) (σ3 : St) (H : Heap) (locs : List Loc) (ls : Array Slot), x_X10_putFrom_b59 w1 w2 σ3 = some (rv, σf) → AtW E (wM E σ3 ++ X) A s H locs → lv_has ls 5 [(0, .ref (eA E 0)), (1, .int w1)] → W p l e rm_X10_putFrom s m a below meth c H locs 0 0 QQ (F0 m 59 ls [.int w2]) := by
      intro w1 w2 σ3 H locs ls h hV hl
      unfold x_X10_putFrom_b59 at h
      refine lv_istore (lv' := [(4, .int w2), (0, .ref (eA E 0)), (1, .int w1)]) hx hb dX10_putFrom_59 hl (by decide) rfl (fun ls hl => ?_)
      refine lv_iload hx hb dX10_putFrom_61 (lv_at hl 0 rfl) ?_
      refine lv_iconst (v := 0) hx hb dX10_putFrom_63 (by decide) ?_
      refine lv_aload_n hx hb dX10_putFrom_64 rfl (lv_at hl 1 rfl) ?_
      refine G_X10_crates cx hV mk_6_121 dX10_putFrom_65 ?_
      refine lv_iconst (v := 1) hx hb dX10_putFrom_68 (by decide) ?_
      refine lv_isub hx hb dX10_putFrom_69 ?_
      refine bd_e h (fun v4 hq h => ?_)
      refine k_X10_within hq cx hV mk_7_141 ⟨Nat.le_of_ble_eq_true rfl, Nat.le_of_ble_eq_true rfl⟩ ⟨Nat.zero_le _, Nat.zero_le _⟩ hl.1 (Nat.le_of_ble_eq_true rfl) dX10_putFrom_70 (fun H locs hV => ?_)
      refine lv_if_eq (tgt := 81) hx hb dX10_putFrom_73 (by decide) (fun hc => ?_) (fun hc => ?_)
      · have h := ifp hc h
        refine lv_iload_n hx hb dX10_putFrom_81 rfl (lv_at hl 2 rfl) ?_
        obtain ⟨h1, h2⟩ := Prod.mk.inj (Option.some.inj h)
        subst h1
        subst h2
        subst hQ
        exact r_ireti cx hr hlk hV dX10_putFrom_82
      · have h := ifn hc h
        refine lv_iload hx hb dX10_putFrom_76 (lv_at hl 0 rfl) ?_
        refine lv_goto (tgt := 82) hx hb dX10_putFrom_78 (by decide) ?_
        obtain ⟨h1, h2⟩ := Prod.mk.inj (Option.some.inj h)
        subst h1
        subst h2
        subst hQ
        exact r_ireti cx hr hlk hV dX10_putFrom_82
    refine lv_aload_n hx hb dX10_putFrom_0 rfl (lv_at hl 0 rfl) ?_
    refine lv_aload_n hx hb dX10_putFrom_1 rfl (lv_at hl 0 rfl) ?_
    refine bd_e h (fun v5 hq h => ?_)
    refine k_X10_weights hq cx hV mk_8_5 ⟨Nat.le_of_ble_eq_true rfl, Nat.le_of_ble_eq_true rfl⟩ ⟨Nat.zero_le _, Nat.zero_le _⟩ hl.1 (Nat.le_of_ble_eq_true rfl) dX10_putFrom_2 (fun H locs hV => ?_)
    refine bd2_e h (fun v6 σ7 hq h => ?_)
    refine k_X10_draw hq cx hV mk_7_236 ⟨Nat.le_of_ble_eq_true rfl, Nat.le_of_ble_eq_true rfl⟩ ⟨Nat.zero_le _, Nat.zero_le _⟩ hl.1 (Nat.le_of_ble_eq_true rfl) dX10_putFrom_5 (fun H locs hV => ?_)
    refine lv_istore_n (lv' := [(3, .int v6), (0, .ref (eA E 0)), (1, .int p1), (2, .int p2)]) hx hb dX10_putFrom_8 rfl hl (by decide) rfl (fun ls hl => ?_)
    refine lv_iload_n hx hb dX10_putFrom_9 rfl (lv_at hl 0 rfl) ?_
    refine lv_aload_n hx hb dX10_putFrom_10 rfl (lv_at hl 1 rfl) ?_
    refine G_X10_weight cx hV mk_6_111 dX10_putFrom_11 ?_
    refine lv_iconst (v := 0) hx hb dX10_putFrom_14 (by decide) ?_
    refine bd_e h (fun v8 hq h => ?_)
    refine R_M_iald cx hV (by decide) hq dX10_putFrom_15 ?_
    refine lv_icmp_ge (tgt := 25) hx hb dX10_putFrom_16 (by decide) (fun hc => ?_) (fun hc => ?_)
    · have h := ifp hc h
      refine lv_iload_n hx hb dX10_putFrom_25 rfl (lv_at hl 0 rfl) ?_
      refine lv_aload_n hx hb dX10_putFrom_26 rfl (lv_at hl 1 rfl) ?_
      refine G_X10_weight cx hV mk_6_111 dX10_putFrom_27 ?_
      refine lv_iconst (v := 0) hx hb dX10_putFrom_30 (by decide) ?_
      refine bd_e h (fun v9 hq h => ?_)
      refine R_M_iald cx hV (by decide) hq dX10_putFrom_31 ?_
      refine lv_aload_n hx hb dX10_putFrom_32 rfl (lv_at hl 1 rfl) ?_
      refine G_X10_weight cx hV mk_6_111 dX10_putFrom_33 ?_
      refine lv_iconst (v := 1) hx hb dX10_putFrom_36 (by decide) ?_
      refine bd_e h (fun v10 hq h => ?_)
      refine R_M_iald cx hV (by decide) hq dX10_putFrom_37 ?_
      refine lv_iadd hx hb dX10_putFrom_38 ?_
      refine lv_icmp_ge (tgt := 83) hx hb dX10_putFrom_39 (by decide) (fun hc => ?_) (fun hc => ?_)
      · have h := ifp hc h
        refine lv_iload_n hx hb dX10_putFrom_83 rfl (lv_at hl 0 rfl) ?_
        refine lv_aload_n hx hb dX10_putFrom_84 rfl (lv_at hl 1 rfl) ?_
        refine G_X10_weight cx hV mk_6_111 dX10_putFrom_85 ?_
        refine lv_iconst (v := 0) hx hb dX10_putFrom_88 (by decide) ?_
        refine bd_e h (fun v11 hq h => ?_)
        refine R_M_iald cx hV (by decide) hq dX10_putFrom_89 ?_
        refine lv_aload_n hx hb dX10_putFrom_90 rfl (lv_at hl 1 rfl) ?_
        refine G_X10_weight cx hV mk_6_111 dX10_putFrom_91 ?_
        refine lv_iconst (v := 1) hx hb dX10_putFrom_94 (by decide) ?_
        refine bd_e h (fun v12 hq h => ?_)
        refine R_M_iald cx hV (by decide) hq dX10_putFrom_95 ?_
        refine lv_iadd hx hb dX10_putFrom_96 ?_
        refine lv_aload_n hx hb dX10_putFrom_97 rfl (lv_at hl 1 rfl) ?_
        refine G_X10_weight cx hV mk_6_111 dX10_putFrom_98 ?_
        refine lv_iconst (v := 2) hx hb dX10_putFrom_101 (by decide) ?_
        refine bd_e h (fun v13 hq h => ?_)
        refine R_M_iald cx hV (by decide) hq dX10_putFrom_102 ?_
        refine lv_iadd hx hb dX10_putFrom_103 ?_
        refine lv_icmp_ge (tgt := 111) hx hb dX10_putFrom_104 (by decide) (fun hc => ?_) (fun hc => ?_)
        · have h := ifp hc h
          refine lv_aload_n hx hb dX10_putFrom_111 rfl (lv_at hl 1 rfl) ?_
          refine lv_aload_n hx hb dX10_putFrom_112 rfl (lv_at hl 1 rfl) ?_
          refine G_X10_crates cx hV mk_6_121 dX10_putFrom_113 ?_
          refine bd2_e h (fun v14 σ15 hq h => ?_)
          refine k_X10_draw hq cx hV mk_7_236 ⟨Nat.le_of_ble_eq_true rfl, Nat.le_of_ble_eq_true rfl⟩ ⟨Nat.zero_le _, Nat.zero_le _⟩ hl.1 (Nat.le_of_ble_eq_true rfl) dX10_putFrom_116 (fun H locs hV => ?_)
          obtain ⟨h1, h2⟩ := Prod.mk.inj (Option.some.inj h)
          subst h1
          subst h2
          subst hQ
          exact r_ireti cx hr hlk hV dX10_putFrom_119
        · have h := ifn hc h
          refine lv_iload_n hx hb dX10_putFrom_107 rfl (lv_at hl 2 rfl) ?_
          refine lv_goto (tgt := 119) hx hb dX10_putFrom_108 (by decide) ?_
          obtain ⟨h1, h2⟩ := Prod.mk.inj (Option.some.inj h)
          subst h1
          subst h2
          subst hQ
          exact r_ireti cx hr hlk hV dX10_putFrom_119
      · have h := ifn hc h
        refine lv_aload_n hx hb dX10_putFrom_42 rfl (lv_at hl 1 rfl) ?_
        refine lv_iconst (v := 2) hx hb dX10_putFrom_43 (by decide) ?_
        refine bd2_e h (fun v16 σ17 hq h => ?_)
        refine k_X10_draw hq cx hV mk_7_236 ⟨Nat.le_of_ble_eq_true rfl, Nat.le_of_ble_eq_true rfl⟩ ⟨Nat.zero_le _, Nat.zero_le _⟩ hl.1 (Nat.le_of_ble_eq_true rfl) dX10_putFrom_44 (fun H locs hV => ?_)
        refine lv_if_ne (tgt := 56) hx hb dX10_putFrom_47 (by decide) (fun hc => ?_) (fun hc => ?_)
        · have h := ifn hc h
          refine lv_iload_n hx hb dX10_putFrom_56 rfl (lv_at hl 2 rfl) ?_
          refine lv_iconst (v := 1) hx hb dX10_putFrom_57 (by decide) ?_
          refine lv_iadd hx hb dX10_putFrom_58 ?_
          exact hj59 p1 (p1 + 1) σ17 _ _ _ h hV (lv_sub hl [1, 2] rfl)
        · have h := ifp hc h
          refine lv_iload_n hx hb dX10_putFrom_50 rfl (lv_at hl 2 rfl) ?_
          refine lv_iconst (v := 1) hx hb dX10_putFrom_51 (by decide) ?_
          refine lv_isub hx hb dX10_putFrom_52 ?_
          refine lv_goto (tgt := 59) hx hb dX10_putFrom_53 (by decide) ?_
          exact hj59 p1 (p1 - 1) σ17 _ _ _ h hV (lv_sub hl [1, 2] rfl)
    · have h := ifn hc h
      refine lv_aload_n hx hb dX10_putFrom_19 rfl (lv_at hl 1 rfl) ?_
      refine lv_iload_n hx hb dX10_putFrom_20 rfl (lv_at hl 3 rfl) ?_
      refine bd_e h (fun v18 hq h => ?_)
      refine k_X10_own hq cx hV mk_7_164 ⟨Nat.le_of_ble_eq_true rfl, Nat.le_of_ble_eq_true rfl⟩ ⟨Nat.zero_le _, Nat.zero_le _⟩ hl.1 (Nat.le_of_ble_eq_true rfl) dX10_putFrom_21 (fun H locs hV => ?_)
      obtain ⟨h1, h2⟩ := Prod.mk.inj (Option.some.inj h)
      subst h1
      subst h2
      subst hQ
      exact r_ireti cx hr hlk hV dX10_putFrom_24
  rw [hH, hlocs] at goal
  exact goal
theorem k_X10_putFrom {p : Program} {l : Launch} {e : Env} {R : Room} {s : State} {m : MethodId} {a : Array Value} {below : List Frame} {meth : Method} {c : Code} {H : Heap} {locs : List Loc} {cells slots : Nat} {Q : State → Prop} {cc : ByteArray} {own : String} {nL pc : Nat} {ls : Array Slot} {rest : List Value} {A : Nat → Prop} {E : EV} {X : va_W} {σ : St} {p1 : Int32} {p2 : Int32} {rv : Int32} {σf : St} (h : x_X10_putFrom p1 p2 σ = some (rv, σf)) (cx : CallFix p m c cc nL s a TBL own) (hV : AtW E (wM E σ ++ X) A s H locs) {idx : Nat} (w1 : Cond.methodLink own idx yX10_putFrom ∈ TBL) (hR : (rm_X10_putFrom).frames + 1 ≤ R.frames ∧ 8 + (5 + 11) + (rm_X10_putFrom).locals ≤ R.locals) (hcs : cells ≤ R.cells ∧ slots ≤ R.slots) (hls : ls.size = nL) (hcat : (rest.map fun v => v.category).sum ≤ 8) (d : decode cc pc = .ok (.invokevirtual idx, 3)) (kk : ∀ (H1 : Heap) (locs1 : List Loc), AtW E (wM E σf ++ X) A s H1 locs1 → W p l e R s m a below meth c H1 locs1 cells slots Q (F0 m (pc + 3) ls (.int rv :: rest))) : W p l e R s m a below meth c H locs cells slots Q (F0 m pc ls (.int p2 :: .int p1 :: .ref (eA E 0) :: rest)) :=
  r_calli (n := 2) (As := [.int p1, .int p2]) (q0 := 0) (ci := 10) (qq := (RX10, TX10, 64)) (c_X10_putFrom h) wM_fst rfl rfl mk_8_3 mk_P_90 mk_1_11 mk_8_4 (by decide +kernel) rfl ⟨rfl, rfl⟩ cx hV w1 hR hcs hls rfl hcat d kk
def x_X10_comes_b27_208 (p1 : Int32) (p2 : Int32) (p3 : Int32) (v1 : Int32) (w8 : Int32) (w9 : Int32) (w10 : Int32) (w11 : Int32) (w12 : Int32) (σ13 : St) : Option (Bool × (Int32 × Int32 × Int32 × Int32 × St)) :=
  bd (stI σ13 27 (lenM 27) w9 w12) fun σ14 =>
  some (true, (w8, (w9 + 1), w10, (w11 + 1), σ14))
def x_X10_comes_L27 (p1 : Int32) (p2 : Int32) (p3 : Int32) (v1 : Int32) (u3 : Int32) (u4 : Int32) (u5 : Int32) (u6 : Int32) (σ7 : St) : Option (Bool × (Int32 × Int32 × Int32 × Int32 × St)) :=
  (if v1 ≤ u6 then
  some (false, (u3, u4, u5, u6, σ7))
  else
  (if (gI σ7 19) = 0 then
  bd (ldI (gA σ7 17) (lenM 17) ((24 * p2) + u5)) fun v15 =>
  bd2 (x_X10_draw 8 σ7) fun v16 σ17 =>
  bd (ldI (gA σ17 4) (lenM 4) ((6 * p1) + 1)) fun v18 =>
  bd (ldI (gA σ17 5) (lenM 5) v18) fun v19 =>
  (if v16 < v19 then
  some (true, (u3, u4, (u5 + 1), (u6 + 1), σ17))
  else
  bd (ldI (gA σ17 3) (lenM 3) ((3 * v15) + 2)) fun v20 =>
  bd (ldI (gA σ17 4) (lenM 4) ((6 * p1) + 2)) fun v21 =>
  (if v21 ≤ v20 then
  bd (ldI (gA σ17 3) (lenM 3) ((3 * v15) + 1)) fun v22 =>
  bd (ldI (gA σ17 4) (lenM 4) ((6 * p1) + 3)) fun v23 =>
  (if v23 < v22 then
  x_X10_comes_b27_208 p1 p2 p3 v1 (u3 + 1) u4 (u5 + 1) u6 v15 σ17
  else
  bd (ldI (gA σ17 21) (lenM 21) p1) fun v24 =>
  (if v24 < v22 then
  x_X10_comes_b27_208 p1 p2 p3 v1 (u3 + 1) u4 (u5 + 1) u6 v15 σ17
  else
  bd (ldI (gA σ17 21) (lenM 21) p1) fun v25 =>
  bd (stI σ17 21 (lenM 21) p1 (v25 - v22)) fun σ26 =>
  bd (ldI (gA σ26 23) (lenM 23) p1) fun v27 =>
  bd (stI σ26 23 (lenM 23) p1 (v27 + v22)) fun σ28 =>
  bd (ldI (gA σ28 22) (lenM 22) p1) fun v29 =>
  bd (stI σ28 22 (lenM 22) p1 (v29 + 1)) fun σ30 =>
  bd (some (sI σ30 17 ((gI σ30 17) + 1))) fun σ31 =>
  bd (x_X10_goesOut v15 σ31) fun σ32 =>
  some (true, ((u3 + 1), u4, ((u5 + 1) + (-1)), (u6 + 1), σ32))))
  else
  some (true, (u3, u4, (u5 + 1), (u6 + 1), σ17))))
  else
  some (false, (u3, u4, u5, u6, σ7))))
def x_X10_comes_L229 (p1 : Int32) (p2 : Int32) (p3 : Int32) (v1 : Int32) (z33 : Int32) (z34 : Int32) (u38 : Int32) (σ39 : St) : Option (Bool × (Int32 × St)) :=
  (if z34 ≤ u38 then
  some (false, (u38, σ39))
  else
  bd (ldI (gA σ39 27) (lenM 27) u38) fun v40 =>
  bd2 (x_X10_putFrom p2 v40 σ39) fun v41 σ42 =>
  bd (ldI (gA σ42 27) (lenM 27) u38) fun v43 =>
  bd (x_X10_goesOut v43 σ42) fun σ44 =>
  bd (ldI (gA σ44 27) (lenM 27) u38) fun v45 =>
  bd (x_X10_comesTo v41 v45 σ44) fun σ46 =>
  some (true, ((u38 + 1), σ46)))
def x_X10_comes (p1 : Int32) (p2 : Int32) (p3 : Int32) (σ : St) : Option St :=
  bd (ldI (gA σ 16) (lenM 16) p2) fun v1 =>
  bd (stI σ 19 (lenM 19) p1 p2) fun σ2 =>
  bd5 (lp (fun v : (Int32 × Int32 × Int32 × Int32 × St) => x_X10_comes_L27 p1 p2 p3 v1 v.1 v.2.1 v.2.2.1 v.2.2.2.1 v.2.2.2.2) FU (0, 0, 0, 0, σ2)) fun z33 z34 z35 z36 σ37 =>
  bd2 (lp (fun v : (Int32 × St) => x_X10_comes_L229 p1 p2 p3 v1 z33 z34 v.1 v.2) FU (0, σ37)) fun z47 σ48 =>
  bd (some (sI σ48 18 ((gI σ48 18) + z33))) fun σ49 =>
  bd (ldI (gA σ49 4) (lenM 4) ((6 * p1) + 1)) fun v50 =>
  bd (dvI ((v1 + v50) - 1) v50) fun v51 =>
  bd (stI σ49 20 (lenM 20) p1 ((p3 + v51) + ((gI σ49 11) * z33))) fun σ52 =>
  some σ52
abbrev rm_X10_comes : Room := { frames := 3, cells := 0, slots := 0, locals := 70 }
set_option maxHeartbeats 4000000 in
set_option maxRecDepth 100000 in
theorem c_X10_comes {l : Launch} {E : EV} {X : va_W} {σ : St} {p1 : Int32} {p2 : Int32} {p3 : Int32} {σf : St} (h : x_X10_comes p1 p2 p3 σ = some σf) : CM l yX10_comes cX10_comes 11 none rm_X10_comes [.ref (eA E 0), .int p1, .int p2, .int p3] E (wM E σ ++ X) (wM E σf ++ X) qV := by
  refine CM.start (by decide) (Nat.le_of_ble_eq_true rfl) (fun p e s m a below meth c A ls cx hr hlk hV hl => ?_)
  have cx : CallFix p m c cX10_comes 11 s a TBL RX10 := cx
  have hx := cx.1
  have hb := cx.2.1
  have hl : lv_has ls 11 [(0, .ref (eA E 0)), (1, .int p1), (2, .int p2), (3, .int p3)] := hl
  generalize hQ : EQ E (wM E σf ++ X) qV A s a below = QQ
  obtain ⟨H, hH⟩ : ∃ H, H = s.heap := ⟨_, rfl⟩
  obtain ⟨locs, hlocs⟩ : ∃ z, z = ([] : List Loc) := ⟨_, rfl⟩
  have hV : AtW E (wM E σ ++ X) A s H locs := by rw [hH, hlocs]; exact hV
  have goal : W p l e rm_X10_comes s m a below meth c H locs 0 0 QQ (F0 m 0 ls []) := by
    unfold x_X10_comes at h
    refine lv_aload_n hx hb dX10_comes_0 rfl (lv_at hl 0 rfl) ?_
    refine G_X10_many cx hV mk_6_129 dX10_comes_1 ?_
    refine lv_iload_n hx hb dX10_comes_4 rfl (lv_at hl 2 rfl) ?_
    refine bd_e h (fun v1 hq h => ?_)
    refine R_M_iald cx hV (by decide) hq dX10_comes_5 ?_
    refine lv_istore (lv' := [(4, .int v1), (0, .ref (eA E 0)), (1, .int p1), (2, .int p2), (3, .int p3)]) hx hb dX10_comes_6 hl (by decide) rfl (fun ls hl => ?_)
    refine lv_iconst (v := 0) hx hb dX10_comes_8 (by decide) ?_
    refine lv_istore (lv' := [(5, .int 0), (4, .int v1), (0, .ref (eA E 0)), (1, .int p1), (2, .int p2), (3, .int p3)]) hx hb dX10_comes_9 hl (by decide) rfl (fun ls hl => ?_)
    refine lv_iconst (v := 0) hx hb dX10_comes_11 (by decide) ?_
    refine lv_istore (lv' := [(6, .int 0), (5, .int 0), (4, .int v1), (0, .ref (eA E 0)), (1, .int p1), (2, .int p2), (3, .int p3)]) hx hb dX10_comes_12 hl (by decide) rfl (fun ls hl => ?_)
    refine lv_aload_n hx hb dX10_comes_14 rfl (lv_at hl 3 rfl) ?_
    refine G_X10_stands cx hV mk_6_132 dX10_comes_15 ?_
    refine lv_iload_n hx hb dX10_comes_18 rfl (lv_at hl 4 rfl) ?_
    refine lv_iload_n hx hb dX10_comes_19 rfl (lv_at hl 5 rfl) ?_
    refine bd_e h (fun σ2 hq h => ?_)
    refine R_M_iast cx hV (by decide) hq dX10_comes_20 (fun H locs hV => ?_)
    refine lv_iconst (v := 0) hx hb dX10_comes_21 (by decide) ?_
    refine lv_istore (lv' := [(7, .int 0), (6, .int 0), (5, .int 0), (4, .int v1), (0, .ref (eA E 0)), (1, .int p1), (2, .int p2), (3, .int p3)]) hx hb dX10_comes_22 hl (by decide) rfl (fun ls hl => ?_)
    refine lv_iconst (v := 0) hx hb dX10_comes_24 (by decide) ?_
    refine lv_istore (lv' := [(8, .int 0), (7, .int 0), (6, .int 0), (5, .int 0), (4, .int v1), (0, .ref (eA E 0)), (1, .int p1), (2, .int p2), (3, .int p3)]) hx hb dX10_comes_25 hl (by decide) rfl (fun ls hl => ?_)
    refine bd5_e h (fun z33 z34 z35 z36 σ37 ho h => ?_)
    refine (lp_rule (G := (fun v : (Int32 × Int32 × Int32 × Int32 × St) => ∀ (H : Heap) (locs : List Loc) (ls : Array Slot), AtW E (wM E v.2.2.2.2 ++ X) A s H locs → lv_has ls 11 [(0, .ref (eA E 0)), (1, .int p1), (2, .int p2), (3, .int p3), (4, .int v1), (5, .int v.1), (6, .int v.2.1), (7, .int v.2.2.1), (8, .int v.2.2.2.1)] → W p l e rm_X10_comes s m a below meth c H locs 0 0 QQ (F0 m 27 ls []))) (K := (fun v : (Int32 × Int32 × Int32 × Int32 × St) => ∀ (H : Heap) (locs : List Loc) (ls : Array Slot), AtW E (wM E v.2.2.2.2 ++ X) A s H locs → lv_has ls 11 [(0, .ref (eA E 0)), (1, .int p1), (2, .int p2), (3, .int p3), (4, .int v1), (5, .int v.1), (6, .int v.2.1)] → W p l e rm_X10_comes s m a below meth c H locs 0 0 QQ (F0 m 226 ls []))) (fun v b1 y1 h hT1 hF1 => ?_) ho (fun H locs ls hV hl => ?_)) _ _ _ hV (lv_sub hl [5, 6, 7, 8, 4, 3, 2, 1, 0] rfl)
    · have hj27_208 : ∀ (w8 : Int32) (w9 : Int32) (w10 : Int32) (w11 : Int32) (w12 : Int32) (σ13 : St) (H : Heap) (locs : List Loc) (ls : Array Slot), x_X10_comes_b27_208 p1 p2 p3 v1 w8 w9 w10 w11 w12 σ13 = some (b1, y1) → AtW E (wM E σ13 ++ X) A s H locs → lv_has ls 11 [(0, .ref (eA E 0)), (1, .int p1), (2, .int p2), (3, .int p3), (4, .int v1), (5, .int w8), (6, .int w9), (7, .int w10), (8, .int w11), (9, .int w12)] → W p l e rm_X10_comes s m a below meth c H locs 0 0 QQ (F0 m 208 ls []) := by
        intro w8 w9 w10 w11 w12 σ13 H locs ls h hV hl
        unfold x_X10_comes_b27_208 at h
        refine lv_aload_n hx hb dX10_comes_208 rfl (lv_at hl 0 rfl) ?_
        refine G_X10_heldUp cx hV mk_6_140 dX10_comes_209 ?_
        refine lv_iload hx hb dX10_comes_212 (lv_at hl 6 rfl) ?_
        refine lv_iload hx hb dX10_comes_214 (lv_at hl 9 rfl) ?_
        refine bd_e h (fun σ14 hq h => ?_)
        refine R_M_iast cx hV (by decide) hq dX10_comes_216 (fun H locs hV => ?_)
        refine lv_iinc (v := (w9 + 1)) (lv' := [(6, .int (w9 + 1)), (0, .ref (eA E 0)), (1, .int p1), (2, .int p2), (3, .int p3), (4, .int v1), (5, .int w8), (7, .int w10), (8, .int w11), (9, .int w12)]) hx hb dX10_comes_217 hl (k := 6) rfl rfl (by decide) rfl (fun ls hl => ?_)
        refine lv_iinc (v := (w11 + 1)) (lv' := [(8, .int (w11 + 1)), (6, .int (w9 + 1)), (0, .ref (eA E 0)), (1, .int p1), (2, .int p2), (3, .int p3), (4, .int v1), (5, .int w8), (7, .int w10), (9, .int w12)]) hx hb dX10_comes_220 hl (k := 8) rfl rfl (by decide) rfl (fun ls hl => ?_)
        refine lv_goto (tgt := 27) hx hb dX10_comes_223 (by decide) ?_
        cases h
        exact hT1 rfl _ _ _ hV (lv_sub hl [2, 3, 4, 5, 6, 7, 1, 8, 0] rfl)
      obtain ⟨u3, u4, u5, u6, σ7⟩ := v
      have h : x_X10_comes_L27 p1 p2 p3 v1 u3 u4 u5 u6 σ7 = some (b1, y1) := h
      intro H locs ls hV hl
      have hV : AtW E (wM E σ7 ++ X) A s H locs := hV
      have hl : lv_has ls 11 [(0, .ref (eA E 0)), (1, .int p1), (2, .int p2), (3, .int p3), (4, .int v1), (5, .int u3), (6, .int u4), (7, .int u5), (8, .int u6)] := hl
      unfold x_X10_comes_L27 at h
      refine lv_iload hx hb dX10_comes_27 (lv_at hl 8 rfl) ?_
      refine lv_iload hx hb dX10_comes_29 (lv_at hl 4 rfl) ?_
      refine lv_icmp_ge (tgt := 226) hx hb dX10_comes_31 (by decide) (fun hc => ?_) (fun hc => ?_)
      · have h := ifp hc h
        cases h
        exact hF1 rfl _ _ _ hV (lv_sub hl [0, 1, 2, 3, 4, 5, 6] rfl)
      · have h := ifn hc h
        refine lv_aload_n hx hb dX10_comes_34 rfl (lv_at hl 0 rfl) ?_
        refine G_X10_blind cx hV mk_6_147 dX10_comes_35 ?_
        refine lv_if_ne (tgt := 226) hx hb dX10_comes_38 (by decide) (fun hc => ?_) (fun hc => ?_)
        · have h := ifn hc h
          cases h
          exact hF1 rfl _ _ _ hV (lv_sub hl [0, 1, 2, 3, 4, 5, 6] rfl)
        · have h := ifp hc h
          refine lv_aload_n hx hb dX10_comes_41 rfl (lv_at hl 0 rfl) ?_
          refine G_X10_row cx hV mk_6_130 dX10_comes_42 ?_
          refine lv_bipush (v := 24) hx hb dX10_comes_45 (by decide) ?_
          refine lv_iload_n hx hb dX10_comes_47 rfl (lv_at hl 2 rfl) ?_
          refine lv_imul hx hb dX10_comes_48 ?_
          refine lv_iload hx hb dX10_comes_49 (lv_at hl 7 rfl) ?_
          refine lv_iadd hx hb dX10_comes_51 ?_
          refine bd_e h (fun v15 hq h => ?_)
          refine R_M_iald cx hV (by decide) hq dX10_comes_52 ?_
          refine lv_istore (lv' := [(9, .int v15), (0, .ref (eA E 0)), (1, .int p1), (2, .int p2), (3, .int p3), (4, .int v1), (5, .int u3), (6, .int u4), (7, .int u5), (8, .int u6)]) hx hb dX10_comes_53 hl (by decide) rfl (fun ls hl => ?_)
          refine lv_iinc (v := (u5 + 1)) (lv' := [(7, .int (u5 + 1)), (9, .int v15), (0, .ref (eA E 0)), (1, .int p1), (2, .int p2), (3, .int p3), (4, .int v1), (5, .int u3), (6, .int u4), (8, .int u6)]) hx hb dX10_comes_55 hl (k := 8) rfl rfl (by decide) rfl (fun ls hl => ?_)
          refine lv_aload_n hx hb dX10_comes_58 rfl (lv_at hl 2 rfl) ?_
          refine lv_bipush (v := 8) hx hb dX10_comes_59 (by decide) ?_
          refine bd2_e h (fun v16 σ17 hq h => ?_)
          refine k_X10_draw hq cx hV mk_7_236 ⟨Nat.le_of_ble_eq_true rfl, Nat.le_of_ble_eq_true rfl⟩ ⟨Nat.zero_le _, Nat.zero_le _⟩ hl.1 (Nat.le_of_ble_eq_true rfl) dX10_comes_61 (fun H locs hV => ?_)
          refine lv_aload_n hx hb dX10_comes_64 rfl (lv_at hl 2 rfl) ?_
          refine G_X10_missed cx hV mk_6_110 dX10_comes_65 ?_
          refine lv_aload_n hx hb dX10_comes_68 rfl (lv_at hl 2 rfl) ?_
          refine G_X10_looker cx hV mk_6_109 dX10_comes_69 ?_
          refine lv_bipush (v := 6) hx hb dX10_comes_72 (by decide) ?_
          refine lv_iload_n hx hb dX10_comes_74 rfl (lv_at hl 3 rfl) ?_
          refine lv_imul hx hb dX10_comes_75 ?_
          refine lv_iconst (v := 1) hx hb dX10_comes_76 (by decide) ?_
          refine lv_iadd hx hb dX10_comes_77 ?_
          refine bd_e h (fun v18 hq h => ?_)
          refine R_M_iald cx hV (by decide) hq dX10_comes_78 ?_
          refine bd_e h (fun v19 hq h => ?_)
          refine R_M_iald cx hV (by decide) hq dX10_comes_79 ?_
          refine lv_icmp_lt (tgt := 220) hx hb dX10_comes_80 (by decide) (fun hc => ?_) (fun hc => ?_)
          · have h := ifp hc h
            refine lv_iinc (v := (u6 + 1)) (lv' := [(8, .int (u6 + 1)), (7, .int (u5 + 1)), (9, .int v15), (0, .ref (eA E 0)), (1, .int p1), (2, .int p2), (3, .int p3), (4, .int v1), (5, .int u3), (6, .int u4)]) hx hb dX10_comes_220 hl (k := 9) rfl rfl (by decide) rfl (fun ls hl => ?_)
            refine lv_goto (tgt := 27) hx hb dX10_comes_223 (by decide) ?_
            cases h
            exact hT1 rfl _ _ _ hV (lv_sub hl [3, 4, 5, 6, 7, 8, 9, 1, 0] rfl)
          · have h := ifn hc h
            refine lv_aload_n hx hb dX10_comes_83 rfl (lv_at hl 2 rfl) ?_
            refine G_X10_sleeve cx hV mk_6_108 dX10_comes_84 ?_
            refine lv_iconst (v := 3) hx hb dX10_comes_87 (by decide) ?_
            refine lv_iload hx hb dX10_comes_88 (lv_at hl 1 rfl) ?_
            refine lv_imul hx hb dX10_comes_90 ?_
            refine lv_iconst (v := 2) hx hb dX10_comes_91 (by decide) ?_
            refine lv_iadd hx hb dX10_comes_92 ?_
            refine bd_e h (fun v20 hq h => ?_)
            refine R_M_iald cx hV (by decide) hq dX10_comes_93 ?_
            refine lv_aload_n hx hb dX10_comes_94 rfl (lv_at hl 2 rfl) ?_
            refine G_X10_looker cx hV mk_6_109 dX10_comes_95 ?_
            refine lv_bipush (v := 6) hx hb dX10_comes_98 (by decide) ?_
            refine lv_iload_n hx hb dX10_comes_100 rfl (lv_at hl 3 rfl) ?_
            refine lv_imul hx hb dX10_comes_101 ?_
            refine lv_iconst (v := 2) hx hb dX10_comes_102 (by decide) ?_
            refine lv_iadd hx hb dX10_comes_103 ?_
            refine bd_e h (fun v21 hq h => ?_)
            refine R_M_iald cx hV (by decide) hq dX10_comes_104 ?_
            refine lv_icmp_ge (tgt := 111) hx hb dX10_comes_105 (by decide) (fun hc => ?_) (fun hc => ?_)
            · have h := ifp hc h
              refine lv_iinc (v := (u3 + 1)) (lv' := [(5, .int (u3 + 1)), (7, .int (u5 + 1)), (9, .int v15), (0, .ref (eA E 0)), (1, .int p1), (2, .int p2), (3, .int p3), (4, .int v1), (6, .int u4), (8, .int u6)]) hx hb dX10_comes_111 hl (k := 7) rfl rfl (by decide) rfl (fun ls hl => ?_)
              refine lv_aload_n hx hb dX10_comes_114 rfl (lv_at hl 3 rfl) ?_
              refine G_X10_sleeve cx hV mk_6_108 dX10_comes_115 ?_
              refine lv_iconst (v := 3) hx hb dX10_comes_118 (by decide) ?_
              refine lv_iload hx hb dX10_comes_119 (lv_at hl 2 rfl) ?_
              refine lv_imul hx hb dX10_comes_121 ?_
              refine lv_iconst (v := 1) hx hb dX10_comes_122 (by decide) ?_
              refine lv_iadd hx hb dX10_comes_123 ?_
              refine bd_e h (fun v22 hq h => ?_)
              refine R_M_iald cx hV (by decide) hq dX10_comes_124 ?_
              refine lv_istore (lv' := [(10, .int v22), (5, .int (u3 + 1)), (7, .int (u5 + 1)), (9, .int v15), (0, .ref (eA E 0)), (1, .int p1), (2, .int p2), (3, .int p3), (4, .int v1), (6, .int u4), (8, .int u6)]) hx hb dX10_comes_125 hl (by decide) rfl (fun ls hl => ?_)
              refine lv_iload hx hb dX10_comes_127 (lv_at hl 0 rfl) ?_
              refine lv_aload_n hx hb dX10_comes_129 rfl (lv_at hl 4 rfl) ?_
              refine G_X10_looker cx hV mk_6_109 dX10_comes_130 ?_
              refine lv_bipush (v := 6) hx hb dX10_comes_133 (by decide) ?_
              refine lv_iload_n hx hb dX10_comes_135 rfl (lv_at hl 5 rfl) ?_
              refine lv_imul hx hb dX10_comes_136 ?_
              refine lv_iconst (v := 3) hx hb dX10_comes_137 (by decide) ?_
              refine lv_iadd hx hb dX10_comes_138 ?_
              refine bd_e h (fun v23 hq h => ?_)
              refine R_M_iald cx hV (by decide) hq dX10_comes_139 ?_
              refine lv_icmp_gt (tgt := 208) hx hb dX10_comes_140 (by decide) (fun hc => ?_) (fun hc => ?_)
              · have h := ifp hc h
                exact hj27_208 (u3 + 1) u4 (u5 + 1) u6 v15 σ17 _ _ _ h hV (lv_sub hl [4, 5, 6, 7, 8, 1, 9, 2, 10, 3] rfl)
              · have h := ifn hc h
                refine lv_iload hx hb dX10_comes_143 (lv_at hl 0 rfl) ?_
                refine lv_aload_n hx hb dX10_comes_145 rfl (lv_at hl 4 rfl) ?_
                refine G_X10_money cx hV mk_6_134 dX10_comes_146 ?_
                refine lv_iload_n hx hb dX10_comes_149 rfl (lv_at hl 5 rfl) ?_
                refine bd_e h (fun v24 hq h => ?_)
                refine R_M_iald cx hV (by decide) hq dX10_comes_150 ?_
                refine lv_icmp_gt (tgt := 208) hx hb dX10_comes_151 (by decide) (fun hc => ?_) (fun hc => ?_)
                · have h := ifp hc h
                  exact hj27_208 (u3 + 1) u4 (u5 + 1) u6 v15 σ17 _ _ _ h hV (lv_sub hl [4, 5, 6, 7, 8, 1, 9, 2, 10, 3] rfl)
                · have h := ifn hc h
                  refine lv_aload_n hx hb dX10_comes_154 rfl (lv_at hl 4 rfl) ?_
                  refine G_X10_money cx hV mk_6_134 dX10_comes_155 ?_
                  refine lv_iload_n hx hb dX10_comes_158 rfl (lv_at hl 5 rfl) ?_
                  refine lv_dup2_11 hx hb dX10_comes_159 rfl rfl ?_
                  refine bd_e h (fun v25 hq h => ?_)
                  refine R_M_iald cx hV (by decide) hq dX10_comes_160 ?_
                  refine lv_iload hx hb dX10_comes_161 (lv_at hl 0 rfl) ?_
                  refine lv_isub hx hb dX10_comes_163 ?_
                  refine bd_e h (fun σ26 hq h => ?_)
                  refine R_M_iast cx hV (by decide) hq dX10_comes_164 (fun H locs hV => ?_)
                  refine lv_aload_n hx hb dX10_comes_165 rfl (lv_at hl 4 rfl) ?_
                  refine G_X10_paid cx hV mk_6_136 dX10_comes_166 ?_
                  refine lv_iload_n hx hb dX10_comes_169 rfl (lv_at hl 5 rfl) ?_
                  refine lv_dup2_11 hx hb dX10_comes_170 rfl rfl ?_
                  refine bd_e h (fun v27 hq h => ?_)
                  refine R_M_iald cx hV (by decide) hq dX10_comes_171 ?_
                  refine lv_iload hx hb dX10_comes_172 (lv_at hl 0 rfl) ?_
                  refine lv_iadd hx hb dX10_comes_174 ?_
                  refine bd_e h (fun σ28 hq h => ?_)
                  refine R_M_iast cx hV (by decide) hq dX10_comes_175 (fun H locs hV => ?_)
                  refine lv_aload_n hx hb dX10_comes_176 rfl (lv_at hl 4 rfl) ?_
                  refine G_X10_bought cx hV mk_6_135 dX10_comes_177 ?_
                  refine lv_iload_n hx hb dX10_comes_180 rfl (lv_at hl 5 rfl) ?_
                  refine lv_dup2_11 hx hb dX10_comes_181 rfl rfl ?_
                  refine bd_e h (fun v29 hq h => ?_)
                  refine R_M_iald cx hV (by decide) hq dX10_comes_182 ?_
                  refine lv_iconst (v := 1) hx hb dX10_comes_183 (by decide) ?_
                  refine lv_iadd hx hb dX10_comes_184 ?_
                  refine bd_e h (fun σ30 hq h => ?_)
                  refine R_M_iast cx hV (by decide) hq dX10_comes_185 (fun H locs hV => ?_)
                  refine lv_aload_n hx hb dX10_comes_186 rfl (lv_at hl 4 rfl) ?_
                  refine lv_dup hx hb dX10_comes_187 rfl ?_
                  refine G_X10_soldNow cx hV mk_6_145 dX10_comes_188 ?_
                  refine lv_iconst (v := 1) hx hb dX10_comes_191 (by decide) ?_
                  refine lv_iadd hx hb dX10_comes_192 ?_
                  refine bd_e h (fun σ31 hq h => ?_)
                  refine P_X10_soldNow cx hV hq mk_6_145 dX10_comes_193 (fun H locs hV => ?_)
                  refine lv_aload_n hx hb dX10_comes_196 rfl (lv_at hl 4 rfl) ?_
                  refine lv_iload hx hb dX10_comes_197 (lv_at hl 3 rfl) ?_
                  refine bd_e h (fun σ32 hq h => ?_)
                  refine k_X10_goesOut hq cx hV mk_7_192 ⟨Nat.le_of_ble_eq_true rfl, Nat.le_of_ble_eq_true rfl⟩ ⟨Nat.zero_le _, Nat.zero_le _⟩ hl.1 (Nat.le_of_ble_eq_true rfl) dX10_comes_199 (fun H locs hV => ?_)
                  refine lv_iinc (v := ((u5 + 1) + (-1))) (lv' := [(7, .int ((u5 + 1) + (-1))), (10, .int v22), (5, .int (u3 + 1)), (9, .int v15), (0, .ref (eA E 0)), (1, .int p1), (2, .int p2), (3, .int p3), (4, .int v1), (6, .int u4), (8, .int u6)]) hx hb dX10_comes_202 hl (k := 2) rfl rfl (by decide) rfl (fun ls hl => ?_)
                  refine lv_goto (tgt := 220) hx hb dX10_comes_205 (by decide) ?_
                  refine lv_iinc (v := (u6 + 1)) (lv' := [(8, .int (u6 + 1)), (7, .int ((u5 + 1) + (-1))), (10, .int v22), (5, .int (u3 + 1)), (9, .int v15), (0, .ref (eA E 0)), (1, .int p1), (2, .int p2), (3, .int p3), (4, .int v1), (6, .int u4)]) hx hb dX10_comes_220 hl (k := 10) rfl rfl (by decide) rfl (fun ls hl => ?_)
                  refine lv_goto (tgt := 27) hx hb dX10_comes_223 (by decide) ?_
                  cases h
                  exact hT1 rfl _ _ _ hV (lv_sub hl [5, 6, 7, 8, 9, 3, 10, 1, 0] rfl)
            · have h := ifn hc h
              refine lv_goto (tgt := 220) hx hb dX10_comes_108 (by decide) ?_
              refine lv_iinc (v := (u6 + 1)) (lv' := [(8, .int (u6 + 1)), (7, .int (u5 + 1)), (9, .int v15), (0, .ref (eA E 0)), (1, .int p1), (2, .int p2), (3, .int p3), (4, .int v1), (5, .int u3), (6, .int u4)]) hx hb dX10_comes_220 hl (k := 9) rfl rfl (by decide) rfl (fun ls hl => ?_)
              refine lv_goto (tgt := 27) hx hb dX10_comes_223 (by decide) ?_
              cases h
              exact hT1 rfl _ _ _ hV (lv_sub hl [3, 4, 5, 6, 7, 8, 9, 1, 0] rfl)
    · have hV : AtW E (wM E σ37 ++ X) A s H locs := hV
      have hl : lv_has ls 11 [(0, .ref (eA E 0)), (1, .int p1), (2, .int p2), (3, .int p3), (4, .int v1), (5, .int z33), (6, .int z34)] := hl
      refine lv_iconst (v := 0) hx hb dX10_comes_226 (by decide) ?_
      refine lv_istore (lv' := [(8, .int 0), (0, .ref (eA E 0)), (1, .int p1), (2, .int p2), (3, .int p3), (4, .int v1), (5, .int z33), (6, .int z34)]) hx hb dX10_comes_227 hl (by decide) rfl (fun ls hl => ?_)
      refine bd2_e h (fun z47 σ48 ho h => ?_)
      refine (lp_rule (G := (fun v : (Int32 × St) => ∀ (H : Heap) (locs : List Loc) (ls : Array Slot), AtW E (wM E v.2 ++ X) A s H locs → lv_has ls 11 [(0, .ref (eA E 0)), (1, .int p1), (2, .int p2), (3, .int p3), (4, .int v1), (5, .int z33), (6, .int z34), (8, .int v.1)] → W p l e rm_X10_comes s m a below meth c H locs 0 0 QQ (F0 m 229 ls []))) (K := (fun v : (Int32 × St) => ∀ (H : Heap) (locs : List Loc) (ls : Array Slot), AtW E (wM E v.2 ++ X) A s H locs → lv_has ls 11 [(0, .ref (eA E 0)), (1, .int p1), (3, .int p3), (4, .int v1), (5, .int z33)] → W p l e rm_X10_comes s m a below meth c H locs 0 0 QQ (F0 m 280 ls []))) (fun v b1 y1 h hT1 hF1 => ?_) ho (fun H locs ls hV hl => ?_)) _ _ _ hV (lv_sub hl [1, 2, 3, 4, 5, 6, 7, 0] rfl)
      · obtain ⟨u38, σ39⟩ := v
        have h : x_X10_comes_L229 p1 p2 p3 v1 z33 z34 u38 σ39 = some (b1, y1) := h
        intro H locs ls hV hl
        have hV : AtW E (wM E σ39 ++ X) A s H locs := hV
        have hl : lv_has ls 11 [(0, .ref (eA E 0)), (1, .int p1), (2, .int p2), (3, .int p3), (4, .int v1), (5, .int z33), (6, .int z34), (8, .int u38)] := hl
        unfold x_X10_comes_L229 at h
        refine lv_iload hx hb dX10_comes_229 (lv_at hl 7 rfl) ?_
        refine lv_iload hx hb dX10_comes_231 (lv_at hl 6 rfl) ?_
        refine lv_icmp_ge (tgt := 280) hx hb dX10_comes_233 (by decide) (fun hc => ?_) (fun hc => ?_)
        · have h := ifp hc h
          cases h
          exact hF1 rfl _ _ _ hV (lv_sub hl [0, 1, 3, 4, 5] rfl)
        · have h := ifn hc h
          refine lv_aload_n hx hb dX10_comes_236 rfl (lv_at hl 0 rfl) ?_
          refine lv_iload_n hx hb dX10_comes_237 rfl (lv_at hl 2 rfl) ?_
          refine lv_aload_n hx hb dX10_comes_238 rfl (lv_at hl 0 rfl) ?_
          refine G_X10_heldUp cx hV mk_6_140 dX10_comes_239 ?_
          refine lv_iload hx hb dX10_comes_242 (lv_at hl 7 rfl) ?_
          refine bd_e h (fun v40 hq h => ?_)
          refine R_M_iald cx hV (by decide) hq dX10_comes_244 ?_
          refine bd2_e h (fun v41 σ42 hq h => ?_)
          refine k_X10_putFrom hq cx hV mk_8_1 ⟨Nat.le_of_ble_eq_true rfl, Nat.le_of_ble_eq_true rfl⟩ ⟨Nat.zero_le _, Nat.zero_le _⟩ hl.1 (Nat.le_of_ble_eq_true rfl) dX10_comes_245 (fun H locs hV => ?_)
          refine lv_istore (lv' := [(9, .int v41), (0, .ref (eA E 0)), (1, .int p1), (2, .int p2), (3, .int p3), (4, .int v1), (5, .int z33), (6, .int z34), (8, .int u38)]) hx hb dX10_comes_248 hl (by decide) rfl (fun ls hl => ?_)
          refine lv_aload_n hx hb dX10_comes_250 rfl (lv_at hl 1 rfl) ?_
          refine lv_aload_n hx hb dX10_comes_251 rfl (lv_at hl 1 rfl) ?_
          refine G_X10_heldUp cx hV mk_6_140 dX10_comes_252 ?_
          refine lv_iload hx hb dX10_comes_255 (lv_at hl 8 rfl) ?_
          refine bd_e h (fun v43 hq h => ?_)
          refine R_M_iald cx hV (by decide) hq dX10_comes_257 ?_
          refine bd_e h (fun σ44 hq h => ?_)
          refine k_X10_goesOut hq cx hV mk_7_192 ⟨Nat.le_of_ble_eq_true rfl, Nat.le_of_ble_eq_true rfl⟩ ⟨Nat.zero_le _, Nat.zero_le _⟩ hl.1 (Nat.le_of_ble_eq_true rfl) dX10_comes_258 (fun H locs hV => ?_)
          refine lv_aload_n hx hb dX10_comes_261 rfl (lv_at hl 1 rfl) ?_
          refine lv_iload hx hb dX10_comes_262 (lv_at hl 0 rfl) ?_
          refine lv_aload_n hx hb dX10_comes_264 rfl (lv_at hl 1 rfl) ?_
          refine G_X10_heldUp cx hV mk_6_140 dX10_comes_265 ?_
          refine lv_iload hx hb dX10_comes_268 (lv_at hl 8 rfl) ?_
          refine bd_e h (fun v45 hq h => ?_)
          refine R_M_iald cx hV (by decide) hq dX10_comes_270 ?_
          refine bd_e h (fun σ46 hq h => ?_)
          refine k_X10_comesTo hq cx hV mk_6_93 ⟨Nat.le_of_ble_eq_true rfl, Nat.le_of_ble_eq_true rfl⟩ ⟨Nat.zero_le _, Nat.zero_le _⟩ hl.1 (Nat.le_of_ble_eq_true rfl) dX10_comes_271 (fun H locs hV => ?_)
          refine lv_iinc (v := (u38 + 1)) (lv' := [(8, .int (u38 + 1)), (9, .int v41), (0, .ref (eA E 0)), (1, .int p1), (2, .int p2), (3, .int p3), (4, .int v1), (5, .int z33), (6, .int z34)]) hx hb dX10_comes_274 hl (k := 8) rfl rfl (by decide) rfl (fun ls hl => ?_)
          refine lv_goto (tgt := 229) hx hb dX10_comes_277 (by decide) ?_
          cases h
          exact hT1 rfl _ _ _ hV (lv_sub hl [2, 3, 4, 5, 6, 7, 8, 0] rfl)
      · have hV : AtW E (wM E σ48 ++ X) A s H locs := hV
        have hl : lv_has ls 11 [(0, .ref (eA E 0)), (1, .int p1), (3, .int p3), (4, .int v1), (5, .int z33)] := hl
        refine lv_aload_n hx hb dX10_comes_280 rfl (lv_at hl 0 rfl) ?_
        refine lv_dup hx hb dX10_comes_281 rfl ?_
        refine G_X10_heldNow cx hV mk_6_146 dX10_comes_282 ?_
        refine lv_iload hx hb dX10_comes_285 (lv_at hl 4 rfl) ?_
        refine lv_iadd hx hb dX10_comes_287 ?_
        refine bd_e h (fun σ49 hq h => ?_)
        refine P_X10_heldNow cx hV hq mk_6_146 dX10_comes_288 (fun H locs hV => ?_)
        refine lv_aload_n hx hb dX10_comes_291 rfl (lv_at hl 0 rfl) ?_
        refine G_X10_looker cx hV mk_6_109 dX10_comes_292 ?_
        refine lv_bipush (v := 6) hx hb dX10_comes_295 (by decide) ?_
        refine lv_iload_n hx hb dX10_comes_297 rfl (lv_at hl 1 rfl) ?_
        refine lv_imul hx hb dX10_comes_298 ?_
        refine lv_iconst (v := 1) hx hb dX10_comes_299 (by decide) ?_
        refine lv_iadd hx hb dX10_comes_300 ?_
        refine bd_e h (fun v50 hq h => ?_)
        refine R_M_iald cx hV (by decide) hq dX10_comes_301 ?_
        refine lv_istore (lv' := [(8, .int v50), (0, .ref (eA E 0)), (1, .int p1), (3, .int p3), (4, .int v1), (5, .int z33)]) hx hb dX10_comes_302 hl (by decide) rfl (fun ls hl => ?_)
        refine lv_aload_n hx hb dX10_comes_304 rfl (lv_at hl 1 rfl) ?_
        refine G_X10_done cx hV mk_6_133 dX10_comes_305 ?_
        refine lv_iload_n hx hb dX10_comes_308 rfl (lv_at hl 2 rfl) ?_
        refine lv_iload_n hx hb dX10_comes_309 rfl (lv_at hl 3 rfl) ?_
        refine lv_iload hx hb dX10_comes_310 (lv_at hl 4 rfl) ?_
        refine lv_iload hx hb dX10_comes_312 (lv_at hl 0 rfl) ?_
        refine lv_iadd hx hb dX10_comes_314 ?_
        refine lv_iconst (v := 1) hx hb dX10_comes_315 (by decide) ?_
        refine lv_isub hx hb dX10_comes_316 ?_
        refine lv_iload hx hb dX10_comes_317 (lv_at hl 0 rfl) ?_
        refine bd_e h (fun v51 hq h => ?_)
        obtain ⟨hne, hq⟩ := dvI_e hq
        refine lv_idiv hx hb dX10_comes_319 hne ?_
        rw [hq]
        refine lv_iadd hx hb dX10_comes_320 ?_
        refine lv_aload_n hx hb dX10_comes_321 rfl (lv_at hl 1 rfl) ?_
        refine G_X10_stop cx hV mk_6_124 dX10_comes_322 ?_
        refine lv_iload hx hb dX10_comes_325 (lv_at hl 5 rfl) ?_
        refine lv_imul hx hb dX10_comes_327 ?_
        refine lv_iadd hx hb dX10_comes_328 ?_
        refine bd_e h (fun σ52 hq h => ?_)
        refine R_M_iast cx hV (by decide) hq dX10_comes_329 (fun H locs hV => ?_)
        have h1 := Option.some.inj h
        subst h1
        subst hQ
        exact r_vret cx hr hlk hV dX10_comes_330
  rw [hH, hlocs] at goal
  exact goal
theorem k_X10_comes {p : Program} {l : Launch} {e : Env} {R : Room} {s : State} {m : MethodId} {a : Array Value} {below : List Frame} {meth : Method} {c : Code} {H : Heap} {locs : List Loc} {cells slots : Nat} {Q : State → Prop} {cc : ByteArray} {own : String} {nL pc : Nat} {ls : Array Slot} {rest : List Value} {A : Nat → Prop} {E : EV} {X : va_W} {σ : St} {p1 : Int32} {p2 : Int32} {p3 : Int32} {σf : St} (h : x_X10_comes p1 p2 p3 σ = some σf) (cx : CallFix p m c cc nL s a TBL own) (hV : AtW E (wM E σ ++ X) A s H locs) {idx : Nat} (w1 : Cond.methodLink own idx yX10_comes ∈ TBL) (hR : (rm_X10_comes).frames + 1 ≤ R.frames ∧ 8 + (11 + 11) + (rm_X10_comes).locals ≤ R.locals) (hcs : cells ≤ R.cells ∧ slots ≤ R.slots) (hls : ls.size = nL) (hcat : (rest.map fun v => v.category).sum ≤ 8) (d : decode cc pc = .ok (.invokevirtual idx, 3)) (kk : ∀ (H1 : Heap) (locs1 : List Loc), AtW E (wM E σf ++ X) A s H1 locs1 → W p l e R s m a below meth c H1 locs1 cells slots Q (F0 m (pc + 3) ls (rest))) : W p l e R s m a below meth c H locs cells slots Q (F0 m pc ls (.int p3 :: .int p2 :: .int p1 :: .ref (eA E 0) :: rest)) :=
  r_callv (n := 3) (As := [.int p1, .int p2, .int p3]) (q0 := 0) (ci := 10) (qq := (RX10, TX10, 64)) (c_X10_comes h) wM_fst rfl rfl mk_7_234 mk_P_88 mk_1_11 mk_7_235 (by decide +kernel) rfl ⟨rfl, rfl⟩ cx hV w1 hR hcs hls rfl hcat d kk
def x_X10_nextOf_b21 (w1 : Int32) (w2 : Int32) (σ : St) : Option Int32 :=
  bd (x_X10_within (w1 + w2) 0 ((gI σ 8) - 1)) fun v3 =>
  (if v3 = 0 then
  some (-1)
  else
  some (w1 + w2))
def x_X10_nextOf (p1 : Int32) (σ : St) : Option Int32 :=
  bd (ldI (gA σ 19) (lenM 19) p1) fun v4 =>
  bd (ldI (gA σ 26) (lenM 26) p1) fun v5 =>
  (if v5 = 1 then
  x_X10_nextOf_b21 v4 (-1) σ
  else
  x_X10_nextOf_b21 v4 1 σ)
abbrev rm_X10_nextOf : Room := { frames := 1, cells := 0, slots := 0, locals := 22 }
set_option maxHeartbeats 4000000 in
set_option maxRecDepth 100000 in
theorem c_X10_nextOf {l : Launch} {E : EV} {X : va_W} {σ : St} {p1 : Int32} {rv : Int32} (h : x_X10_nextOf p1 σ = some rv) : CM l yX10_nextOf cX10_nextOf 3 (some .int) rm_X10_nextOf [.ref (eA E 0), .int p1] E (wM E σ ++ X) (wM E σ ++ X) (qI rv) := by
  refine CM.start (by decide) (Nat.le_of_ble_eq_true rfl) (fun p e s m a below meth c A ls cx hr hlk hV hl => ?_)
  have cx : CallFix p m c cX10_nextOf 3 s a TBL RX10 := cx
  have hx := cx.1
  have hb := cx.2.1
  have hl : lv_has ls 3 [(0, .ref (eA E 0)), (1, .int p1)] := hl
  generalize hQ : EQ E (wM E σ ++ X) (qI rv) A s a below = QQ
  obtain ⟨H, hH⟩ : ∃ H, H = s.heap := ⟨_, rfl⟩
  obtain ⟨locs, hlocs⟩ : ∃ z, z = ([] : List Loc) := ⟨_, rfl⟩
  have hV : AtW E (wM E σ ++ X) A s H locs := by rw [hH, hlocs]; exact hV
  have goal : W p l e rm_X10_nextOf s m a below meth c H locs 0 0 QQ (F0 m 0 ls []) := by
    unfold x_X10_nextOf at h
    have hj21 : ∀ (w1 : Int32) (w2 : Int32) (H : Heap) (locs : List Loc) (ls : Array Slot), x_X10_nextOf_b21 w1 w2 σ = some rv → AtW E (wM E σ ++ X) A s H locs → lv_has ls 3 [(0, .ref (eA E 0))] → W p l e rm_X10_nextOf s m a below meth c H locs 0 0 QQ (F0 m 21 ls [.int w2, .int w1]) := by
      intro w1 w2 H locs ls h hV hl
      unfold x_X10_nextOf_b21 at h
      refine lv_iadd hx hb dX10_nextOf_21 ?_
      refine lv_istore_n (lv' := [(2, .int (w1 + w2)), (0, .ref (eA E 0))]) hx hb dX10_nextOf_22 rfl hl (by decide) rfl (fun ls hl => ?_)
      refine lv_iload_n hx hb dX10_nextOf_23 rfl (lv_at hl 0 rfl) ?_
      refine lv_iconst (v := 0) hx hb dX10_nextOf_24 (by decide) ?_
      refine lv_aload_n hx hb dX10_nextOf_25 rfl (lv_at hl 1 rfl) ?_
      refine G_X10_crates cx hV mk_6_121 dX10_nextOf_26 ?_
      refine lv_iconst (v := 1) hx hb dX10_nextOf_29 (by decide) ?_
      refine lv_isub hx hb dX10_nextOf_30 ?_
      refine bd_e h (fun v3 hq h => ?_)
      refine k_X10_within hq cx hV mk_7_141 ⟨Nat.le_of_ble_eq_true rfl, Nat.le_of_ble_eq_true rfl⟩ ⟨Nat.zero_le _, Nat.zero_le _⟩ hl.1 (Nat.le_of_ble_eq_true rfl) dX10_nextOf_31 (fun H locs hV => ?_)
      refine lv_if_eq (tgt := 41) hx hb dX10_nextOf_34 (by decide) (fun hc => ?_) (fun hc => ?_)
      · have h := ifp hc h
        refine lv_iconst (v := (-1)) hx hb dX10_nextOf_41 (by decide) ?_
        have h1 := Option.some.inj h
        subst h1
        subst hQ
        exact r_ireti cx hr hlk hV dX10_nextOf_42
      · have h := ifn hc h
        refine lv_iload_n hx hb dX10_nextOf_37 rfl (lv_at hl 0 rfl) ?_
        refine lv_goto (tgt := 42) hx hb dX10_nextOf_38 (by decide) ?_
        have h1 := Option.some.inj h
        subst h1
        subst hQ
        exact r_ireti cx hr hlk hV dX10_nextOf_42
    refine lv_aload_n hx hb dX10_nextOf_0 rfl (lv_at hl 0 rfl) ?_
    refine G_X10_stands cx hV mk_6_132 dX10_nextOf_1 ?_
    refine lv_iload_n hx hb dX10_nextOf_4 rfl (lv_at hl 1 rfl) ?_
    refine bd_e h (fun v4 hq h => ?_)
    refine R_M_iald cx hV (by decide) hq dX10_nextOf_5 ?_
    refine lv_aload_n hx hb dX10_nextOf_6 rfl (lv_at hl 0 rfl) ?_
    refine G_X10_toLeft cx hV mk_6_139 dX10_nextOf_7 ?_
    refine lv_iload_n hx hb dX10_nextOf_10 rfl (lv_at hl 1 rfl) ?_
    refine bd_e h (fun v5 hq h => ?_)
    refine R_M_iald cx hV (by decide) hq dX10_nextOf_11 ?_
    refine lv_iconst (v := 1) hx hb dX10_nextOf_12 (by decide) ?_
    refine lv_icmp_ne (tgt := 20) hx hb dX10_nextOf_13 (by decide) (fun hc => ?_) (fun hc => ?_)
    · have h := ifn hc h
      refine lv_iconst (v := 1) hx hb dX10_nextOf_20 (by decide) ?_
      exact hj21 v4 1 _ _ _ h hV (lv_sub hl [0] rfl)
    · have h := ifp hc h
      refine lv_iconst (v := (-1)) hx hb dX10_nextOf_16 (by decide) ?_
      refine lv_goto (tgt := 21) hx hb dX10_nextOf_17 (by decide) ?_
      exact hj21 v4 (-1) _ _ _ h hV (lv_sub hl [0] rfl)
  rw [hH, hlocs] at goal
  exact goal
theorem k_X10_nextOf {p : Program} {l : Launch} {e : Env} {R : Room} {s : State} {m : MethodId} {a : Array Value} {below : List Frame} {meth : Method} {c : Code} {H : Heap} {locs : List Loc} {cells slots : Nat} {Q : State → Prop} {cc : ByteArray} {own : String} {nL pc : Nat} {ls : Array Slot} {rest : List Value} {A : Nat → Prop} {E : EV} {X : va_W} {σ : St} {p1 : Int32} {rv : Int32} (h : x_X10_nextOf p1 σ = some rv) (cx : CallFix p m c cc nL s a TBL own) (hV : AtW E (wM E σ ++ X) A s H locs) {idx : Nat} (w1 : Cond.methodLink own idx yX10_nextOf ∈ TBL) (hR : (rm_X10_nextOf).frames + 1 ≤ R.frames ∧ 8 + (3 + 11) + (rm_X10_nextOf).locals ≤ R.locals) (hcs : cells ≤ R.cells ∧ slots ≤ R.slots) (hls : ls.size = nL) (hcat : (rest.map fun v => v.category).sum ≤ 8) (d : decode cc pc = .ok (.invokevirtual idx, 3)) (kk : ∀ (H1 : Heap) (locs1 : List Loc), AtW E (wM E σ ++ X) A s H1 locs1 → W p l e R s m a below meth c H1 locs1 cells slots Q (F0 m (pc + 3) ls (.int rv :: rest))) : W p l e R s m a below meth c H locs cells slots Q (F0 m pc ls (.int p1 :: .ref (eA E 0) :: rest)) :=
  r_calli (n := 1) (As := [.int p1]) (q0 := 0) (ci := 10) (qq := (RX10, TX10, 64)) (c_X10_nextOf h) rfl rfl rfl mk_8_11 mk_P_92 mk_1_11 mk_8_12 (by decide +kernel) rfl ⟨rfl, rfl⟩ cx hV w1 hR hcs hls rfl hcat d kk
def x_X10_whoAt_L2 (p1 : Int32) (σ : St) (u1 : Int32) : Option ((Bool × Int32) ⊕ Int32) :=
  (if (gI σ 10) ≤ u1 then
  some (.inl (false, u1))
  else
  bd (ldI (gA σ 19) (lenM 19) u1) fun v2 =>
  (if v2 = p1 then
  some (.inr u1)
  else
  some (.inl (true, (u1 + 1)))))
def x_X10_whoAt (p1 : Int32) (σ : St) : Option Int32 :=
  bs (lpr (fun v : Int32 => x_X10_whoAt_L2 p1 σ v) FU 0) (fun z3 =>
  some (-1)) some
abbrev rm_X10_whoAt : Room := { frames := 0, cells := 0, slots := 0, locals := 0 }
set_option maxHeartbeats 4000000 in
set_option maxRecDepth 100000 in
theorem c_X10_whoAt {l : Launch} {E : EV} {X : va_W} {σ : St} {p1 : Int32} {rv : Int32} (h : x_X10_whoAt p1 σ = some rv) : CM l yX10_whoAt cX10_whoAt 3 (some .int) rm_X10_whoAt [.ref (eA E 0), .int p1] E (wM E σ ++ X) (wM E σ ++ X) (qI rv) := by
  refine CM.start (by decide) (Nat.le_of_ble_eq_true rfl) (fun p e s m a below meth c A ls cx hr hlk hV hl => ?_)
  have cx : CallFix p m c cX10_whoAt 3 s a TBL RX10 := cx
  have hx := cx.1
  have hb := cx.2.1
  have hl : lv_has ls 3 [(0, .ref (eA E 0)), (1, .int p1)] := hl
  generalize hQ : EQ E (wM E σ ++ X) (qI rv) A s a below = QQ
  obtain ⟨H, hH⟩ : ∃ H, H = s.heap := ⟨_, rfl⟩
  obtain ⟨locs, hlocs⟩ : ∃ z, z = ([] : List Loc) := ⟨_, rfl⟩
  have hV : AtW E (wM E σ ++ X) A s H locs := by rw [hH, hlocs]; exact hV
  have goal : W p l e rm_X10_whoAt s m a below meth c H locs 0 0 QQ (F0 m 0 ls []) := by
    unfold x_X10_whoAt at h
    refine lv_iconst (v := 0) hx hb dX10_whoAt_0 (by decide) ?_
    refine lv_istore_n (lv' := [(2, .int 0), (0, .ref (eA E 0)), (1, .int p1)]) hx hb dX10_whoAt_1 rfl hl (by decide) rfl (fun ls hl => ?_)
    obtain ⟨o1, ho⟩ := bs_get h
    rw [ho] at h
    refine (lpr_rule (G := (fun v : Int32 => ∀ (H : Heap) (locs : List Loc) (ls : Array Slot), AtW E (wM E σ ++ X) A s H locs → lv_has ls 3 [(0, .ref (eA E 0)), (1, .int p1), (2, .int v)] → W p l e rm_X10_whoAt s m a below meth c H locs 0 0 QQ (F0 m 2 ls []))) (K := (fun v : Int32 => ∀ (H : Heap) (locs : List Loc) (ls : Array Slot), AtW E (wM E σ ++ X) A s H locs → lv_has ls 3 [] → W p l e rm_X10_whoAt s m a below meth c H locs 0 0 QQ (F0 m 28 ls []))) (KR := (fun r => some r = some rv)) (fun v e1 h hT1 hF1 hR1 => ?_) ho (fun v hv => ?_) (fun r hv => ?_)) _ _ _ hV (lv_sub hl [1, 2, 0] rfl)
    · obtain ⟨u1, rfl⟩ : ∃ z, z = v := ⟨_, rfl⟩
      have h : x_X10_whoAt_L2 p1 σ u1 = some e1 := h
      intro H locs ls hV hl
      have hV : AtW E (wM E σ ++ X) A s H locs := hV
      have hl : lv_has ls 3 [(0, .ref (eA E 0)), (1, .int p1), (2, .int u1)] := hl
      unfold x_X10_whoAt_L2 at h
      refine lv_iload_n hx hb dX10_whoAt_2 rfl (lv_at hl 2 rfl) ?_
      refine lv_aload_n hx hb dX10_whoAt_3 rfl (lv_at hl 0 rfl) ?_
      refine G_X10_lookers cx hV mk_6_123 dX10_whoAt_4 ?_
      refine lv_icmp_ge (tgt := 28) hx hb dX10_whoAt_7 (by decide) (fun hc => ?_) (fun hc => ?_)
      · have h := ifp hc h
        cases h
        exact hF1 _ rfl _ _ _ hV (lv_sub hl [] rfl)
      · have h := ifn hc h
        refine lv_aload_n hx hb dX10_whoAt_10 rfl (lv_at hl 0 rfl) ?_
        refine G_X10_stands cx hV mk_6_132 dX10_whoAt_11 ?_
        refine lv_iload_n hx hb dX10_whoAt_14 rfl (lv_at hl 2 rfl) ?_
        refine bd_e h (fun v2 hq h => ?_)
        refine R_M_iald cx hV (by decide) hq dX10_whoAt_15 ?_
        refine lv_iload_n hx hb dX10_whoAt_16 rfl (lv_at hl 1 rfl) ?_
        refine lv_icmp_ne (tgt := 22) hx hb dX10_whoAt_17 (by decide) (fun hc => ?_) (fun hc => ?_)
        · have h := ifn hc h
          refine lv_iinc (v := (u1 + 1)) (lv' := [(2, .int (u1 + 1)), (0, .ref (eA E 0)), (1, .int p1)]) hx hb dX10_whoAt_22 hl (k := 2) rfl rfl (by decide) rfl (fun ls hl => ?_)
          refine lv_goto (tgt := 2) hx hb dX10_whoAt_25 (by decide) ?_
          cases h
          exact hT1 _ rfl _ _ _ hV (lv_sub hl [1, 2, 0] rfl)
        · have h := ifp hc h
          refine lv_iload_n hx hb dX10_whoAt_20 rfl (lv_at hl 2 rfl) ?_
          cases h
          have h := hR1 _ rfl
          cases h
          subst hQ
          exact r_ireti cx hr hlk hV dX10_whoAt_21
    · subst hv
      obtain ⟨z3, rfl⟩ : ∃ z, z = v := ⟨_, rfl⟩
      intro H locs ls hV hl
      have hV : AtW E (wM E σ ++ X) A s H locs := hV
      have hl : lv_has ls 3 [] := hl
      have h := bs_inl h
      refine lv_iconst (v := (-1)) hx hb dX10_whoAt_28 (by decide) ?_
      have h1 := Option.some.inj h
      subst h1
      subst hQ
      exact r_ireti cx hr hlk hV dX10_whoAt_29
    · subst hv
      exact bs_inr h
  rw [hH, hlocs] at goal
  exact goal
theorem k_X10_whoAt {p : Program} {l : Launch} {e : Env} {R : Room} {s : State} {m : MethodId} {a : Array Value} {below : List Frame} {meth : Method} {c : Code} {H : Heap} {locs : List Loc} {cells slots : Nat} {Q : State → Prop} {cc : ByteArray} {own : String} {nL pc : Nat} {ls : Array Slot} {rest : List Value} {A : Nat → Prop} {E : EV} {X : va_W} {σ : St} {p1 : Int32} {rv : Int32} (h : x_X10_whoAt p1 σ = some rv) (cx : CallFix p m c cc nL s a TBL own) (hV : AtW E (wM E σ ++ X) A s H locs) {idx : Nat} (w1 : Cond.methodLink own idx yX10_whoAt ∈ TBL) (hR : (rm_X10_whoAt).frames + 1 ≤ R.frames ∧ 8 + (3 + 11) + (rm_X10_whoAt).locals ≤ R.locals) (hcs : cells ≤ R.cells ∧ slots ≤ R.slots) (hls : ls.size = nL) (hcat : (rest.map fun v => v.category).sum ≤ 8) (d : decode cc pc = .ok (.invokevirtual idx, 3)) (kk : ∀ (H1 : Heap) (locs1 : List Loc), AtW E (wM E σ ++ X) A s H1 locs1 → W p l e R s m a below meth c H1 locs1 cells slots Q (F0 m (pc + 3) ls (.int rv :: rest))) : W p l e R s m a below meth c H locs cells slots Q (F0 m pc ls (.int p1 :: .ref (eA E 0) :: rest)) :=
  r_calli (n := 1) (As := [.int p1]) (q0 := 0) (ci := 10) (qq := (RX10, TX10, 64)) (c_X10_whoAt h) rfl rfl rfl mk_7_230 mk_P_87 mk_1_11 mk_7_231 (by decide +kernel) rfl ⟨rfl, rfl⟩ cx hV w1 hR hcs hls rfl hcat d kk
def x_X10_acts_b201 (w1 : Int32) (σ2 : St) : Option St :=
  bd (ldI (gA σ2 24) (lenM 24) w1) fun v3 =>
  bd (stI σ2 24 (lenM 24) w1 (v3 + 1)) fun σ4 =>
  some σ4
def x_X10_acts_b56 (w5 : Int32) (w6 : Int32) (w7 : Int32) (σ8 : St) : Option St :=
  bd (x_X10_whoAt w7 σ8) fun v9 =>
  (if v9 = (-1) then
  bd (x_X10_comes w5 w7 w6 σ8) fun σ12 =>
  some σ12
  else
  bd (ldI (gA σ8 24) (lenM 24) w5) fun v10 =>
  bd (stI σ8 24 (lenM 24) w5 (v10 + 1)) fun σ11 =>
  some σ11)
def x_X10_acts (p1 : Int32) (p2 : Int32) (σ : St) : Option St :=
  bd (ldI (gA σ 19) (lenM 19) p1) fun v13 =>
  (if v13 = (-2) then
  some σ
  else
  bd (ldI (gA σ 19) (lenM 19) p1) fun v14 =>
  (if v14 = (-1) then
  bd (ldI (gA σ 4) (lenM 4) (6 * p1)) fun v27 =>
  (if v27 ≤ p2 then
  bd (ldI (gA σ 26) (lenM 26) p1) fun v28 =>
  (if v28 = 1 then
  x_X10_acts_b56 p1 p2 ((gI σ 8) - 1) σ
  else
  x_X10_acts_b56 p1 p2 0 σ)
  else
  some σ)
  else
  bd (ldI (gA σ 20) (lenM 20) p1) fun v15 =>
  (if v15 ≤ p2 then
  bd (x_X10_nextOf p1 σ) fun v16 =>
  (if v16 = (-1) then
  bd (stI σ 19 (lenM 19) p1 (-2)) fun σ25 =>
  bd (stI σ25 25 (lenM 25) p1 p2) fun σ26 =>
  some σ26
  else
  bd (x_X10_whoAt v16 σ) fun v17 =>
  (if v17 = (-1) then
  bd (x_X10_comes p1 v16 p2 σ) fun σ24 =>
  some σ24
  else
  bd (ldI (gA σ 20) (lenM 20) v17) fun v18 =>
  (if p2 < v18 then
  x_X10_acts_b201 p1 σ
  else
  bd (x_X10_nextOf v17 σ) fun v19 =>
  bd (ldI (gA σ 19) (lenM 19) p1) fun v20 =>
  (if v19 = v20 then
  bd (ldI (gA σ 19) (lenM 19) p1) fun v21 =>
  bd (x_X10_comes p1 v16 p2 σ) fun σ22 =>
  bd (x_X10_comes v17 v21 p2 σ22) fun σ23 =>
  some σ23
  else
  x_X10_acts_b201 p1 σ))))
  else
  some σ)))
abbrev rm_X10_acts : Room := { frames := 4, cells := 0, slots := 0, locals := 100 }
set_option maxHeartbeats 4000000 in
set_option maxRecDepth 100000 in
theorem c_X10_acts {l : Launch} {E : EV} {X : va_W} {σ : St} {p1 : Int32} {p2 : Int32} {σf : St} (h : x_X10_acts p1 p2 σ = some σf) : CM l yX10_acts cX10_acts 6 none rm_X10_acts [.ref (eA E 0), .int p1, .int p2] E (wM E σ ++ X) (wM E σf ++ X) qV := by
  refine CM.start (by decide) (Nat.le_of_ble_eq_true rfl) (fun p e s m a below meth c A ls cx hr hlk hV hl => ?_)
  have cx : CallFix p m c cX10_acts 6 s a TBL RX10 := cx
  have hx := cx.1
  have hb := cx.2.1
  have hl : lv_has ls 6 [(0, .ref (eA E 0)), (1, .int p1), (2, .int p2)] := hl
  generalize hQ : EQ E (wM E σf ++ X) qV A s a below = QQ
  obtain ⟨H, hH⟩ : ∃ H, H = s.heap := ⟨_, rfl⟩
  obtain ⟨locs, hlocs⟩ : ∃ z, z = ([] : List Loc) := ⟨_, rfl⟩
  have hV : AtW E (wM E σ ++ X) A s H locs := by rw [hH, hlocs]; exact hV
  have goal : W p l e rm_X10_acts s m a below meth c H locs 0 0 QQ (F0 m 0 ls []) := by
    unfold x_X10_acts at h
    have hj201 : ∀ (w1 : Int32) (σ2 : St) (H : Heap) (locs : List Loc) (ls : Array Slot), x_X10_acts_b201 w1 σ2 = some σf → AtW E (wM E σ2 ++ X) A s H locs → lv_has ls 6 [(0, .ref (eA E 0)), (1, .int w1)] → W p l e rm_X10_acts s m a below meth c H locs 0 0 QQ (F0 m 201 ls []) := by
      intro w1 σ2 H locs ls h hV hl
      unfold x_X10_acts_b201 at h
      refine lv_aload_n hx hb dX10_acts_201 rfl (lv_at hl 0 rfl) ?_
      refine G_X10_waited cx hV mk_6_137 dX10_acts_202 ?_
      refine lv_iload_n hx hb dX10_acts_205 rfl (lv_at hl 1 rfl) ?_
      refine lv_dup2_11 hx hb dX10_acts_206 rfl rfl ?_
      refine bd_e h (fun v3 hq h => ?_)
      refine R_M_iald cx hV (by decide) hq dX10_acts_207 ?_
      refine lv_iconst (v := 1) hx hb dX10_acts_208 (by decide) ?_
      refine lv_iadd hx hb dX10_acts_209 ?_
      refine bd_e h (fun σ4 hq h => ?_)
      refine R_M_iast cx hV (by decide) hq dX10_acts_210 (fun H locs hV => ?_)
      have h1 := Option.some.inj h
      subst h1
      subst hQ
      exact r_vret cx hr hlk hV dX10_acts_211
    have hj56 : ∀ (w5 : Int32) (w6 : Int32) (w7 : Int32) (σ8 : St) (H : Heap) (locs : List Loc) (ls : Array Slot), x_X10_acts_b56 w5 w6 w7 σ8 = some σf → AtW E (wM E σ8 ++ X) A s H locs → lv_has ls 6 [(0, .ref (eA E 0)), (1, .int w5), (2, .int w6)] → W p l e rm_X10_acts s m a below meth c H locs 0 0 QQ (F0 m 56 ls [.int w7]) := by
      intro w5 w6 w7 σ8 H locs ls h hV hl
      unfold x_X10_acts_b56 at h
      refine lv_istore_n (lv' := [(3, .int w7), (0, .ref (eA E 0)), (1, .int w5), (2, .int w6)]) hx hb dX10_acts_56 rfl hl (by decide) rfl (fun ls hl => ?_)
      refine lv_aload_n hx hb dX10_acts_57 rfl (lv_at hl 1 rfl) ?_
      refine lv_iload_n hx hb dX10_acts_58 rfl (lv_at hl 0 rfl) ?_
      refine bd_e h (fun v9 hq h => ?_)
      refine k_X10_whoAt hq cx hV mk_7_228 ⟨Nat.le_of_ble_eq_true rfl, Nat.le_of_ble_eq_true rfl⟩ ⟨Nat.zero_le _, Nat.zero_le _⟩ hl.1 (Nat.le_of_ble_eq_true rfl) dX10_acts_59 (fun H locs hV => ?_)
      refine lv_iconst (v := (-1)) hx hb dX10_acts_62 (by decide) ?_
      refine lv_icmp_ne (tgt := 76) hx hb dX10_acts_63 (by decide) (fun hc => ?_) (fun hc => ?_)
      · have h := ifn hc h
        refine lv_aload_n hx hb dX10_acts_76 rfl (lv_at hl 1 rfl) ?_
        refine G_X10_waited cx hV mk_6_137 dX10_acts_77 ?_
        refine lv_iload_n hx hb dX10_acts_80 rfl (lv_at hl 2 rfl) ?_
        refine lv_dup2_11 hx hb dX10_acts_81 rfl rfl ?_
        refine bd_e h (fun v10 hq h => ?_)
        refine R_M_iald cx hV (by decide) hq dX10_acts_82 ?_
        refine lv_iconst (v := 1) hx hb dX10_acts_83 (by decide) ?_
        refine lv_iadd hx hb dX10_acts_84 ?_
        refine bd_e h (fun σ11 hq h => ?_)
        refine R_M_iast cx hV (by decide) hq dX10_acts_85 (fun H locs hV => ?_)
        have h1 := Option.some.inj h
        subst h1
        subst hQ
        exact r_vret cx hr hlk hV dX10_acts_86
      · have h := ifp hc h
        refine lv_aload_n hx hb dX10_acts_66 rfl (lv_at hl 1 rfl) ?_
        refine lv_iload_n hx hb dX10_acts_67 rfl (lv_at hl 2 rfl) ?_
        refine lv_iload_n hx hb dX10_acts_68 rfl (lv_at hl 0 rfl) ?_
        refine lv_iload_n hx hb dX10_acts_69 rfl (lv_at hl 3 rfl) ?_
        refine bd_e h (fun σ12 hq h => ?_)
        refine k_X10_comes hq cx hV mk_7_232 ⟨Nat.le_of_ble_eq_true rfl, Nat.le_of_ble_eq_true rfl⟩ ⟨Nat.zero_le _, Nat.zero_le _⟩ hl.1 (Nat.le_of_ble_eq_true rfl) dX10_acts_70 (fun H locs hV => ?_)
        refine lv_goto (tgt := 86) hx hb dX10_acts_73 (by decide) ?_
        have h1 := Option.some.inj h
        subst h1
        subst hQ
        exact r_vret cx hr hlk hV dX10_acts_86
    refine lv_aload_n hx hb dX10_acts_0 rfl (lv_at hl 0 rfl) ?_
    refine G_X10_stands cx hV mk_6_132 dX10_acts_1 ?_
    refine lv_iload_n hx hb dX10_acts_4 rfl (lv_at hl 1 rfl) ?_
    refine bd_e h (fun v13 hq h => ?_)
    refine R_M_iald cx hV (by decide) hq dX10_acts_5 ?_
    refine lv_bipush (v := (-2)) hx hb dX10_acts_6 (by decide) ?_
    refine lv_icmp_ne (tgt := 12) hx hb dX10_acts_8 (by decide) (fun hc => ?_) (fun hc => ?_)
    · have h := ifn hc h
      refine lv_aload_n hx hb dX10_acts_12 rfl (lv_at hl 0 rfl) ?_
      refine G_X10_stands cx hV mk_6_132 dX10_acts_13 ?_
      refine lv_iload_n hx hb dX10_acts_16 rfl (lv_at hl 1 rfl) ?_
      refine bd_e h (fun v14 hq h => ?_)
      refine R_M_iald cx hV (by decide) hq dX10_acts_17 ?_
      refine lv_iconst (v := (-1)) hx hb dX10_acts_18 (by decide) ?_
      refine lv_icmp_ne (tgt := 87) hx hb dX10_acts_19 (by decide) (fun hc => ?_) (fun hc => ?_)
      · have h := ifn hc h
        refine lv_aload_n hx hb dX10_acts_87 rfl (lv_at hl 0 rfl) ?_
        refine G_X10_done cx hV mk_6_133 dX10_acts_88 ?_
        refine lv_iload_n hx hb dX10_acts_91 rfl (lv_at hl 1 rfl) ?_
        refine bd_e h (fun v15 hq h => ?_)
        refine R_M_iald cx hV (by decide) hq dX10_acts_92 ?_
        refine lv_iload_n hx hb dX10_acts_93 rfl (lv_at hl 2 rfl) ?_
        refine lv_icmp_le (tgt := 98) hx hb dX10_acts_94 (by decide) (fun hc => ?_) (fun hc => ?_)
        · have h := ifp hc h
          refine lv_aload_n hx hb dX10_acts_98 rfl (lv_at hl 0 rfl) ?_
          refine lv_iload_n hx hb dX10_acts_99 rfl (lv_at hl 1 rfl) ?_
          refine bd_e h (fun v16 hq h => ?_)
          refine k_X10_nextOf hq cx hV mk_8_9 ⟨Nat.le_of_ble_eq_true rfl, Nat.le_of_ble_eq_true rfl⟩ ⟨Nat.zero_le _, Nat.zero_le _⟩ hl.1 (Nat.le_of_ble_eq_true rfl) dX10_acts_100 (fun H locs hV => ?_)
          refine lv_istore_n (lv' := [(3, .int v16), (0, .ref (eA E 0)), (1, .int p1), (2, .int p2)]) hx hb dX10_acts_103 rfl hl (by decide) rfl (fun ls hl => ?_)
          refine lv_iload_n hx hb dX10_acts_104 rfl (lv_at hl 0 rfl) ?_
          refine lv_iconst (v := (-1)) hx hb dX10_acts_105 (by decide) ?_
          refine lv_icmp_ne (tgt := 125) hx hb dX10_acts_106 (by decide) (fun hc => ?_) (fun hc => ?_)
          · have h := ifn hc h
            refine lv_aload_n hx hb dX10_acts_125 rfl (lv_at hl 1 rfl) ?_
            refine lv_iload_n hx hb dX10_acts_126 rfl (lv_at hl 0 rfl) ?_
            refine bd_e h (fun v17 hq h => ?_)
            refine k_X10_whoAt hq cx hV mk_7_228 ⟨Nat.le_of_ble_eq_true rfl, Nat.le_of_ble_eq_true rfl⟩ ⟨Nat.zero_le _, Nat.zero_le _⟩ hl.1 (Nat.le_of_ble_eq_true rfl) dX10_acts_127 (fun H locs hV => ?_)
            refine lv_istore (lv' := [(4, .int v17), (3, .int v16), (0, .ref (eA E 0)), (1, .int p1), (2, .int p2)]) hx hb dX10_acts_130 hl (by decide) rfl (fun ls hl => ?_)
            refine lv_iload hx hb dX10_acts_132 (lv_at hl 0 rfl) ?_
            refine lv_iconst (v := (-1)) hx hb dX10_acts_134 (by decide) ?_
            refine lv_icmp_ne (tgt := 148) hx hb dX10_acts_135 (by decide) (fun hc => ?_) (fun hc => ?_)
            · have h := ifn hc h
              refine lv_aload_n hx hb dX10_acts_148 rfl (lv_at hl 2 rfl) ?_
              refine G_X10_done cx hV mk_6_133 dX10_acts_149 ?_
              refine lv_iload hx hb dX10_acts_152 (lv_at hl 0 rfl) ?_
              refine bd_e h (fun v18 hq h => ?_)
              refine R_M_iald cx hV (by decide) hq dX10_acts_154 ?_
              refine lv_iload_n hx hb dX10_acts_155 rfl (lv_at hl 4 rfl) ?_
              refine lv_icmp_gt (tgt := 201) hx hb dX10_acts_156 (by decide) (fun hc => ?_) (fun hc => ?_)
              · have h := ifp hc h
                exact hj201 p1 σ _ _ _ h hV (lv_sub hl [2, 3] rfl)
              · have h := ifn hc h
                refine lv_aload_n hx hb dX10_acts_159 rfl (lv_at hl 2 rfl) ?_
                refine lv_iload hx hb dX10_acts_160 (lv_at hl 0 rfl) ?_
                refine bd_e h (fun v19 hq h => ?_)
                refine k_X10_nextOf hq cx hV mk_8_9 ⟨Nat.le_of_ble_eq_true rfl, Nat.le_of_ble_eq_true rfl⟩ ⟨Nat.zero_le _, Nat.zero_le _⟩ hl.1 (Nat.le_of_ble_eq_true rfl) dX10_acts_162 (fun H locs hV => ?_)
                refine lv_aload_n hx hb dX10_acts_165 rfl (lv_at hl 2 rfl) ?_
                refine G_X10_stands cx hV mk_6_132 dX10_acts_166 ?_
                refine lv_iload_n hx hb dX10_acts_169 rfl (lv_at hl 3 rfl) ?_
                refine bd_e h (fun v20 hq h => ?_)
                refine R_M_iald cx hV (by decide) hq dX10_acts_170 ?_
                refine lv_icmp_ne (tgt := 201) hx hb dX10_acts_171 (by decide) (fun hc => ?_) (fun hc => ?_)
                · have h := ifn hc h
                  exact hj201 p1 σ _ _ _ h hV (lv_sub hl [2, 3] rfl)
                · have h := ifp hc h
                  refine lv_aload_n hx hb dX10_acts_174 rfl (lv_at hl 2 rfl) ?_
                  refine G_X10_stands cx hV mk_6_132 dX10_acts_175 ?_
                  refine lv_iload_n hx hb dX10_acts_178 rfl (lv_at hl 3 rfl) ?_
                  refine bd_e h (fun v21 hq h => ?_)
                  refine R_M_iald cx hV (by decide) hq dX10_acts_179 ?_
                  refine lv_istore (lv' := [(5, .int v21), (4, .int v17), (3, .int v16), (0, .ref (eA E 0)), (1, .int p1), (2, .int p2)]) hx hb dX10_acts_180 hl (by decide) rfl (fun ls hl => ?_)
                  refine lv_aload_n hx hb dX10_acts_182 rfl (lv_at hl 3 rfl) ?_
                  refine lv_iload_n hx hb dX10_acts_183 rfl (lv_at hl 4 rfl) ?_
                  refine lv_iload_n hx hb dX10_acts_184 rfl (lv_at hl 2 rfl) ?_
                  refine lv_iload_n hx hb dX10_acts_185 rfl (lv_at hl 5 rfl) ?_
                  refine bd_e h (fun σ22 hq h => ?_)
                  refine k_X10_comes hq cx hV mk_7_232 ⟨Nat.le_of_ble_eq_true rfl, Nat.le_of_ble_eq_true rfl⟩ ⟨Nat.zero_le _, Nat.zero_le _⟩ hl.1 (Nat.le_of_ble_eq_true rfl) dX10_acts_186 (fun H locs hV => ?_)
                  refine lv_aload_n hx hb dX10_acts_189 rfl (lv_at hl 3 rfl) ?_
                  refine lv_iload hx hb dX10_acts_190 (lv_at hl 1 rfl) ?_
                  refine lv_iload hx hb dX10_acts_192 (lv_at hl 0 rfl) ?_
                  refine lv_iload_n hx hb dX10_acts_194 rfl (lv_at hl 5 rfl) ?_
                  refine bd_e h (fun σ23 hq h => ?_)
                  refine k_X10_comes hq cx hV mk_7_232 ⟨Nat.le_of_ble_eq_true rfl, Nat.le_of_ble_eq_true rfl⟩ ⟨Nat.zero_le _, Nat.zero_le _⟩ hl.1 (Nat.le_of_ble_eq_true rfl) dX10_acts_195 (fun H locs hV => ?_)
                  refine lv_goto (tgt := 211) hx hb dX10_acts_198 (by decide) ?_
                  have h1 := Option.some.inj h
                  subst h1
                  subst hQ
                  exact r_vret cx hr hlk hV dX10_acts_211
            · have h := ifp hc h
              refine lv_aload_n hx hb dX10_acts_138 rfl (lv_at hl 2 rfl) ?_
              refine lv_iload_n hx hb dX10_acts_139 rfl (lv_at hl 3 rfl) ?_
              refine lv_iload_n hx hb dX10_acts_140 rfl (lv_at hl 1 rfl) ?_
              refine lv_iload_n hx hb dX10_acts_141 rfl (lv_at hl 4 rfl) ?_
              refine bd_e h (fun σ24 hq h => ?_)
              refine k_X10_comes hq cx hV mk_7_232 ⟨Nat.le_of_ble_eq_true rfl, Nat.le_of_ble_eq_true rfl⟩ ⟨Nat.zero_le _, Nat.zero_le _⟩ hl.1 (Nat.le_of_ble_eq_true rfl) dX10_acts_142 (fun H locs hV => ?_)
              refine lv_goto (tgt := 211) hx hb dX10_acts_145 (by decide) ?_
              have h1 := Option.some.inj h
              subst h1
              subst hQ
              exact r_vret cx hr hlk hV dX10_acts_211
          · have h := ifp hc h
            refine lv_aload_n hx hb dX10_acts_109 rfl (lv_at hl 1 rfl) ?_
            refine G_X10_stands cx hV mk_6_132 dX10_acts_110 ?_
            refine lv_iload_n hx hb dX10_acts_113 rfl (lv_at hl 2 rfl) ?_
            refine lv_bipush (v := (-2)) hx hb dX10_acts_114 (by decide) ?_
            refine bd_e h (fun σ25 hq h => ?_)
            refine R_M_iast cx hV (by decide) hq dX10_acts_116 (fun H locs hV => ?_)
            refine lv_aload_n hx hb dX10_acts_117 rfl (lv_at hl 1 rfl) ?_
            refine G_X10_goneAt cx hV mk_6_138 dX10_acts_118 ?_
            refine lv_iload_n hx hb dX10_acts_121 rfl (lv_at hl 2 rfl) ?_
            refine lv_iload_n hx hb dX10_acts_122 rfl (lv_at hl 3 rfl) ?_
            refine bd_e h (fun σ26 hq h => ?_)
            refine R_M_iast cx hV (by decide) hq dX10_acts_123 (fun H locs hV => ?_)
            have h1 := Option.some.inj h
            subst h1
            subst hQ
            exact r_vret cx hr hlk hV dX10_acts_124
        · have h := ifn hc h
          have h1 := Option.some.inj h
          subst h1
          subst hQ
          exact r_vret cx hr hlk hV dX10_acts_97
      · have h := ifp hc h
        refine lv_aload_n hx hb dX10_acts_22 rfl (lv_at hl 0 rfl) ?_
        refine G_X10_looker cx hV mk_6_109 dX10_acts_23 ?_
        refine lv_bipush (v := 6) hx hb dX10_acts_26 (by decide) ?_
        refine lv_iload_n hx hb dX10_acts_28 rfl (lv_at hl 1 rfl) ?_
        refine lv_imul hx hb dX10_acts_29 ?_
        refine bd_e h (fun v27 hq h => ?_)
        refine R_M_iald cx hV (by decide) hq dX10_acts_30 ?_
        refine lv_iload_n hx hb dX10_acts_31 rfl (lv_at hl 2 rfl) ?_
        refine lv_icmp_le (tgt := 36) hx hb dX10_acts_32 (by decide) (fun hc => ?_) (fun hc => ?_)
        · have h := ifp hc h
          refine lv_aload_n hx hb dX10_acts_36 rfl (lv_at hl 0 rfl) ?_
          refine G_X10_toLeft cx hV mk_6_139 dX10_acts_37 ?_
          refine lv_iload_n hx hb dX10_acts_40 rfl (lv_at hl 1 rfl) ?_
          refine bd_e h (fun v28 hq h => ?_)
          refine R_M_iald cx hV (by decide) hq dX10_acts_41 ?_
          refine lv_iconst (v := 1) hx hb dX10_acts_42 (by decide) ?_
          refine lv_icmp_ne (tgt := 55) hx hb dX10_acts_43 (by decide) (fun hc => ?_) (fun hc => ?_)
          · have h := ifn hc h
            refine lv_iconst (v := 0) hx hb dX10_acts_55 (by decide) ?_
            exact hj56 p1 p2 0 σ _ _ _ h hV (lv_sub hl [0, 1, 2] rfl)
          · have h := ifp hc h
            refine lv_aload_n hx hb dX10_acts_46 rfl (lv_at hl 0 rfl) ?_
            refine G_X10_crates cx hV mk_6_121 dX10_acts_47 ?_
            refine lv_iconst (v := 1) hx hb dX10_acts_50 (by decide) ?_
            refine lv_isub hx hb dX10_acts_51 ?_
            refine lv_goto (tgt := 56) hx hb dX10_acts_52 (by decide) ?_
            exact hj56 p1 p2 ((gI σ 8) - 1) σ _ _ _ h hV (lv_sub hl [0, 1, 2] rfl)
        · have h := ifn hc h
          have h1 := Option.some.inj h
          subst h1
          subst hQ
          exact r_vret cx hr hlk hV dX10_acts_35
    · have h := ifp hc h
      have h1 := Option.some.inj h
      subst h1
      subst hQ
      exact r_vret cx hr hlk hV dX10_acts_11
  rw [hH, hlocs] at goal
  exact goal
theorem k_X10_acts {p : Program} {l : Launch} {e : Env} {R : Room} {s : State} {m : MethodId} {a : Array Value} {below : List Frame} {meth : Method} {c : Code} {H : Heap} {locs : List Loc} {cells slots : Nat} {Q : State → Prop} {cc : ByteArray} {own : String} {nL pc : Nat} {ls : Array Slot} {rest : List Value} {A : Nat → Prop} {E : EV} {X : va_W} {σ : St} {p1 : Int32} {p2 : Int32} {σf : St} (h : x_X10_acts p1 p2 σ = some σf) (cx : CallFix p m c cc nL s a TBL own) (hV : AtW E (wM E σ ++ X) A s H locs) {idx : Nat} (w1 : Cond.methodLink own idx yX10_acts ∈ TBL) (hR : (rm_X10_acts).frames + 1 ≤ R.frames ∧ 8 + (6 + 11) + (rm_X10_acts).locals ≤ R.locals) (hcs : cells ≤ R.cells ∧ slots ≤ R.slots) (hls : ls.size = nL) (hcat : (rest.map fun v => v.category).sum ≤ 8) (d : decode cc pc = .ok (.invokevirtual idx, 3)) (kk : ∀ (H1 : Heap) (locs1 : List Loc), AtW E (wM E σf ++ X) A s H1 locs1 → W p l e R s m a below meth c H1 locs1 cells slots Q (F0 m (pc + 3) ls (rest))) : W p l e R s m a below meth c H locs cells slots Q (F0 m pc ls (.int p2 :: .int p1 :: .ref (eA E 0) :: rest)) :=
  r_callv (n := 2) (As := [.int p1, .int p2]) (q0 := 0) (ci := 10) (qq := (RX10, TX10, 64)) (c_X10_acts h) wM_fst rfl rfl mk_7_226 mk_P_86 mk_1_11 mk_7_227 (by decide +kernel) rfl ⟨rfl, rfl⟩ cx hV w1 hR hcs hls rfl hcat d kk
def x_X10_goes_L17 (u4 : Int32) (σ5 : St) : Option (Bool × (Int32 × St)) :=
  (if (gI σ5 10) ≤ u4 then
  some (false, (u4, σ5))
  else
  bd (stI σ5 19 (lenM 19) u4 (-1)) fun σ6 =>
  bd (stI σ6 20 (lenM 20) u4 0) fun σ7 =>
  bd (ldI (gA σ7 4) (lenM 4) ((6 * u4) + 4)) fun v8 =>
  bd (stI σ7 21 (lenM 21) u4 v8) fun σ9 =>
  bd (stI σ9 22 (lenM 22) u4 0) fun σ10 =>
  bd (stI σ10 23 (lenM 23) u4 0) fun σ11 =>
  bd (stI σ11 24 (lenM 24) u4 0) fun σ12 =>
  bd (stI σ12 25 (lenM 25) u4 (-1)) fun σ13 =>
  some (true, ((u4 + 1), σ13)))
def x_X10_goes_L101 (u16 : Int32) (u18 : Int32) (σ19 : St) : Option (Bool × (Int32 × St)) :=
  (if (gI σ19 10) ≤ u18 then
  some (false, (u18, σ19))
  else
  bd (x_X10_acts u18 u16 σ19) fun σ20 =>
  some (true, ((u18 + 1), σ20)))
def x_X10_goes_L92 (u16 : Int32) (σ17 : St) : Option (Bool × (Int32 × St)) :=
  (if 3599 < u16 then
  some (false, (u16, σ17))
  else
  bd2 (lp (fun v : (Int32 × St) => x_X10_goes_L101 u16 v.1 v.2) FU (0, σ17)) fun z21 σ22 =>
  some (true, ((u16 + 1), σ22)))
def x_X10_goes (p1 : Int32) (σ : St) : Option St :=
  bd (some (sI σ 16 p1)) fun σ1 =>
  bd (some (sI σ1 17 0)) fun σ2 =>
  bd (some (sI σ2 18 0)) fun σ3 =>
  bd2 (lp (fun v : (Int32 × St) => x_X10_goes_L17 v.1 v.2) FU (0, σ3)) fun z14 σ15 =>
  bd2 (lp (fun v : (Int32 × St) => x_X10_goes_L92 v.1 v.2) FU (0, σ15)) fun z23 σ24 =>
  some σ24
abbrev rm_X10_goes : Room := { frames := 5, cells := 0, slots := 0, locals := 125 }
set_option maxHeartbeats 4000000 in
set_option maxRecDepth 100000 in
theorem c_X10_goes {l : Launch} {E : EV} {X : va_W} {σ : St} {p1 : Int32} {σf : St} (h : x_X10_goes p1 σ = some σf) : CM l yX10_goes cX10_goes 4 none rm_X10_goes [.ref (eA E 0), .int p1] E (wM E σ ++ X) (wM E σf ++ X) qV := by
  refine CM.start (by decide) (Nat.le_of_ble_eq_true rfl) (fun p e s m a below meth c A ls cx hr hlk hV hl => ?_)
  have cx : CallFix p m c cX10_goes 4 s a TBL RX10 := cx
  have hx := cx.1
  have hb := cx.2.1
  have hl : lv_has ls 4 [(0, .ref (eA E 0)), (1, .int p1)] := hl
  generalize hQ : EQ E (wM E σf ++ X) qV A s a below = QQ
  obtain ⟨H, hH⟩ : ∃ H, H = s.heap := ⟨_, rfl⟩
  obtain ⟨locs, hlocs⟩ : ∃ z, z = ([] : List Loc) := ⟨_, rfl⟩
  have hV : AtW E (wM E σ ++ X) A s H locs := by rw [hH, hlocs]; exact hV
  have goal : W p l e rm_X10_goes s m a below meth c H locs 0 0 QQ (F0 m 0 ls []) := by
    unfold x_X10_goes at h
    refine lv_aload_n hx hb dX10_goes_0 rfl (lv_at hl 0 rfl) ?_
    refine lv_iload_n hx hb dX10_goes_1 rfl (lv_at hl 1 rfl) ?_
    refine bd_e h (fun σ1 hq h => ?_)
    refine P_X10_seed cx hV hq mk_6_144 dX10_goes_2 (fun H locs hV => ?_)
    refine lv_aload_n hx hb dX10_goes_5 rfl (lv_at hl 0 rfl) ?_
    refine lv_iconst (v := 0) hx hb dX10_goes_6 (by decide) ?_
    refine bd_e h (fun σ2 hq h => ?_)
    refine P_X10_soldNow cx hV hq mk_6_145 dX10_goes_7 (fun H locs hV => ?_)
    refine lv_aload_n hx hb dX10_goes_10 rfl (lv_at hl 0 rfl) ?_
    refine lv_iconst (v := 0) hx hb dX10_goes_11 (by decide) ?_
    refine bd_e h (fun σ3 hq h => ?_)
    refine P_X10_heldNow cx hV hq mk_6_146 dX10_goes_12 (fun H locs hV => ?_)
    refine lv_iconst (v := 0) hx hb dX10_goes_15 (by decide) ?_
    refine lv_istore_n (lv' := [(2, .int 0), (0, .ref (eA E 0)), (1, .int p1)]) hx hb dX10_goes_16 rfl hl (by decide) rfl (fun ls hl => ?_)
    refine bd2_e h (fun z14 σ15 ho h => ?_)
    refine (lp_rule (G := (fun v : (Int32 × St) => ∀ (H : Heap) (locs : List Loc) (ls : Array Slot), AtW E (wM E v.2 ++ X) A s H locs → lv_has ls 4 [(0, .ref (eA E 0)), (2, .int v.1)] → W p l e rm_X10_goes s m a below meth c H locs 0 0 QQ (F0 m 17 ls []))) (K := (fun v : (Int32 × St) => ∀ (H : Heap) (locs : List Loc) (ls : Array Slot), AtW E (wM E v.2 ++ X) A s H locs → lv_has ls 4 [(0, .ref (eA E 0))] → W p l e rm_X10_goes s m a below meth c H locs 0 0 QQ (F0 m 90 ls []))) (fun v b1 y1 h hT1 hF1 => ?_) ho (fun H locs ls hV hl => ?_)) _ _ _ hV (lv_sub hl [1, 0] rfl)
    · obtain ⟨u4, σ5⟩ := v
      have h : x_X10_goes_L17 u4 σ5 = some (b1, y1) := h
      intro H locs ls hV hl
      have hV : AtW E (wM E σ5 ++ X) A s H locs := hV
      have hl : lv_has ls 4 [(0, .ref (eA E 0)), (2, .int u4)] := hl
      unfold x_X10_goes_L17 at h
      refine lv_iload_n hx hb dX10_goes_17 rfl (lv_at hl 1 rfl) ?_
      refine lv_aload_n hx hb dX10_goes_18 rfl (lv_at hl 0 rfl) ?_
      refine G_X10_lookers cx hV mk_6_123 dX10_goes_19 ?_
      refine lv_icmp_ge (tgt := 90) hx hb dX10_goes_22 (by decide) (fun hc => ?_) (fun hc => ?_)
      · have h := ifp hc h
        cases h
        exact hF1 rfl _ _ _ hV (lv_sub hl [0] rfl)
      · have h := ifn hc h
        refine lv_aload_n hx hb dX10_goes_25 rfl (lv_at hl 0 rfl) ?_
        refine G_X10_stands cx hV mk_6_132 dX10_goes_26 ?_
        refine lv_iload_n hx hb dX10_goes_29 rfl (lv_at hl 1 rfl) ?_
        refine lv_iconst (v := (-1)) hx hb dX10_goes_30 (by decide) ?_
        refine bd_e h (fun σ6 hq h => ?_)
        refine R_M_iast cx hV (by decide) hq dX10_goes_31 (fun H locs hV => ?_)
        refine lv_aload_n hx hb dX10_goes_32 rfl (lv_at hl 0 rfl) ?_
        refine G_X10_done cx hV mk_6_133 dX10_goes_33 ?_
        refine lv_iload_n hx hb dX10_goes_36 rfl (lv_at hl 1 rfl) ?_
        refine lv_iconst (v := 0) hx hb dX10_goes_37 (by decide) ?_
        refine bd_e h (fun σ7 hq h => ?_)
        refine R_M_iast cx hV (by decide) hq dX10_goes_38 (fun H locs hV => ?_)
        refine lv_aload_n hx hb dX10_goes_39 rfl (lv_at hl 0 rfl) ?_
        refine G_X10_money cx hV mk_6_134 dX10_goes_40 ?_
        refine lv_iload_n hx hb dX10_goes_43 rfl (lv_at hl 1 rfl) ?_
        refine lv_aload_n hx hb dX10_goes_44 rfl (lv_at hl 0 rfl) ?_
        refine G_X10_looker cx hV mk_6_109 dX10_goes_45 ?_
        refine lv_bipush (v := 6) hx hb dX10_goes_48 (by decide) ?_
        refine lv_iload_n hx hb dX10_goes_50 rfl (lv_at hl 1 rfl) ?_
        refine lv_imul hx hb dX10_goes_51 ?_
        refine lv_iconst (v := 4) hx hb dX10_goes_52 (by decide) ?_
        refine lv_iadd hx hb dX10_goes_53 ?_
        refine bd_e h (fun v8 hq h => ?_)
        refine R_M_iald cx hV (by decide) hq dX10_goes_54 ?_
        refine bd_e h (fun σ9 hq h => ?_)
        refine R_M_iast cx hV (by decide) hq dX10_goes_55 (fun H locs hV => ?_)
        refine lv_aload_n hx hb dX10_goes_56 rfl (lv_at hl 0 rfl) ?_
        refine G_X10_bought cx hV mk_6_135 dX10_goes_57 ?_
        refine lv_iload_n hx hb dX10_goes_60 rfl (lv_at hl 1 rfl) ?_
        refine lv_iconst (v := 0) hx hb dX10_goes_61 (by decide) ?_
        refine bd_e h (fun σ10 hq h => ?_)
        refine R_M_iast cx hV (by decide) hq dX10_goes_62 (fun H locs hV => ?_)
        refine lv_aload_n hx hb dX10_goes_63 rfl (lv_at hl 0 rfl) ?_
        refine G_X10_paid cx hV mk_6_136 dX10_goes_64 ?_
        refine lv_iload_n hx hb dX10_goes_67 rfl (lv_at hl 1 rfl) ?_
        refine lv_iconst (v := 0) hx hb dX10_goes_68 (by decide) ?_
        refine bd_e h (fun σ11 hq h => ?_)
        refine R_M_iast cx hV (by decide) hq dX10_goes_69 (fun H locs hV => ?_)
        refine lv_aload_n hx hb dX10_goes_70 rfl (lv_at hl 0 rfl) ?_
        refine G_X10_waited cx hV mk_6_137 dX10_goes_71 ?_
        refine lv_iload_n hx hb dX10_goes_74 rfl (lv_at hl 1 rfl) ?_
        refine lv_iconst (v := 0) hx hb dX10_goes_75 (by decide) ?_
        refine bd_e h (fun σ12 hq h => ?_)
        refine R_M_iast cx hV (by decide) hq dX10_goes_76 (fun H locs hV => ?_)
        refine lv_aload_n hx hb dX10_goes_77 rfl (lv_at hl 0 rfl) ?_
        refine G_X10_goneAt cx hV mk_6_138 dX10_goes_78 ?_
        refine lv_iload_n hx hb dX10_goes_81 rfl (lv_at hl 1 rfl) ?_
        refine lv_iconst (v := (-1)) hx hb dX10_goes_82 (by decide) ?_
        refine bd_e h (fun σ13 hq h => ?_)
        refine R_M_iast cx hV (by decide) hq dX10_goes_83 (fun H locs hV => ?_)
        refine lv_iinc (v := (u4 + 1)) (lv' := [(2, .int (u4 + 1)), (0, .ref (eA E 0))]) hx hb dX10_goes_84 hl (k := 1) rfl rfl (by decide) rfl (fun ls hl => ?_)
        refine lv_goto (tgt := 17) hx hb dX10_goes_87 (by decide) ?_
        cases h
        exact hT1 rfl _ _ _ hV (lv_sub hl [1, 0] rfl)
    · have hV : AtW E (wM E σ15 ++ X) A s H locs := hV
      have hl : lv_has ls 4 [(0, .ref (eA E 0))] := hl
      refine lv_iconst (v := 0) hx hb dX10_goes_90 (by decide) ?_
      refine lv_istore_n (lv' := [(2, .int 0), (0, .ref (eA E 0))]) hx hb dX10_goes_91 rfl hl (by decide) rfl (fun ls hl => ?_)
      refine bd2_e h (fun z23 σ24 ho h => ?_)
      refine (lp_rule (G := (fun v : (Int32 × St) => ∀ (H : Heap) (locs : List Loc) (ls : Array Slot), AtW E (wM E v.2 ++ X) A s H locs → lv_has ls 4 [(0, .ref (eA E 0)), (2, .int v.1)] → W p l e rm_X10_goes s m a below meth c H locs 0 0 QQ (F0 m 92 ls []))) (K := (fun v : (Int32 × St) => ∀ (H : Heap) (locs : List Loc) (ls : Array Slot), AtW E (wM E v.2 ++ X) A s H locs → lv_has ls 4 [] → W p l e rm_X10_goes s m a below meth c H locs 0 0 QQ (F0 m 127 ls []))) (fun v b1 y1 h hT1 hF1 => ?_) ho (fun H locs ls hV hl => ?_)) _ _ _ hV (lv_sub hl [1, 0] rfl)
      · obtain ⟨u16, σ17⟩ := v
        have h : x_X10_goes_L92 u16 σ17 = some (b1, y1) := h
        intro H locs ls hV hl
        have hV : AtW E (wM E σ17 ++ X) A s H locs := hV
        have hl : lv_has ls 4 [(0, .ref (eA E 0)), (2, .int u16)] := hl
        unfold x_X10_goes_L92 at h
        refine lv_iload_n hx hb dX10_goes_92 rfl (lv_at hl 1 rfl) ?_
        refine lv_sipush (v := 3599) hx hb dX10_goes_93 (by decide) ?_
        refine lv_icmp_gt (tgt := 127) hx hb dX10_goes_96 (by decide) (fun hc => ?_) (fun hc => ?_)
        · have h := ifp hc h
          cases h
          exact hF1 rfl _ _ _ hV (lv_sub hl [] rfl)
        · have h := ifn hc h
          refine lv_iconst (v := 0) hx hb dX10_goes_99 (by decide) ?_
          refine lv_istore_n (lv' := [(3, .int 0), (0, .ref (eA E 0)), (2, .int u16)]) hx hb dX10_goes_100 rfl hl (by decide) rfl (fun ls hl => ?_)
          refine bd2_e h (fun z21 σ22 ho h => ?_)
          refine (lp_rule (G := (fun v : (Int32 × St) => ∀ (H : Heap) (locs : List Loc) (ls : Array Slot), AtW E (wM E v.2 ++ X) A s H locs → lv_has ls 4 [(0, .ref (eA E 0)), (2, .int u16), (3, .int v.1)] → W p l e rm_X10_goes s m a below meth c H locs 0 0 QQ (F0 m 101 ls []))) (K := (fun v : (Int32 × St) => ∀ (H : Heap) (locs : List Loc) (ls : Array Slot), AtW E (wM E v.2 ++ X) A s H locs → lv_has ls 4 [(0, .ref (eA E 0)), (2, .int u16)] → W p l e rm_X10_goes s m a below meth c H locs 0 0 QQ (F0 m 121 ls []))) (fun v b2 y2 h hT2 hF2 => ?_) ho (fun H locs ls hV hl => ?_)) _ _ _ hV (lv_sub hl [1, 2, 0] rfl)
          · obtain ⟨u18, σ19⟩ := v
            have h : x_X10_goes_L101 u16 u18 σ19 = some (b2, y2) := h
            intro H locs ls hV hl
            have hV : AtW E (wM E σ19 ++ X) A s H locs := hV
            have hl : lv_has ls 4 [(0, .ref (eA E 0)), (2, .int u16), (3, .int u18)] := hl
            unfold x_X10_goes_L101 at h
            refine lv_iload_n hx hb dX10_goes_101 rfl (lv_at hl 2 rfl) ?_
            refine lv_aload_n hx hb dX10_goes_102 rfl (lv_at hl 0 rfl) ?_
            refine G_X10_lookers cx hV mk_6_123 dX10_goes_103 ?_
            refine lv_icmp_ge (tgt := 121) hx hb dX10_goes_106 (by decide) (fun hc => ?_) (fun hc => ?_)
            · have h := ifp hc h
              cases h
              exact hF2 rfl _ _ _ hV (lv_sub hl [0, 1] rfl)
            · have h := ifn hc h
              refine lv_aload_n hx hb dX10_goes_109 rfl (lv_at hl 0 rfl) ?_
              refine lv_iload_n hx hb dX10_goes_110 rfl (lv_at hl 2 rfl) ?_
              refine lv_iload_n hx hb dX10_goes_111 rfl (lv_at hl 1 rfl) ?_
              refine bd_e h (fun σ20 hq h => ?_)
              refine k_X10_acts hq cx hV mk_7_224 ⟨Nat.le_of_ble_eq_true rfl, Nat.le_of_ble_eq_true rfl⟩ ⟨Nat.zero_le _, Nat.zero_le _⟩ hl.1 (Nat.le_of_ble_eq_true rfl) dX10_goes_112 (fun H locs hV => ?_)
              refine lv_iinc (v := (u18 + 1)) (lv' := [(3, .int (u18 + 1)), (0, .ref (eA E 0)), (2, .int u16)]) hx hb dX10_goes_115 hl (k := 2) rfl rfl (by decide) rfl (fun ls hl => ?_)
              refine lv_goto (tgt := 101) hx hb dX10_goes_118 (by decide) ?_
              cases h
              exact hT2 rfl _ _ _ hV (lv_sub hl [1, 2, 0] rfl)
          · have hV : AtW E (wM E σ22 ++ X) A s H locs := hV
            have hl : lv_has ls 4 [(0, .ref (eA E 0)), (2, .int u16)] := hl
            refine lv_iinc (v := (u16 + 1)) (lv' := [(2, .int (u16 + 1)), (0, .ref (eA E 0))]) hx hb dX10_goes_121 hl (k := 1) rfl rfl (by decide) rfl (fun ls hl => ?_)
            refine lv_goto (tgt := 92) hx hb dX10_goes_124 (by decide) ?_
            cases h
            exact hT1 rfl _ _ _ hV (lv_sub hl [1, 0] rfl)
      · have hV : AtW E (wM E σ24 ++ X) A s H locs := hV
        have hl : lv_has ls 4 [] := hl
        have h1 := Option.some.inj h
        subst h1
        subst hQ
        exact r_vret cx hr hlk hV dX10_goes_127
  rw [hH, hlocs] at goal
  exact goal
theorem k_X10_goes {p : Program} {l : Launch} {e : Env} {R : Room} {s : State} {m : MethodId} {a : Array Value} {below : List Frame} {meth : Method} {c : Code} {H : Heap} {locs : List Loc} {cells slots : Nat} {Q : State → Prop} {cc : ByteArray} {own : String} {nL pc : Nat} {ls : Array Slot} {rest : List Value} {A : Nat → Prop} {E : EV} {X : va_W} {σ : St} {p1 : Int32} {σf : St} (h : x_X10_goes p1 σ = some σf) (cx : CallFix p m c cc nL s a TBL own) (hV : AtW E (wM E σ ++ X) A s H locs) {idx : Nat} (w1 : Cond.methodLink own idx yX10_goes ∈ TBL) (hR : (rm_X10_goes).frames + 1 ≤ R.frames ∧ 8 + (4 + 11) + (rm_X10_goes).locals ≤ R.locals) (hcs : cells ≤ R.cells ∧ slots ≤ R.slots) (hls : ls.size = nL) (hcat : (rest.map fun v => v.category).sum ≤ 8) (d : decode cc pc = .ok (.invokevirtual idx, 3)) (kk : ∀ (H1 : Heap) (locs1 : List Loc), AtW E (wM E σf ++ X) A s H1 locs1 → W p l e R s m a below meth c H1 locs1 cells slots Q (F0 m (pc + 3) ls (rest))) : W p l e R s m a below meth c H locs cells slots Q (F0 m pc ls (.int p1 :: .ref (eA E 0) :: rest)) :=
  r_callv (n := 1) (As := [.int p1]) (q0 := 0) (ci := 10) (qq := (RX10, TX10, 64)) (c_X10_goes h) wM_fst rfl rfl mk_7_222 mk_P_85 mk_1_11 mk_7_223 (by decide +kernel) rfl ⟨rfl, rfl⟩ cx hV w1 hR hcs hls rfl hcat d kk
def x_X10_asTold_L2 (u1 : Int32) (σ2 : St) : Option (Bool × (Int32 × St)) :=
  (if (gI σ2 10) ≤ u1 then
  some (false, (u1, σ2))
  else
  bd (ldI (gA σ2 4) (lenM 4) ((6 * u1) + 5)) fun v3 =>
  bd (stI σ2 26 (lenM 26) u1 v3) fun σ4 =>
  some (true, ((u1 + 1), σ4)))
def x_X10_asTold (σ : St) : Option St :=
  bd2 (lp (fun v : (Int32 × St) => x_X10_asTold_L2 v.1 v.2) FU (0, σ)) fun z5 σ6 =>
  some σ6
abbrev rm_X10_asTold : Room := { frames := 0, cells := 0, slots := 0, locals := 0 }
set_option maxHeartbeats 4000000 in
set_option maxRecDepth 100000 in
theorem c_X10_asTold {l : Launch} {E : EV} {X : va_W} {σ : St} {σf : St} (h : x_X10_asTold σ = some σf) : CM l yX10_asTold cX10_asTold 2 none rm_X10_asTold [.ref (eA E 0)] E (wM E σ ++ X) (wM E σf ++ X) qV := by
  refine CM.start (by decide) (Nat.le_of_ble_eq_true rfl) (fun p e s m a below meth c A ls cx hr hlk hV hl => ?_)
  have cx : CallFix p m c cX10_asTold 2 s a TBL RX10 := cx
  have hx := cx.1
  have hb := cx.2.1
  have hl : lv_has ls 2 [(0, .ref (eA E 0))] := hl
  generalize hQ : EQ E (wM E σf ++ X) qV A s a below = QQ
  obtain ⟨H, hH⟩ : ∃ H, H = s.heap := ⟨_, rfl⟩
  obtain ⟨locs, hlocs⟩ : ∃ z, z = ([] : List Loc) := ⟨_, rfl⟩
  have hV : AtW E (wM E σ ++ X) A s H locs := by rw [hH, hlocs]; exact hV
  have goal : W p l e rm_X10_asTold s m a below meth c H locs 0 0 QQ (F0 m 0 ls []) := by
    unfold x_X10_asTold at h
    refine lv_iconst (v := 0) hx hb dX10_asTold_0 (by decide) ?_
    refine lv_istore_n (lv' := [(1, .int 0), (0, .ref (eA E 0))]) hx hb dX10_asTold_1 rfl hl (by decide) rfl (fun ls hl => ?_)
    refine bd2_e h (fun z5 σ6 ho h => ?_)
    refine (lp_rule (G := (fun v : (Int32 × St) => ∀ (H : Heap) (locs : List Loc) (ls : Array Slot), AtW E (wM E v.2 ++ X) A s H locs → lv_has ls 2 [(0, .ref (eA E 0)), (1, .int v.1)] → W p l e rm_X10_asTold s m a below meth c H locs 0 0 QQ (F0 m 2 ls []))) (K := (fun v : (Int32 × St) => ∀ (H : Heap) (locs : List Loc) (ls : Array Slot), AtW E (wM E v.2 ++ X) A s H locs → lv_has ls 2 [] → W p l e rm_X10_asTold s m a below meth c H locs 0 0 QQ (F0 m 33 ls []))) (fun v b1 y1 h hT1 hF1 => ?_) ho (fun H locs ls hV hl => ?_)) _ _ _ hV (lv_sub hl [1, 0] rfl)
    · obtain ⟨u1, σ2⟩ := v
      have h : x_X10_asTold_L2 u1 σ2 = some (b1, y1) := h
      intro H locs ls hV hl
      have hV : AtW E (wM E σ2 ++ X) A s H locs := hV
      have hl : lv_has ls 2 [(0, .ref (eA E 0)), (1, .int u1)] := hl
      unfold x_X10_asTold_L2 at h
      refine lv_iload_n hx hb dX10_asTold_2 rfl (lv_at hl 1 rfl) ?_
      refine lv_aload_n hx hb dX10_asTold_3 rfl (lv_at hl 0 rfl) ?_
      refine G_X10_lookers cx hV mk_6_123 dX10_asTold_4 ?_
      refine lv_icmp_ge (tgt := 33) hx hb dX10_asTold_7 (by decide) (fun hc => ?_) (fun hc => ?_)
      · have h := ifp hc h
        cases h
        exact hF1 rfl _ _ _ hV (lv_sub hl [] rfl)
      · have h := ifn hc h
        refine lv_aload_n hx hb dX10_asTold_10 rfl (lv_at hl 0 rfl) ?_
        refine G_X10_toLeft cx hV mk_6_139 dX10_asTold_11 ?_
        refine lv_iload_n hx hb dX10_asTold_14 rfl (lv_at hl 1 rfl) ?_
        refine lv_aload_n hx hb dX10_asTold_15 rfl (lv_at hl 0 rfl) ?_
        refine G_X10_looker cx hV mk_6_109 dX10_asTold_16 ?_
        refine lv_bipush (v := 6) hx hb dX10_asTold_19 (by decide) ?_
        refine lv_iload_n hx hb dX10_asTold_21 rfl (lv_at hl 1 rfl) ?_
        refine lv_imul hx hb dX10_asTold_22 ?_
        refine lv_iconst (v := 5) hx hb dX10_asTold_23 (by decide) ?_
        refine lv_iadd hx hb dX10_asTold_24 ?_
        refine bd_e h (fun v3 hq h => ?_)
        refine R_M_iald cx hV (by decide) hq dX10_asTold_25 ?_
        refine bd_e h (fun σ4 hq h => ?_)
        refine R_M_iast cx hV (by decide) hq dX10_asTold_26 (fun H locs hV => ?_)
        refine lv_iinc (v := (u1 + 1)) (lv' := [(1, .int (u1 + 1)), (0, .ref (eA E 0))]) hx hb dX10_asTold_27 hl (k := 1) rfl rfl (by decide) rfl (fun ls hl => ?_)
        refine lv_goto (tgt := 2) hx hb dX10_asTold_30 (by decide) ?_
        cases h
        exact hT1 rfl _ _ _ hV (lv_sub hl [1, 0] rfl)
    · have hV : AtW E (wM E σ6 ++ X) A s H locs := hV
      have hl : lv_has ls 2 [] := hl
      have h1 := Option.some.inj h
      subst h1
      subst hQ
      exact r_vret cx hr hlk hV dX10_asTold_33
  rw [hH, hlocs] at goal
  exact goal
theorem k_X10_asTold {p : Program} {l : Launch} {e : Env} {R : Room} {s : State} {m : MethodId} {a : Array Value} {below : List Frame} {meth : Method} {c : Code} {H : Heap} {locs : List Loc} {cells slots : Nat} {Q : State → Prop} {cc : ByteArray} {own : String} {nL pc : Nat} {ls : Array Slot} {rest : List Value} {A : Nat → Prop} {E : EV} {X : va_W} {σ : St} {σf : St} (h : x_X10_asTold σ = some σf) (cx : CallFix p m c cc nL s a TBL own) (hV : AtW E (wM E σ ++ X) A s H locs) {idx : Nat} (w1 : Cond.methodLink own idx yX10_asTold ∈ TBL) (hR : (rm_X10_asTold).frames + 1 ≤ R.frames ∧ 8 + (2 + 11) + (rm_X10_asTold).locals ≤ R.locals) (hcs : cells ≤ R.cells ∧ slots ≤ R.slots) (hls : ls.size = nL) (hcat : (rest.map fun v => v.category).sum ≤ 8) (d : decode cc pc = .ok (.invokevirtual idx, 3)) (kk : ∀ (H1 : Heap) (locs1 : List Loc), AtW E (wM E σf ++ X) A s H1 locs1 → W p l e R s m a below meth c H1 locs1 cells slots Q (F0 m (pc + 3) ls (rest))) : W p l e R s m a below meth c H locs cells slots Q (F0 m pc ls (.ref (eA E 0) :: rest)) :=
  r_callv (n := 0) (As := []) (q0 := 0) (ci := 10) (qq := (RX10, TX10, 64)) (c_X10_asTold h) wM_fst rfl rfl mk_7_218 mk_P_84 mk_1_11 mk_7_219 (by decide +kernel) rfl ⟨rfl, rfl⟩ cx hV w1 hR hcs hls rfl hcat d kk
def x_X10_keeps_L2 (u1 : Int32) (σ2 : St) : Option (Bool × (Int32 × St)) :=
  (if 192 ≤ u1 then
  some (false, (u1, σ2))
  else
  bd (ldI (gA σ2 17) (lenM 17) u1) fun v3 =>
  bd (stI σ2 28 (lenM 28) u1 v3) fun σ4 =>
  some (true, ((u1 + 1), σ4)))
def x_X10_keeps_L29 (u7 : Int32) (σ8 : St) : Option (Bool × (Int32 × St)) :=
  (if 8 ≤ u7 then
  some (false, (u7, σ8))
  else
  bd (ldI (gA σ8 16) (lenM 16) u7) fun v9 =>
  bd (stI σ8 29 (lenM 29) u7 v9) fun σ10 =>
  some (true, ((u7 + 1), σ10)))
def x_X10_keeps_L55 (u13 : Int32) (σ14 : St) : Option (Bool × (Int32 × St)) :=
  (if 24 ≤ u13 then
  some (false, (u13, σ14))
  else
  bd (ldI (gA σ14 7) (lenM 7) u13) fun v15 =>
  bd (stI σ14 30 (lenM 30) u13 v15) fun σ16 =>
  some (true, ((u13 + 1), σ16)))
def x_X10_keeps (σ : St) : Option St :=
  bd2 (lp (fun v : (Int32 × St) => x_X10_keeps_L2 v.1 v.2) FU (0, σ)) fun z5 σ6 =>
  bd2 (lp (fun v : (Int32 × St) => x_X10_keeps_L29 v.1 v.2) FU (0, σ6)) fun z11 σ12 =>
  bd2 (lp (fun v : (Int32 × St) => x_X10_keeps_L55 v.1 v.2) FU (0, σ12)) fun z17 σ18 =>
  some σ18
abbrev rm_X10_keeps : Room := { frames := 0, cells := 0, slots := 0, locals := 0 }
set_option maxHeartbeats 4000000 in
set_option maxRecDepth 100000 in
theorem c_X10_keeps {l : Launch} {E : EV} {X : va_W} {σ : St} {σf : St} (h : x_X10_keeps σ = some σf) : CM l yX10_keeps cX10_keeps 2 none rm_X10_keeps [.ref (eA E 0)] E (wM E σ ++ X) (wM E σf ++ X) qV := by
  refine CM.start (by decide) (Nat.le_of_ble_eq_true rfl) (fun p e s m a below meth c A ls cx hr hlk hV hl => ?_)
  have cx : CallFix p m c cX10_keeps 2 s a TBL RX10 := cx
  have hx := cx.1
  have hb := cx.2.1
  have hl : lv_has ls 2 [(0, .ref (eA E 0))] := hl
  generalize hQ : EQ E (wM E σf ++ X) qV A s a below = QQ
  obtain ⟨H, hH⟩ : ∃ H, H = s.heap := ⟨_, rfl⟩
  obtain ⟨locs, hlocs⟩ : ∃ z, z = ([] : List Loc) := ⟨_, rfl⟩
  have hV : AtW E (wM E σ ++ X) A s H locs := by rw [hH, hlocs]; exact hV
  have goal : W p l e rm_X10_keeps s m a below meth c H locs 0 0 QQ (F0 m 0 ls []) := by
    unfold x_X10_keeps at h
    refine lv_iconst (v := 0) hx hb dX10_keeps_0 (by decide) ?_
    refine lv_istore_n (lv' := [(1, .int 0), (0, .ref (eA E 0))]) hx hb dX10_keeps_1 rfl hl (by decide) rfl (fun ls hl => ?_)
    refine bd2_e h (fun z5 σ6 ho h => ?_)
    refine (lp_rule (G := (fun v : (Int32 × St) => ∀ (H : Heap) (locs : List Loc) (ls : Array Slot), AtW E (wM E v.2 ++ X) A s H locs → lv_has ls 2 [(0, .ref (eA E 0)), (1, .int v.1)] → W p l e rm_X10_keeps s m a below meth c H locs 0 0 QQ (F0 m 2 ls []))) (K := (fun v : (Int32 × St) => ∀ (H : Heap) (locs : List Loc) (ls : Array Slot), AtW E (wM E v.2 ++ X) A s H locs → lv_has ls 2 [(0, .ref (eA E 0))] → W p l e rm_X10_keeps s m a below meth c H locs 0 0 QQ (F0 m 27 ls []))) (fun v b1 y1 h hT1 hF1 => ?_) ho (fun H locs ls hV hl => ?_)) _ _ _ hV (lv_sub hl [1, 0] rfl)
    · obtain ⟨u1, σ2⟩ := v
      have h : x_X10_keeps_L2 u1 σ2 = some (b1, y1) := h
      intro H locs ls hV hl
      have hV : AtW E (wM E σ2 ++ X) A s H locs := hV
      have hl : lv_has ls 2 [(0, .ref (eA E 0)), (1, .int u1)] := hl
      unfold x_X10_keeps_L2 at h
      refine lv_iload_n hx hb dX10_keeps_2 rfl (lv_at hl 1 rfl) ?_
      refine lv_sipush (v := 192) hx hb dX10_keeps_3 (by decide) ?_
      refine lv_icmp_ge (tgt := 27) hx hb dX10_keeps_6 (by decide) (fun hc => ?_) (fun hc => ?_)
      · have h := ifp hc h
        cases h
        exact hF1 rfl _ _ _ hV (lv_sub hl [0] rfl)
      · have h := ifn hc h
        refine lv_aload_n hx hb dX10_keeps_9 rfl (lv_at hl 0 rfl) ?_
        refine G_X10_keptRow cx hV mk_6_141 dX10_keeps_10 ?_
        refine lv_iload_n hx hb dX10_keeps_13 rfl (lv_at hl 1 rfl) ?_
        refine lv_aload_n hx hb dX10_keeps_14 rfl (lv_at hl 0 rfl) ?_
        refine G_X10_row cx hV mk_6_130 dX10_keeps_15 ?_
        refine lv_iload_n hx hb dX10_keeps_18 rfl (lv_at hl 1 rfl) ?_
        refine bd_e h (fun v3 hq h => ?_)
        refine R_M_iald cx hV (by decide) hq dX10_keeps_19 ?_
        refine bd_e h (fun σ4 hq h => ?_)
        refine R_M_iast cx hV (by decide) hq dX10_keeps_20 (fun H locs hV => ?_)
        refine lv_iinc (v := (u1 + 1)) (lv' := [(1, .int (u1 + 1)), (0, .ref (eA E 0))]) hx hb dX10_keeps_21 hl (k := 1) rfl rfl (by decide) rfl (fun ls hl => ?_)
        refine lv_goto (tgt := 2) hx hb dX10_keeps_24 (by decide) ?_
        cases h
        exact hT1 rfl _ _ _ hV (lv_sub hl [1, 0] rfl)
    · have hV : AtW E (wM E σ6 ++ X) A s H locs := hV
      have hl : lv_has ls 2 [(0, .ref (eA E 0))] := hl
      refine lv_iconst (v := 0) hx hb dX10_keeps_27 (by decide) ?_
      refine lv_istore_n (lv' := [(1, .int 0), (0, .ref (eA E 0))]) hx hb dX10_keeps_28 rfl hl (by decide) rfl (fun ls hl => ?_)
      refine bd2_e h (fun z11 σ12 ho h => ?_)
      refine (lp_rule (G := (fun v : (Int32 × St) => ∀ (H : Heap) (locs : List Loc) (ls : Array Slot), AtW E (wM E v.2 ++ X) A s H locs → lv_has ls 2 [(0, .ref (eA E 0)), (1, .int v.1)] → W p l e rm_X10_keeps s m a below meth c H locs 0 0 QQ (F0 m 29 ls []))) (K := (fun v : (Int32 × St) => ∀ (H : Heap) (locs : List Loc) (ls : Array Slot), AtW E (wM E v.2 ++ X) A s H locs → lv_has ls 2 [(0, .ref (eA E 0))] → W p l e rm_X10_keeps s m a below meth c H locs 0 0 QQ (F0 m 53 ls []))) (fun v b1 y1 h hT1 hF1 => ?_) ho (fun H locs ls hV hl => ?_)) _ _ _ hV (lv_sub hl [1, 0] rfl)
      · obtain ⟨u7, σ8⟩ := v
        have h : x_X10_keeps_L29 u7 σ8 = some (b1, y1) := h
        intro H locs ls hV hl
        have hV : AtW E (wM E σ8 ++ X) A s H locs := hV
        have hl : lv_has ls 2 [(0, .ref (eA E 0)), (1, .int u7)] := hl
        unfold x_X10_keeps_L29 at h
        refine lv_iload_n hx hb dX10_keeps_29 rfl (lv_at hl 1 rfl) ?_
        refine lv_bipush (v := 8) hx hb dX10_keeps_30 (by decide) ?_
        refine lv_icmp_ge (tgt := 53) hx hb dX10_keeps_32 (by decide) (fun hc => ?_) (fun hc => ?_)
        · have h := ifp hc h
          cases h
          exact hF1 rfl _ _ _ hV (lv_sub hl [0] rfl)
        · have h := ifn hc h
          refine lv_aload_n hx hb dX10_keeps_35 rfl (lv_at hl 0 rfl) ?_
          refine G_X10_keptMany cx hV mk_6_142 dX10_keeps_36 ?_
          refine lv_iload_n hx hb dX10_keeps_39 rfl (lv_at hl 1 rfl) ?_
          refine lv_aload_n hx hb dX10_keeps_40 rfl (lv_at hl 0 rfl) ?_
          refine G_X10_many cx hV mk_6_129 dX10_keeps_41 ?_
          refine lv_iload_n hx hb dX10_keeps_44 rfl (lv_at hl 1 rfl) ?_
          refine bd_e h (fun v9 hq h => ?_)
          refine R_M_iald cx hV (by decide) hq dX10_keeps_45 ?_
          refine bd_e h (fun σ10 hq h => ?_)
          refine R_M_iast cx hV (by decide) hq dX10_keeps_46 (fun H locs hV => ?_)
          refine lv_iinc (v := (u7 + 1)) (lv' := [(1, .int (u7 + 1)), (0, .ref (eA E 0))]) hx hb dX10_keeps_47 hl (k := 1) rfl rfl (by decide) rfl (fun ls hl => ?_)
          refine lv_goto (tgt := 29) hx hb dX10_keeps_50 (by decide) ?_
          cases h
          exact hT1 rfl _ _ _ hV (lv_sub hl [1, 0] rfl)
      · have hV : AtW E (wM E σ12 ++ X) A s H locs := hV
        have hl : lv_has ls 2 [(0, .ref (eA E 0))] := hl
        refine lv_iconst (v := 0) hx hb dX10_keeps_53 (by decide) ?_
        refine lv_istore_n (lv' := [(1, .int 0), (0, .ref (eA E 0))]) hx hb dX10_keeps_54 rfl hl (by decide) rfl (fun ls hl => ?_)
        refine bd2_e h (fun z17 σ18 ho h => ?_)
        refine (lp_rule (G := (fun v : (Int32 × St) => ∀ (H : Heap) (locs : List Loc) (ls : Array Slot), AtW E (wM E v.2 ++ X) A s H locs → lv_has ls 2 [(0, .ref (eA E 0)), (1, .int v.1)] → W p l e rm_X10_keeps s m a below meth c H locs 0 0 QQ (F0 m 55 ls []))) (K := (fun v : (Int32 × St) => ∀ (H : Heap) (locs : List Loc) (ls : Array Slot), AtW E (wM E v.2 ++ X) A s H locs → lv_has ls 2 [] → W p l e rm_X10_keeps s m a below meth c H locs 0 0 QQ (F0 m 79 ls []))) (fun v b1 y1 h hT1 hF1 => ?_) ho (fun H locs ls hV hl => ?_)) _ _ _ hV (lv_sub hl [1, 0] rfl)
        · obtain ⟨u13, σ14⟩ := v
          have h : x_X10_keeps_L55 u13 σ14 = some (b1, y1) := h
          intro H locs ls hV hl
          have hV : AtW E (wM E σ14 ++ X) A s H locs := hV
          have hl : lv_has ls 2 [(0, .ref (eA E 0)), (1, .int u13)] := hl
          unfold x_X10_keeps_L55 at h
          refine lv_iload_n hx hb dX10_keeps_55 rfl (lv_at hl 1 rfl) ?_
          refine lv_bipush (v := 24) hx hb dX10_keeps_56 (by decide) ?_
          refine lv_icmp_ge (tgt := 79) hx hb dX10_keeps_58 (by decide) (fun hc => ?_) (fun hc => ?_)
          · have h := ifp hc h
            cases h
            exact hF1 rfl _ _ _ hV (lv_sub hl [] rfl)
          · have h := ifn hc h
            refine lv_aload_n hx hb dX10_keeps_61 rfl (lv_at hl 0 rfl) ?_
            refine G_X10_keptLies cx hV mk_6_143 dX10_keeps_62 ?_
            refine lv_iload_n hx hb dX10_keeps_65 rfl (lv_at hl 1 rfl) ?_
            refine lv_aload_n hx hb dX10_keeps_66 rfl (lv_at hl 0 rfl) ?_
            refine G_X10_liesAt cx hV mk_6_112 dX10_keeps_67 ?_
            refine lv_iload_n hx hb dX10_keeps_70 rfl (lv_at hl 1 rfl) ?_
            refine bd_e h (fun v15 hq h => ?_)
            refine R_M_iald cx hV (by decide) hq dX10_keeps_71 ?_
            refine bd_e h (fun σ16 hq h => ?_)
            refine R_M_iast cx hV (by decide) hq dX10_keeps_72 (fun H locs hV => ?_)
            refine lv_iinc (v := (u13 + 1)) (lv' := [(1, .int (u13 + 1)), (0, .ref (eA E 0))]) hx hb dX10_keeps_73 hl (k := 1) rfl rfl (by decide) rfl (fun ls hl => ?_)
            refine lv_goto (tgt := 55) hx hb dX10_keeps_76 (by decide) ?_
            cases h
            exact hT1 rfl _ _ _ hV (lv_sub hl [1, 0] rfl)
        · have hV : AtW E (wM E σ18 ++ X) A s H locs := hV
          have hl : lv_has ls 2 [] := hl
          have h1 := Option.some.inj h
          subst h1
          subst hQ
          exact r_vret cx hr hlk hV dX10_keeps_79
  rw [hH, hlocs] at goal
  exact goal
theorem k_X10_keeps {p : Program} {l : Launch} {e : Env} {R : Room} {s : State} {m : MethodId} {a : Array Value} {below : List Frame} {meth : Method} {c : Code} {H : Heap} {locs : List Loc} {cells slots : Nat} {Q : State → Prop} {cc : ByteArray} {own : String} {nL pc : Nat} {ls : Array Slot} {rest : List Value} {A : Nat → Prop} {E : EV} {X : va_W} {σ : St} {σf : St} (h : x_X10_keeps σ = some σf) (cx : CallFix p m c cc nL s a TBL own) (hV : AtW E (wM E σ ++ X) A s H locs) {idx : Nat} (w1 : Cond.methodLink own idx yX10_keeps ∈ TBL) (hR : (rm_X10_keeps).frames + 1 ≤ R.frames ∧ 8 + (2 + 11) + (rm_X10_keeps).locals ≤ R.locals) (hcs : cells ≤ R.cells ∧ slots ≤ R.slots) (hls : ls.size = nL) (hcat : (rest.map fun v => v.category).sum ≤ 8) (d : decode cc pc = .ok (.invokevirtual idx, 3)) (kk : ∀ (H1 : Heap) (locs1 : List Loc), AtW E (wM E σf ++ X) A s H1 locs1 → W p l e R s m a below meth c H1 locs1 cells slots Q (F0 m (pc + 3) ls (rest))) : W p l e R s m a below meth c H locs cells slots Q (F0 m pc ls (.ref (eA E 0) :: rest)) :=
  r_callv (n := 0) (As := []) (q0 := 0) (ci := 10) (qq := (RX10, TX10, 64)) (c_X10_keeps h) wM_fst rfl rfl mk_8_19 mk_P_93 mk_1_11 mk_8_20 (by decide +kernel) rfl ⟨rfl, rfl⟩ cx hV w1 hR hcs hls rfl hcat d kk
def x_X10_back_L2 (u1 : Int32) (σ2 : St) : Option (Bool × (Int32 × St)) :=
  (if 192 ≤ u1 then
  some (false, (u1, σ2))
  else
  bd (ldI (gA σ2 28) (lenM 28) u1) fun v3 =>
  bd (stI σ2 17 (lenM 17) u1 v3) fun σ4 =>
  some (true, ((u1 + 1), σ4)))
def x_X10_back_L29 (u7 : Int32) (σ8 : St) : Option (Bool × (Int32 × St)) :=
  (if 8 ≤ u7 then
  some (false, (u7, σ8))
  else
  bd (ldI (gA σ8 29) (lenM 29) u7) fun v9 =>
  bd (stI σ8 16 (lenM 16) u7 v9) fun σ10 =>
  some (true, ((u7 + 1), σ10)))
def x_X10_back_L55 (u13 : Int32) (σ14 : St) : Option (Bool × (Int32 × St)) :=
  (if 24 ≤ u13 then
  some (false, (u13, σ14))
  else
  bd (ldI (gA σ14 30) (lenM 30) u13) fun v15 =>
  bd (stI σ14 7 (lenM 7) u13 v15) fun σ16 =>
  some (true, ((u13 + 1), σ16)))
def x_X10_back (σ : St) : Option St :=
  bd2 (lp (fun v : (Int32 × St) => x_X10_back_L2 v.1 v.2) FU (0, σ)) fun z5 σ6 =>
  bd2 (lp (fun v : (Int32 × St) => x_X10_back_L29 v.1 v.2) FU (0, σ6)) fun z11 σ12 =>
  bd2 (lp (fun v : (Int32 × St) => x_X10_back_L55 v.1 v.2) FU (0, σ12)) fun z17 σ18 =>
  some σ18
abbrev rm_X10_back : Room := { frames := 0, cells := 0, slots := 0, locals := 0 }
set_option maxHeartbeats 4000000 in
set_option maxRecDepth 100000 in
theorem c_X10_back {l : Launch} {E : EV} {X : va_W} {σ : St} {σf : St} (h : x_X10_back σ = some σf) : CM l yX10_back cX10_back 2 none rm_X10_back [.ref (eA E 0)] E (wM E σ ++ X) (wM E σf ++ X) qV := by
  refine CM.start (by decide) (Nat.le_of_ble_eq_true rfl) (fun p e s m a below meth c A ls cx hr hlk hV hl => ?_)
  have cx : CallFix p m c cX10_back 2 s a TBL RX10 := cx
  have hx := cx.1
  have hb := cx.2.1
  have hl : lv_has ls 2 [(0, .ref (eA E 0))] := hl
  generalize hQ : EQ E (wM E σf ++ X) qV A s a below = QQ
  obtain ⟨H, hH⟩ : ∃ H, H = s.heap := ⟨_, rfl⟩
  obtain ⟨locs, hlocs⟩ : ∃ z, z = ([] : List Loc) := ⟨_, rfl⟩
  have hV : AtW E (wM E σ ++ X) A s H locs := by rw [hH, hlocs]; exact hV
  have goal : W p l e rm_X10_back s m a below meth c H locs 0 0 QQ (F0 m 0 ls []) := by
    unfold x_X10_back at h
    refine lv_iconst (v := 0) hx hb dX10_back_0 (by decide) ?_
    refine lv_istore_n (lv' := [(1, .int 0), (0, .ref (eA E 0))]) hx hb dX10_back_1 rfl hl (by decide) rfl (fun ls hl => ?_)
    refine bd2_e h (fun z5 σ6 ho h => ?_)
    refine (lp_rule (G := (fun v : (Int32 × St) => ∀ (H : Heap) (locs : List Loc) (ls : Array Slot), AtW E (wM E v.2 ++ X) A s H locs → lv_has ls 2 [(0, .ref (eA E 0)), (1, .int v.1)] → W p l e rm_X10_back s m a below meth c H locs 0 0 QQ (F0 m 2 ls []))) (K := (fun v : (Int32 × St) => ∀ (H : Heap) (locs : List Loc) (ls : Array Slot), AtW E (wM E v.2 ++ X) A s H locs → lv_has ls 2 [(0, .ref (eA E 0))] → W p l e rm_X10_back s m a below meth c H locs 0 0 QQ (F0 m 27 ls []))) (fun v b1 y1 h hT1 hF1 => ?_) ho (fun H locs ls hV hl => ?_)) _ _ _ hV (lv_sub hl [1, 0] rfl)
    · obtain ⟨u1, σ2⟩ := v
      have h : x_X10_back_L2 u1 σ2 = some (b1, y1) := h
      intro H locs ls hV hl
      have hV : AtW E (wM E σ2 ++ X) A s H locs := hV
      have hl : lv_has ls 2 [(0, .ref (eA E 0)), (1, .int u1)] := hl
      unfold x_X10_back_L2 at h
      refine lv_iload_n hx hb dX10_back_2 rfl (lv_at hl 1 rfl) ?_
      refine lv_sipush (v := 192) hx hb dX10_back_3 (by decide) ?_
      refine lv_icmp_ge (tgt := 27) hx hb dX10_back_6 (by decide) (fun hc => ?_) (fun hc => ?_)
      · have h := ifp hc h
        cases h
        exact hF1 rfl _ _ _ hV (lv_sub hl [0] rfl)
      · have h := ifn hc h
        refine lv_aload_n hx hb dX10_back_9 rfl (lv_at hl 0 rfl) ?_
        refine G_X10_row cx hV mk_6_130 dX10_back_10 ?_
        refine lv_iload_n hx hb dX10_back_13 rfl (lv_at hl 1 rfl) ?_
        refine lv_aload_n hx hb dX10_back_14 rfl (lv_at hl 0 rfl) ?_
        refine G_X10_keptRow cx hV mk_6_141 dX10_back_15 ?_
        refine lv_iload_n hx hb dX10_back_18 rfl (lv_at hl 1 rfl) ?_
        refine bd_e h (fun v3 hq h => ?_)
        refine R_M_iald cx hV (by decide) hq dX10_back_19 ?_
        refine bd_e h (fun σ4 hq h => ?_)
        refine R_M_iast cx hV (by decide) hq dX10_back_20 (fun H locs hV => ?_)
        refine lv_iinc (v := (u1 + 1)) (lv' := [(1, .int (u1 + 1)), (0, .ref (eA E 0))]) hx hb dX10_back_21 hl (k := 1) rfl rfl (by decide) rfl (fun ls hl => ?_)
        refine lv_goto (tgt := 2) hx hb dX10_back_24 (by decide) ?_
        cases h
        exact hT1 rfl _ _ _ hV (lv_sub hl [1, 0] rfl)
    · have hV : AtW E (wM E σ6 ++ X) A s H locs := hV
      have hl : lv_has ls 2 [(0, .ref (eA E 0))] := hl
      refine lv_iconst (v := 0) hx hb dX10_back_27 (by decide) ?_
      refine lv_istore_n (lv' := [(1, .int 0), (0, .ref (eA E 0))]) hx hb dX10_back_28 rfl hl (by decide) rfl (fun ls hl => ?_)
      refine bd2_e h (fun z11 σ12 ho h => ?_)
      refine (lp_rule (G := (fun v : (Int32 × St) => ∀ (H : Heap) (locs : List Loc) (ls : Array Slot), AtW E (wM E v.2 ++ X) A s H locs → lv_has ls 2 [(0, .ref (eA E 0)), (1, .int v.1)] → W p l e rm_X10_back s m a below meth c H locs 0 0 QQ (F0 m 29 ls []))) (K := (fun v : (Int32 × St) => ∀ (H : Heap) (locs : List Loc) (ls : Array Slot), AtW E (wM E v.2 ++ X) A s H locs → lv_has ls 2 [(0, .ref (eA E 0))] → W p l e rm_X10_back s m a below meth c H locs 0 0 QQ (F0 m 53 ls []))) (fun v b1 y1 h hT1 hF1 => ?_) ho (fun H locs ls hV hl => ?_)) _ _ _ hV (lv_sub hl [1, 0] rfl)
      · obtain ⟨u7, σ8⟩ := v
        have h : x_X10_back_L29 u7 σ8 = some (b1, y1) := h
        intro H locs ls hV hl
        have hV : AtW E (wM E σ8 ++ X) A s H locs := hV
        have hl : lv_has ls 2 [(0, .ref (eA E 0)), (1, .int u7)] := hl
        unfold x_X10_back_L29 at h
        refine lv_iload_n hx hb dX10_back_29 rfl (lv_at hl 1 rfl) ?_
        refine lv_bipush (v := 8) hx hb dX10_back_30 (by decide) ?_
        refine lv_icmp_ge (tgt := 53) hx hb dX10_back_32 (by decide) (fun hc => ?_) (fun hc => ?_)
        · have h := ifp hc h
          cases h
          exact hF1 rfl _ _ _ hV (lv_sub hl [0] rfl)
        · have h := ifn hc h
          refine lv_aload_n hx hb dX10_back_35 rfl (lv_at hl 0 rfl) ?_
          refine G_X10_many cx hV mk_6_129 dX10_back_36 ?_
          refine lv_iload_n hx hb dX10_back_39 rfl (lv_at hl 1 rfl) ?_
          refine lv_aload_n hx hb dX10_back_40 rfl (lv_at hl 0 rfl) ?_
          refine G_X10_keptMany cx hV mk_6_142 dX10_back_41 ?_
          refine lv_iload_n hx hb dX10_back_44 rfl (lv_at hl 1 rfl) ?_
          refine bd_e h (fun v9 hq h => ?_)
          refine R_M_iald cx hV (by decide) hq dX10_back_45 ?_
          refine bd_e h (fun σ10 hq h => ?_)
          refine R_M_iast cx hV (by decide) hq dX10_back_46 (fun H locs hV => ?_)
          refine lv_iinc (v := (u7 + 1)) (lv' := [(1, .int (u7 + 1)), (0, .ref (eA E 0))]) hx hb dX10_back_47 hl (k := 1) rfl rfl (by decide) rfl (fun ls hl => ?_)
          refine lv_goto (tgt := 29) hx hb dX10_back_50 (by decide) ?_
          cases h
          exact hT1 rfl _ _ _ hV (lv_sub hl [1, 0] rfl)
      · have hV : AtW E (wM E σ12 ++ X) A s H locs := hV
        have hl : lv_has ls 2 [(0, .ref (eA E 0))] := hl
        refine lv_iconst (v := 0) hx hb dX10_back_53 (by decide) ?_
        refine lv_istore_n (lv' := [(1, .int 0), (0, .ref (eA E 0))]) hx hb dX10_back_54 rfl hl (by decide) rfl (fun ls hl => ?_)
        refine bd2_e h (fun z17 σ18 ho h => ?_)
        refine (lp_rule (G := (fun v : (Int32 × St) => ∀ (H : Heap) (locs : List Loc) (ls : Array Slot), AtW E (wM E v.2 ++ X) A s H locs → lv_has ls 2 [(0, .ref (eA E 0)), (1, .int v.1)] → W p l e rm_X10_back s m a below meth c H locs 0 0 QQ (F0 m 55 ls []))) (K := (fun v : (Int32 × St) => ∀ (H : Heap) (locs : List Loc) (ls : Array Slot), AtW E (wM E v.2 ++ X) A s H locs → lv_has ls 2 [] → W p l e rm_X10_back s m a below meth c H locs 0 0 QQ (F0 m 79 ls []))) (fun v b1 y1 h hT1 hF1 => ?_) ho (fun H locs ls hV hl => ?_)) _ _ _ hV (lv_sub hl [1, 0] rfl)
        · obtain ⟨u13, σ14⟩ := v
          have h : x_X10_back_L55 u13 σ14 = some (b1, y1) := h
          intro H locs ls hV hl
          have hV : AtW E (wM E σ14 ++ X) A s H locs := hV
          have hl : lv_has ls 2 [(0, .ref (eA E 0)), (1, .int u13)] := hl
          unfold x_X10_back_L55 at h
          refine lv_iload_n hx hb dX10_back_55 rfl (lv_at hl 1 rfl) ?_
          refine lv_bipush (v := 24) hx hb dX10_back_56 (by decide) ?_
          refine lv_icmp_ge (tgt := 79) hx hb dX10_back_58 (by decide) (fun hc => ?_) (fun hc => ?_)
          · have h := ifp hc h
            cases h
            exact hF1 rfl _ _ _ hV (lv_sub hl [] rfl)
          · have h := ifn hc h
            refine lv_aload_n hx hb dX10_back_61 rfl (lv_at hl 0 rfl) ?_
            refine G_X10_liesAt cx hV mk_6_112 dX10_back_62 ?_
            refine lv_iload_n hx hb dX10_back_65 rfl (lv_at hl 1 rfl) ?_
            refine lv_aload_n hx hb dX10_back_66 rfl (lv_at hl 0 rfl) ?_
            refine G_X10_keptLies cx hV mk_6_143 dX10_back_67 ?_
            refine lv_iload_n hx hb dX10_back_70 rfl (lv_at hl 1 rfl) ?_
            refine bd_e h (fun v15 hq h => ?_)
            refine R_M_iald cx hV (by decide) hq dX10_back_71 ?_
            refine bd_e h (fun σ16 hq h => ?_)
            refine R_M_iast cx hV (by decide) hq dX10_back_72 (fun H locs hV => ?_)
            refine lv_iinc (v := (u13 + 1)) (lv' := [(1, .int (u13 + 1)), (0, .ref (eA E 0))]) hx hb dX10_back_73 hl (k := 1) rfl rfl (by decide) rfl (fun ls hl => ?_)
            refine lv_goto (tgt := 55) hx hb dX10_back_76 (by decide) ?_
            cases h
            exact hT1 rfl _ _ _ hV (lv_sub hl [1, 0] rfl)
        · have hV : AtW E (wM E σ18 ++ X) A s H locs := hV
          have hl : lv_has ls 2 [] := hl
          have h1 := Option.some.inj h
          subst h1
          subst hQ
          exact r_vret cx hr hlk hV dX10_back_79
  rw [hH, hlocs] at goal
  exact goal
theorem k_X10_back {p : Program} {l : Launch} {e : Env} {R : Room} {s : State} {m : MethodId} {a : Array Value} {below : List Frame} {meth : Method} {c : Code} {H : Heap} {locs : List Loc} {cells slots : Nat} {Q : State → Prop} {cc : ByteArray} {own : String} {nL pc : Nat} {ls : Array Slot} {rest : List Value} {A : Nat → Prop} {E : EV} {X : va_W} {σ : St} {σf : St} (h : x_X10_back σ = some σf) (cx : CallFix p m c cc nL s a TBL own) (hV : AtW E (wM E σ ++ X) A s H locs) {idx : Nat} (w1 : Cond.methodLink own idx yX10_back ∈ TBL) (hR : (rm_X10_back).frames + 1 ≤ R.frames ∧ 8 + (2 + 11) + (rm_X10_back).locals ≤ R.locals) (hcs : cells ≤ R.cells ∧ slots ≤ R.slots) (hls : ls.size = nL) (hcat : (rest.map fun v => v.category).sum ≤ 8) (d : decode cc pc = .ok (.invokevirtual idx, 3)) (kk : ∀ (H1 : Heap) (locs1 : List Loc), AtW E (wM E σf ++ X) A s H1 locs1 → W p l e R s m a below meth c H1 locs1 cells slots Q (F0 m (pc + 3) ls (rest))) : W p l e R s m a below meth c H locs cells slots Q (F0 m pc ls (.ref (eA E 0) :: rest)) :=
  r_callv (n := 0) (As := []) (q0 := 0) (ci := 10) (qq := (RX10, TX10, 64)) (c_X10_back h) wM_fst rfl rfl mk_8_27 mk_P_95 mk_1_11 mk_8_28 (by decide +kernel) rfl ⟨rfl, rfl⟩ cx hV w1 hR hcs hls rfl hcat d kk
def x_X10_total_L4 (j1 : Nat) (σ : St) (u1 : Int32) (u2 : Int32) : Option (Bool × (Int32 × Int32)) :=
  (if (gI σ 10) ≤ u2 then
  some (false, (u1, u2))
  else
  bd (ldI (gA σ j1) (lenM j1) u2) fun v3 =>
  some (true, ((u1 + v3), (u2 + 1))))
def x_X10_total (j1 : Nat) (σ : St) : Option Int32 :=
  bd2 (lp (fun v : (Int32 × Int32) => x_X10_total_L4 j1 σ v.1 v.2) FU (0, 0)) fun z4 z5 =>
  some z4
abbrev rm_X10_total : Room := { frames := 0, cells := 0, slots := 0, locals := 0 }
set_option maxHeartbeats 4000000 in
set_option maxRecDepth 100000 in
theorem c_X10_total {l : Launch} {E : EV} {X : va_W} {σ : St} {j1 : Nat} {rv : Int32} (hj1 : j1 < 36) (h : x_X10_total j1 σ = some rv) : CM l yX10_total cX10_total 4 (some .int) rm_X10_total [.ref (eA E 0), .ref (eA E (pM j1))] E (wM E σ ++ X) (wM E σ ++ X) (qI rv) := by
  refine CM.start (by decide) (Nat.le_of_ble_eq_true rfl) (fun p e s m a below meth c A ls cx hr hlk hV hl => ?_)
  have cx : CallFix p m c cX10_total 4 s a TBL RX10 := cx
  have hx := cx.1
  have hb := cx.2.1
  have hl : lv_has ls 4 [(0, .ref (eA E 0)), (1, .ref (eA E (pM j1)))] := hl
  generalize hQ : EQ E (wM E σ ++ X) (qI rv) A s a below = QQ
  obtain ⟨H, hH⟩ : ∃ H, H = s.heap := ⟨_, rfl⟩
  obtain ⟨locs, hlocs⟩ : ∃ z, z = ([] : List Loc) := ⟨_, rfl⟩
  have hV : AtW E (wM E σ ++ X) A s H locs := by rw [hH, hlocs]; exact hV
  have goal : W p l e rm_X10_total s m a below meth c H locs 0 0 QQ (F0 m 0 ls []) := by
    unfold x_X10_total at h
    refine lv_iconst (v := 0) hx hb dX10_total_0 (by decide) ?_
    refine lv_istore_n (lv' := [(2, .int 0), (0, .ref (eA E 0)), (1, .ref (eA E (pM j1)))]) hx hb dX10_total_1 rfl hl (by decide) rfl (fun ls hl => ?_)
    refine lv_iconst (v := 0) hx hb dX10_total_2 (by decide) ?_
    refine lv_istore_n (lv' := [(3, .int 0), (2, .int 0), (0, .ref (eA E 0)), (1, .ref (eA E (pM j1)))]) hx hb dX10_total_3 rfl hl (by decide) rfl (fun ls hl => ?_)
    refine bd2_e h (fun z4 z5 ho h => ?_)
    refine (lp_rule (G := (fun v : (Int32 × Int32) => ∀ (H : Heap) (locs : List Loc) (ls : Array Slot), AtW E (wM E σ ++ X) A s H locs → lv_has ls 4 [(0, .ref (eA E 0)), (1, .ref (eA E (pM j1))), (2, .int v.1), (3, .int v.2)] → W p l e rm_X10_total s m a below meth c H locs 0 0 QQ (F0 m 4 ls []))) (K := (fun v : (Int32 × Int32) => ∀ (H : Heap) (locs : List Loc) (ls : Array Slot), AtW E (wM E σ ++ X) A s H locs → lv_has ls 4 [(2, .int v.1)] → W p l e rm_X10_total s m a below meth c H locs 0 0 QQ (F0 m 24 ls []))) (fun v b1 y1 h hT1 hF1 => ?_) ho (fun H locs ls hV hl => ?_)) _ _ _ hV (lv_sub hl [2, 3, 1, 0] rfl)
    · obtain ⟨u1, u2⟩ := v
      have h : x_X10_total_L4 j1 σ u1 u2 = some (b1, y1) := h
      intro H locs ls hV hl
      have hV : AtW E (wM E σ ++ X) A s H locs := hV
      have hl : lv_has ls 4 [(0, .ref (eA E 0)), (1, .ref (eA E (pM j1))), (2, .int u1), (3, .int u2)] := hl
      unfold x_X10_total_L4 at h
      refine lv_iload_n hx hb dX10_total_4 rfl (lv_at hl 3 rfl) ?_
      refine lv_aload_n hx hb dX10_total_5 rfl (lv_at hl 0 rfl) ?_
      refine G_X10_lookers cx hV mk_6_123 dX10_total_6 ?_
      refine lv_icmp_ge (tgt := 24) hx hb dX10_total_9 (by decide) (fun hc => ?_) (fun hc => ?_)
      · have h := ifp hc h
        cases h
        exact hF1 rfl _ _ _ hV (lv_sub hl [2] rfl)
      · have h := ifn hc h
        refine lv_iload_n hx hb dX10_total_12 rfl (lv_at hl 2 rfl) ?_
        refine lv_aload_n hx hb dX10_total_13 rfl (lv_at hl 1 rfl) ?_
        refine lv_iload_n hx hb dX10_total_14 rfl (lv_at hl 3 rfl) ?_
        refine bd_e h (fun v3 hq h => ?_)
        refine R_M_iald cx hV hj1 hq dX10_total_15 ?_
        refine lv_iadd hx hb dX10_total_16 ?_
        refine lv_istore_n (lv' := [(2, .int (u1 + v3)), (0, .ref (eA E 0)), (1, .ref (eA E (pM j1))), (3, .int u2)]) hx hb dX10_total_17 rfl hl (by decide) rfl (fun ls hl => ?_)
        refine lv_iinc (v := (u2 + 1)) (lv' := [(3, .int (u2 + 1)), (2, .int (u1 + v3)), (0, .ref (eA E 0)), (1, .ref (eA E (pM j1)))]) hx hb dX10_total_18 hl (k := 3) rfl rfl (by decide) rfl (fun ls hl => ?_)
        refine lv_goto (tgt := 4) hx hb dX10_total_21 (by decide) ?_
        cases h
        exact hT1 rfl _ _ _ hV (lv_sub hl [2, 3, 1, 0] rfl)
    · have hV : AtW E (wM E σ ++ X) A s H locs := hV
      have hl : lv_has ls 4 [(2, .int z4)] := hl
      refine lv_iload_n hx hb dX10_total_24 rfl (lv_at hl 0 rfl) ?_
      have h1 := Option.some.inj h
      subst h1
      subst hQ
      exact r_ireti cx hr hlk hV dX10_total_25
  rw [hH, hlocs] at goal
  exact goal
theorem k_X10_total {p : Program} {l : Launch} {e : Env} {R : Room} {s : State} {m : MethodId} {a : Array Value} {below : List Frame} {meth : Method} {c : Code} {H : Heap} {locs : List Loc} {cells slots : Nat} {Q : State → Prop} {cc : ByteArray} {own : String} {nL pc : Nat} {ls : Array Slot} {rest : List Value} {A : Nat → Prop} {E : EV} {X : va_W} {σ : St} {j1 : Nat} {rv : Int32} (hj1 : j1 < 36) (h : x_X10_total j1 σ = some rv) (cx : CallFix p m c cc nL s a TBL own) (hV : AtW E (wM E σ ++ X) A s H locs) {idx : Nat} (w1 : Cond.methodLink own idx yX10_total ∈ TBL) (hR : (rm_X10_total).frames + 1 ≤ R.frames ∧ 8 + (4 + 11) + (rm_X10_total).locals ≤ R.locals) (hcs : cells ≤ R.cells ∧ slots ≤ R.slots) (hls : ls.size = nL) (hcat : (rest.map fun v => v.category).sum ≤ 8) (d : decode cc pc = .ok (.invokevirtual idx, 3)) (kk : ∀ (H1 : Heap) (locs1 : List Loc), AtW E (wM E σ ++ X) A s H1 locs1 → W p l e R s m a below meth c H1 locs1 cells slots Q (F0 m (pc + 3) ls (.int rv :: rest))) : W p l e R s m a below meth c H locs cells slots Q (F0 m pc ls (.ref (eA E (pM j1)) :: .ref (eA E 0) :: rest)) :=
  r_calli (n := 1) (As := [.ref (eA E (pM j1))]) (q0 := 0) (ci := 10) (qq := (RX10, TX10, 64)) (c_X10_total hj1 h) rfl rfl rfl mk_8_31 mk_P_96 mk_1_11 mk_8_32 (by decide +kernel) rfl ⟨rfl, rfl⟩ cx hV w1 hR hcs hls rfl hcat d kk
def x_X10_lastGone_L4 (σ : St) (u1 : Int32) (u2 : Int32) : Option ((Bool × (Int32 × Int32)) ⊕ Int32) :=
  (if (gI σ 10) ≤ u2 then
  some (.inl (false, (u1, u2)))
  else
  bd (ldI (gA σ 25) (lenM 25) u2) fun v3 =>
  (if v3 = (-1) then
  some (.inr (-1))
  else
  bd (ldI (gA σ 25) (lenM 25) u2) fun v4 =>
  (if v4 ≤ u1 then
  some (.inl (true, (u1, (u2 + 1))))
  else
  bd (ldI (gA σ 25) (lenM 25) u2) fun v5 =>
  some (.inl (true, (v5, (u2 + 1)))))))
def x_X10_lastGone (σ : St) : Option Int32 :=
  bs2 (lpr (fun v : (Int32 × Int32) => x_X10_lastGone_L4 σ v.1 v.2) FU (0, 0)) (fun z6 z7 =>
  some z6) some
abbrev rm_X10_lastGone : Room := { frames := 0, cells := 0, slots := 0, locals := 0 }
set_option maxHeartbeats 4000000 in
set_option maxRecDepth 100000 in
theorem c_X10_lastGone {l : Launch} {E : EV} {X : va_W} {σ : St} {rv : Int32} (h : x_X10_lastGone σ = some rv) : CM l yX10_lastGone cX10_lastGone 3 (some .int) rm_X10_lastGone [.ref (eA E 0)] E (wM E σ ++ X) (wM E σ ++ X) (qI rv) := by
  refine CM.start (by decide) (Nat.le_of_ble_eq_true rfl) (fun p e s m a below meth c A ls cx hr hlk hV hl => ?_)
  have cx : CallFix p m c cX10_lastGone 3 s a TBL RX10 := cx
  have hx := cx.1
  have hb := cx.2.1
  have hl : lv_has ls 3 [(0, .ref (eA E 0))] := hl
  generalize hQ : EQ E (wM E σ ++ X) (qI rv) A s a below = QQ
  obtain ⟨H, hH⟩ : ∃ H, H = s.heap := ⟨_, rfl⟩
  obtain ⟨locs, hlocs⟩ : ∃ z, z = ([] : List Loc) := ⟨_, rfl⟩
  have hV : AtW E (wM E σ ++ X) A s H locs := by rw [hH, hlocs]; exact hV
  have goal : W p l e rm_X10_lastGone s m a below meth c H locs 0 0 QQ (F0 m 0 ls []) := by
    unfold x_X10_lastGone at h
    refine lv_iconst (v := 0) hx hb dX10_lastGone_0 (by decide) ?_
    refine lv_istore_n (lv' := [(1, .int 0), (0, .ref (eA E 0))]) hx hb dX10_lastGone_1 rfl hl (by decide) rfl (fun ls hl => ?_)
    refine lv_iconst (v := 0) hx hb dX10_lastGone_2 (by decide) ?_
    refine lv_istore_n (lv' := [(2, .int 0), (1, .int 0), (0, .ref (eA E 0))]) hx hb dX10_lastGone_3 rfl hl (by decide) rfl (fun ls hl => ?_)
    obtain ⟨o1, ho⟩ := bs2_get h
    rw [ho] at h
    refine (lpr_rule (G := (fun v : (Int32 × Int32) => ∀ (H : Heap) (locs : List Loc) (ls : Array Slot), AtW E (wM E σ ++ X) A s H locs → lv_has ls 3 [(0, .ref (eA E 0)), (1, .int v.1), (2, .int v.2)] → W p l e rm_X10_lastGone s m a below meth c H locs 0 0 QQ (F0 m 4 ls []))) (K := (fun v : (Int32 × Int32) => ∀ (H : Heap) (locs : List Loc) (ls : Array Slot), AtW E (wM E σ ++ X) A s H locs → lv_has ls 3 [(1, .int v.1)] → W p l e rm_X10_lastGone s m a below meth c H locs 0 0 QQ (F0 m 51 ls []))) (KR := (fun r => some r = some rv)) (fun v e1 h hT1 hF1 hR1 => ?_) ho (fun v hv => ?_) (fun r hv => ?_)) _ _ _ hV (lv_sub hl [2, 1, 0] rfl)
    · obtain ⟨u1, u2⟩ := v
      have h : x_X10_lastGone_L4 σ u1 u2 = some e1 := h
      intro H locs ls hV hl
      have hV : AtW E (wM E σ ++ X) A s H locs := hV
      have hl : lv_has ls 3 [(0, .ref (eA E 0)), (1, .int u1), (2, .int u2)] := hl
      unfold x_X10_lastGone_L4 at h
      refine lv_iload_n hx hb dX10_lastGone_4 rfl (lv_at hl 2 rfl) ?_
      refine lv_aload_n hx hb dX10_lastGone_5 rfl (lv_at hl 0 rfl) ?_
      refine G_X10_lookers cx hV mk_6_123 dX10_lastGone_6 ?_
      refine lv_icmp_ge (tgt := 51) hx hb dX10_lastGone_9 (by decide) (fun hc => ?_) (fun hc => ?_)
      · have h := ifp hc h
        cases h
        exact hF1 _ rfl _ _ _ hV (lv_sub hl [1] rfl)
      · have h := ifn hc h
        refine lv_aload_n hx hb dX10_lastGone_12 rfl (lv_at hl 0 rfl) ?_
        refine G_X10_goneAt cx hV mk_6_138 dX10_lastGone_13 ?_
        refine lv_iload_n hx hb dX10_lastGone_16 rfl (lv_at hl 2 rfl) ?_
        refine bd_e h (fun v3 hq h => ?_)
        refine R_M_iald cx hV (by decide) hq dX10_lastGone_17 ?_
        refine lv_iconst (v := (-1)) hx hb dX10_lastGone_18 (by decide) ?_
        refine lv_icmp_ne (tgt := 24) hx hb dX10_lastGone_19 (by decide) (fun hc => ?_) (fun hc => ?_)
        · have h := ifn hc h
          refine lv_aload_n hx hb dX10_lastGone_24 rfl (lv_at hl 0 rfl) ?_
          refine G_X10_goneAt cx hV mk_6_138 dX10_lastGone_25 ?_
          refine lv_iload_n hx hb dX10_lastGone_28 rfl (lv_at hl 2 rfl) ?_
          refine bd_e h (fun v4 hq h => ?_)
          refine R_M_iald cx hV (by decide) hq dX10_lastGone_29 ?_
          refine lv_iload_n hx hb dX10_lastGone_30 rfl (lv_at hl 1 rfl) ?_
          refine lv_icmp_le (tgt := 43) hx hb dX10_lastGone_31 (by decide) (fun hc => ?_) (fun hc => ?_)
          · have h := ifp hc h
            refine lv_iload_n hx hb dX10_lastGone_43 rfl (lv_at hl 1 rfl) ?_
            refine lv_istore_n (lv' := [(1, .int u1), (0, .ref (eA E 0)), (2, .int u2)]) hx hb dX10_lastGone_44 rfl hl (by decide) rfl (fun ls hl => ?_)
            refine lv_iinc (v := (u2 + 1)) (lv' := [(2, .int (u2 + 1)), (1, .int u1), (0, .ref (eA E 0))]) hx hb dX10_lastGone_45 hl (k := 2) rfl rfl (by decide) rfl (fun ls hl => ?_)
            refine lv_goto (tgt := 4) hx hb dX10_lastGone_48 (by decide) ?_
            cases h
            exact hT1 _ rfl _ _ _ hV (lv_sub hl [2, 1, 0] rfl)
          · have h := ifn hc h
            refine lv_aload_n hx hb dX10_lastGone_34 rfl (lv_at hl 0 rfl) ?_
            refine G_X10_goneAt cx hV mk_6_138 dX10_lastGone_35 ?_
            refine lv_iload_n hx hb dX10_lastGone_38 rfl (lv_at hl 2 rfl) ?_
            refine bd_e h (fun v5 hq h => ?_)
            refine R_M_iald cx hV (by decide) hq dX10_lastGone_39 ?_
            refine lv_goto (tgt := 44) hx hb dX10_lastGone_40 (by decide) ?_
            refine lv_istore_n (lv' := [(1, .int v5), (0, .ref (eA E 0)), (2, .int u2)]) hx hb dX10_lastGone_44 rfl hl (by decide) rfl (fun ls hl => ?_)
            refine lv_iinc (v := (u2 + 1)) (lv' := [(2, .int (u2 + 1)), (1, .int v5), (0, .ref (eA E 0))]) hx hb dX10_lastGone_45 hl (k := 2) rfl rfl (by decide) rfl (fun ls hl => ?_)
            refine lv_goto (tgt := 4) hx hb dX10_lastGone_48 (by decide) ?_
            cases h
            exact hT1 _ rfl _ _ _ hV (lv_sub hl [2, 1, 0] rfl)
        · have h := ifp hc h
          refine lv_iconst (v := (-1)) hx hb dX10_lastGone_22 (by decide) ?_
          cases h
          have h := hR1 _ rfl
          cases h
          subst hQ
          exact r_ireti cx hr hlk hV dX10_lastGone_23
    · subst hv
      obtain ⟨z6, z7⟩ := v
      intro H locs ls hV hl
      have hV : AtW E (wM E σ ++ X) A s H locs := hV
      have hl : lv_has ls 3 [(1, .int z6)] := hl
      have h := bs2_inl h
      refine lv_iload_n hx hb dX10_lastGone_51 rfl (lv_at hl 0 rfl) ?_
      have h1 := Option.some.inj h
      subst h1
      subst hQ
      exact r_ireti cx hr hlk hV dX10_lastGone_52
    · subst hv
      exact bs2_inr h
  rw [hH, hlocs] at goal
  exact goal
theorem k_X10_lastGone {p : Program} {l : Launch} {e : Env} {R : Room} {s : State} {m : MethodId} {a : Array Value} {below : List Frame} {meth : Method} {c : Code} {H : Heap} {locs : List Loc} {cells slots : Nat} {Q : State → Prop} {cc : ByteArray} {own : String} {nL pc : Nat} {ls : Array Slot} {rest : List Value} {A : Nat → Prop} {E : EV} {X : va_W} {σ : St} {rv : Int32} (h : x_X10_lastGone σ = some rv) (cx : CallFix p m c cc nL s a TBL own) (hV : AtW E (wM E σ ++ X) A s H locs) {idx : Nat} (w1 : Cond.methodLink own idx yX10_lastGone ∈ TBL) (hR : (rm_X10_lastGone).frames + 1 ≤ R.frames ∧ 8 + (3 + 11) + (rm_X10_lastGone).locals ≤ R.locals) (hcs : cells ≤ R.cells ∧ slots ≤ R.slots) (hls : ls.size = nL) (hcat : (rest.map fun v => v.category).sum ≤ 8) (d : decode cc pc = .ok (.invokevirtual idx, 3)) (kk : ∀ (H1 : Heap) (locs1 : List Loc), AtW E (wM E σ ++ X) A s H1 locs1 → W p l e R s m a below meth c H1 locs1 cells slots Q (F0 m (pc + 3) ls (.int rv :: rest))) : W p l e R s m a below meth c H locs cells slots Q (F0 m pc ls (.ref (eA E 0) :: rest)) :=
  r_calli (n := 0) (As := []) (q0 := 0) (ci := 10) (qq := (RX10, TX10, 64)) (c_X10_lastGone h) rfl rfl rfl mk_8_35 mk_P_97 mk_1_11 mk_8_36 (by decide +kernel) rfl ⟨rfl, rfl⟩ cx hV w1 hR hcs hls rfl hcat d kk
def x_X10_day (p1 : Int32) (σ : St) : Option (Int32 × St) :=
  bd (some (sI σ 0 0)) fun σ1 =>
  bd (x_X10_asTold σ1) fun σ2 =>
  bd (x_X10_goes p1 σ2) fun σ3 =>
  some ((gI σ3 17), σ3)
abbrev rm_X10_day : Room := { frames := 6, cells := 0, slots := 0, locals := 148 }
set_option maxHeartbeats 4000000 in
set_option maxRecDepth 100000 in
theorem c_X10_day {l : Launch} {E : EV} {X : va_W} {σ : St} {p1 : Int32} {rv : Int32} {σf : St} (h : x_X10_day p1 σ = some (rv, σf)) : CM l yX10_day cX10_day 2 (some .int) rm_X10_day [.ref (eA E 0), .int p1] E (wM E σ ++ X) (wM E σf ++ X) (qI rv) := by
  refine CM.start (by decide) (Nat.le_of_ble_eq_true rfl) (fun p e s m a below meth c A ls cx hr hlk hV hl => ?_)
  have cx : CallFix p m c cX10_day 2 s a TBL RX10 := cx
  have hx := cx.1
  have hb := cx.2.1
  have hl : lv_has ls 2 [(0, .ref (eA E 0)), (1, .int p1)] := hl
  generalize hQ : EQ E (wM E σf ++ X) (qI rv) A s a below = QQ
  obtain ⟨H, hH⟩ : ∃ H, H = s.heap := ⟨_, rfl⟩
  obtain ⟨locs, hlocs⟩ : ∃ z, z = ([] : List Loc) := ⟨_, rfl⟩
  have hV : AtW E (wM E σ ++ X) A s H locs := by rw [hH, hlocs]; exact hV
  have goal : W p l e rm_X10_day s m a below meth c H locs 0 0 QQ (F0 m 0 ls []) := by
    unfold x_X10_day at h
    refine lv_aload_n hx hb dX10_day_0 rfl (lv_at hl 0 rfl) ?_
    refine lv_iconst (v := 0) hx hb dX10_day_1 (by decide) ?_
    refine bd_e h (fun σ1 hq h => ?_)
    refine P_X10_thrown cx hV hq mk_6_97 dX10_day_2 (fun H locs hV => ?_)
    refine lv_aload_n hx hb dX10_day_5 rfl (lv_at hl 0 rfl) ?_
    refine bd_e h (fun σ2 hq h => ?_)
    refine k_X10_asTold hq cx hV mk_7_216 ⟨Nat.le_of_ble_eq_true rfl, Nat.le_of_ble_eq_true rfl⟩ ⟨Nat.zero_le _, Nat.zero_le _⟩ hl.1 (Nat.le_of_ble_eq_true rfl) dX10_day_6 (fun H locs hV => ?_)
    refine lv_aload_n hx hb dX10_day_9 rfl (lv_at hl 0 rfl) ?_
    refine lv_iload_n hx hb dX10_day_10 rfl (lv_at hl 1 rfl) ?_
    refine bd_e h (fun σ3 hq h => ?_)
    refine k_X10_goes hq cx hV mk_7_220 ⟨Nat.le_of_ble_eq_true rfl, Nat.le_of_ble_eq_true rfl⟩ ⟨Nat.zero_le _, Nat.zero_le _⟩ hl.1 (Nat.le_of_ble_eq_true rfl) dX10_day_11 (fun H locs hV => ?_)
    refine lv_aload_n hx hb dX10_day_14 rfl (lv_at hl 0 rfl) ?_
    refine G_X10_soldNow cx hV mk_6_145 dX10_day_15 ?_
    obtain ⟨h1, h2⟩ := Prod.mk.inj (Option.some.inj h)
    subst h1
    subst h2
    subst hQ
    exact r_ireti cx hr hlk hV dX10_day_18
  rw [hH, hlocs] at goal
  exact goal
theorem k_X10_day {p : Program} {l : Launch} {e : Env} {R : Room} {s : State} {m : MethodId} {a : Array Value} {below : List Frame} {meth : Method} {c : Code} {H : Heap} {locs : List Loc} {cells slots : Nat} {Q : State → Prop} {cc : ByteArray} {own : String} {nL pc : Nat} {ls : Array Slot} {rest : List Value} {A : Nat → Prop} {E : EV} {X : va_W} {σ : St} {p1 : Int32} {rv : Int32} {σf : St} (h : x_X10_day p1 σ = some (rv, σf)) (cx : CallFix p m c cc nL s a TBL own) (hV : AtW E (wM E σ ++ X) A s H locs) {idx : Nat} (w1 : Cond.methodLink own idx yX10_day ∈ TBL) (hR : (rm_X10_day).frames + 1 ≤ R.frames ∧ 8 + (2 + 11) + (rm_X10_day).locals ≤ R.locals) (hcs : cells ≤ R.cells ∧ slots ≤ R.slots) (hls : ls.size = nL) (hcat : (rest.map fun v => v.category).sum ≤ 8) (d : decode cc pc = .ok (.invokevirtual idx, 3)) (kk : ∀ (H1 : Heap) (locs1 : List Loc), AtW E (wM E σf ++ X) A s H1 locs1 → W p l e R s m a below meth c H1 locs1 cells slots Q (F0 m (pc + 3) ls (.int rv :: rest))) : W p l e R s m a below meth c H locs cells slots Q (F0 m pc ls (.int p1 :: .ref (eA E 0) :: rest)) :=
  r_calli (n := 1) (As := [.int p1]) (q0 := 0) (ci := 10) (qq := (RX10, TX10, 64)) (c_X10_day h) wM_fst rfl rfl mk_7_213 mk_7_214 mk_1_11 mk_7_215 (by decide +kernel) rfl ⟨rfl, rfl⟩ cx hV w1 hR hcs hls rfl hcat d kk
def x_X10_offAll_L4 (σ : St) (u1 : Int32) (u2 : Int32) : Option (Bool × (Int32 × Int32)) :=
  (if (gI σ 9) ≤ u2 then
  some (false, (u1, u2))
  else
  bd (ldI (gA σ 7) (lenM 7) u2) fun v3 =>
  (if v3 = (-1) then
  some (true, ((u1 + 0), (u2 + 1)))
  else
  bd (x_X10_away u2 σ) fun v4 =>
  some (true, ((u1 + v4), (u2 + 1)))))
def x_X10_offAll (σ : St) : Option Int32 :=
  bd2 (lp (fun v : (Int32 × Int32) => x_X10_offAll_L4 σ v.1 v.2) FU (0, 0)) fun z5 z6 =>
  some z5
abbrev rm_X10_offAll : Room := { frames := 3, cells := 0, slots := 0, locals := 67 }
set_option maxHeartbeats 4000000 in
set_option maxRecDepth 100000 in
theorem c_X10_offAll {l : Launch} {E : EV} {X : va_W} {σ : St} {rv : Int32} (h : x_X10_offAll σ = some rv) : CM l yX10_offAll cX10_offAll 3 (some .int) rm_X10_offAll [.ref (eA E 0)] E (wM E σ ++ X) (wM E σ ++ X) (qI rv) := by
  refine CM.start (by decide) (Nat.le_of_ble_eq_true rfl) (fun p e s m a below meth c A ls cx hr hlk hV hl => ?_)
  have cx : CallFix p m c cX10_offAll 3 s a TBL RX10 := cx
  have hx := cx.1
  have hb := cx.2.1
  have hl : lv_has ls 3 [(0, .ref (eA E 0))] := hl
  generalize hQ : EQ E (wM E σ ++ X) (qI rv) A s a below = QQ
  obtain ⟨H, hH⟩ : ∃ H, H = s.heap := ⟨_, rfl⟩
  obtain ⟨locs, hlocs⟩ : ∃ z, z = ([] : List Loc) := ⟨_, rfl⟩
  have hV : AtW E (wM E σ ++ X) A s H locs := by rw [hH, hlocs]; exact hV
  have goal : W p l e rm_X10_offAll s m a below meth c H locs 0 0 QQ (F0 m 0 ls []) := by
    unfold x_X10_offAll at h
    refine lv_iconst (v := 0) hx hb dX10_offAll_0 (by decide) ?_
    refine lv_istore_n (lv' := [(1, .int 0), (0, .ref (eA E 0))]) hx hb dX10_offAll_1 rfl hl (by decide) rfl (fun ls hl => ?_)
    refine lv_iconst (v := 0) hx hb dX10_offAll_2 (by decide) ?_
    refine lv_istore_n (lv' := [(2, .int 0), (1, .int 0), (0, .ref (eA E 0))]) hx hb dX10_offAll_3 rfl hl (by decide) rfl (fun ls hl => ?_)
    refine bd2_e h (fun z5 z6 ho h => ?_)
    refine (lp_rule (G := (fun v : (Int32 × Int32) => ∀ (H : Heap) (locs : List Loc) (ls : Array Slot), AtW E (wM E σ ++ X) A s H locs → lv_has ls 3 [(0, .ref (eA E 0)), (1, .int v.1), (2, .int v.2)] → W p l e rm_X10_offAll s m a below meth c H locs 0 0 QQ (F0 m 4 ls []))) (K := (fun v : (Int32 × Int32) => ∀ (H : Heap) (locs : List Loc) (ls : Array Slot), AtW E (wM E σ ++ X) A s H locs → lv_has ls 3 [(1, .int v.1)] → W p l e rm_X10_offAll s m a below meth c H locs 0 0 QQ (F0 m 40 ls []))) (fun v b1 y1 h hT1 hF1 => ?_) ho (fun H locs ls hV hl => ?_)) _ _ _ hV (lv_sub hl [2, 1, 0] rfl)
    · obtain ⟨u1, u2⟩ := v
      have h : x_X10_offAll_L4 σ u1 u2 = some (b1, y1) := h
      intro H locs ls hV hl
      have hV : AtW E (wM E σ ++ X) A s H locs := hV
      have hl : lv_has ls 3 [(0, .ref (eA E 0)), (1, .int u1), (2, .int u2)] := hl
      unfold x_X10_offAll_L4 at h
      refine lv_iload_n hx hb dX10_offAll_4 rfl (lv_at hl 2 rfl) ?_
      refine lv_aload_n hx hb dX10_offAll_5 rfl (lv_at hl 0 rfl) ?_
      refine G_X10_sleeves cx hV mk_6_122 dX10_offAll_6 ?_
      refine lv_icmp_ge (tgt := 40) hx hb dX10_offAll_9 (by decide) (fun hc => ?_) (fun hc => ?_)
      · have h := ifp hc h
        cases h
        exact hF1 rfl _ _ _ hV (lv_sub hl [1] rfl)
      · have h := ifn hc h
        refine lv_iload_n hx hb dX10_offAll_12 rfl (lv_at hl 1 rfl) ?_
        refine lv_aload_n hx hb dX10_offAll_13 rfl (lv_at hl 0 rfl) ?_
        refine G_X10_liesAt cx hV mk_6_112 dX10_offAll_14 ?_
        refine lv_iload_n hx hb dX10_offAll_17 rfl (lv_at hl 2 rfl) ?_
        refine bd_e h (fun v3 hq h => ?_)
        refine R_M_iald cx hV (by decide) hq dX10_offAll_18 ?_
        refine lv_iconst (v := (-1)) hx hb dX10_offAll_19 (by decide) ?_
        refine lv_icmp_ne (tgt := 27) hx hb dX10_offAll_20 (by decide) (fun hc => ?_) (fun hc => ?_)
        · have h := ifn hc h
          refine lv_aload_n hx hb dX10_offAll_27 rfl (lv_at hl 0 rfl) ?_
          refine lv_iload_n hx hb dX10_offAll_28 rfl (lv_at hl 2 rfl) ?_
          refine bd_e h (fun v4 hq h => ?_)
          refine k_X10_away hq cx hV mk_7_172 ⟨Nat.le_of_ble_eq_true rfl, Nat.le_of_ble_eq_true rfl⟩ ⟨Nat.zero_le _, Nat.zero_le _⟩ hl.1 (Nat.le_of_ble_eq_true rfl) dX10_offAll_29 (fun H locs hV => ?_)
          refine lv_iadd hx hb dX10_offAll_32 ?_
          refine lv_istore_n (lv' := [(1, .int (u1 + v4)), (0, .ref (eA E 0)), (2, .int u2)]) hx hb dX10_offAll_33 rfl hl (by decide) rfl (fun ls hl => ?_)
          refine lv_iinc (v := (u2 + 1)) (lv' := [(2, .int (u2 + 1)), (1, .int (u1 + v4)), (0, .ref (eA E 0))]) hx hb dX10_offAll_34 hl (k := 2) rfl rfl (by decide) rfl (fun ls hl => ?_)
          refine lv_goto (tgt := 4) hx hb dX10_offAll_37 (by decide) ?_
          cases h
          exact hT1 rfl _ _ _ hV (lv_sub hl [2, 1, 0] rfl)
        · have h := ifp hc h
          refine lv_iconst (v := 0) hx hb dX10_offAll_23 (by decide) ?_
          refine lv_goto (tgt := 32) hx hb dX10_offAll_24 (by decide) ?_
          refine lv_iadd hx hb dX10_offAll_32 ?_
          refine lv_istore_n (lv' := [(1, .int (u1 + 0)), (0, .ref (eA E 0)), (2, .int u2)]) hx hb dX10_offAll_33 rfl hl (by decide) rfl (fun ls hl => ?_)
          refine lv_iinc (v := (u2 + 1)) (lv' := [(2, .int (u2 + 1)), (1, .int (u1 + 0)), (0, .ref (eA E 0))]) hx hb dX10_offAll_34 hl (k := 2) rfl rfl (by decide) rfl (fun ls hl => ?_)
          refine lv_goto (tgt := 4) hx hb dX10_offAll_37 (by decide) ?_
          cases h
          exact hT1 rfl _ _ _ hV (lv_sub hl [2, 1, 0] rfl)
    · have hV : AtW E (wM E σ ++ X) A s H locs := hV
      have hl : lv_has ls 3 [(1, .int z5)] := hl
      refine lv_iload_n hx hb dX10_offAll_40 rfl (lv_at hl 0 rfl) ?_
      have h1 := Option.some.inj h
      subst h1
      subst hQ
      exact r_ireti cx hr hlk hV dX10_offAll_41
  rw [hH, hlocs] at goal
  exact goal
theorem k_X10_offAll {p : Program} {l : Launch} {e : Env} {R : Room} {s : State} {m : MethodId} {a : Array Value} {below : List Frame} {meth : Method} {c : Code} {H : Heap} {locs : List Loc} {cells slots : Nat} {Q : State → Prop} {cc : ByteArray} {own : String} {nL pc : Nat} {ls : Array Slot} {rest : List Value} {A : Nat → Prop} {E : EV} {X : va_W} {σ : St} {rv : Int32} (h : x_X10_offAll σ = some rv) (cx : CallFix p m c cc nL s a TBL own) (hV : AtW E (wM E σ ++ X) A s H locs) {idx : Nat} (w1 : Cond.methodLink own idx yX10_offAll ∈ TBL) (hR : (rm_X10_offAll).frames + 1 ≤ R.frames ∧ 8 + (3 + 11) + (rm_X10_offAll).locals ≤ R.locals) (hcs : cells ≤ R.cells ∧ slots ≤ R.slots) (hls : ls.size = nL) (hcat : (rest.map fun v => v.category).sum ≤ 8) (d : decode cc pc = .ok (.invokevirtual idx, 3)) (kk : ∀ (H1 : Heap) (locs1 : List Loc), AtW E (wM E σ ++ X) A s H1 locs1 → W p l e R s m a below meth c H1 locs1 cells slots Q (F0 m (pc + 3) ls (.int rv :: rest))) : W p l e R s m a below meth c H locs cells slots Q (F0 m pc ls (.ref (eA E 0) :: rest)) :=
  r_calli (n := 0) (As := []) (q0 := 0) (ci := 10) (qq := (RX10, TX10, 64)) (c_X10_offAll h) rfl rfl rfl mk_8_23 mk_P_94 mk_1_11 mk_8_24 (by decide +kernel) rfl ⟨rfl, rfl⟩ cx hV w1 hR hcs hls rfl hcat d kk
def x_X10_would (p1 : Int32) (p2 : Int32) (σ : St) : Option (Int32 × St) :=
  bd (some (sI σ 0 0)) fun σ1 =>
  bd (x_X10_within p2 0 5) fun v2 =>
  bd2 (x_X10_may v2 1 2 σ1) fun v3 σ4 =>
  (if v3 = 0 then
  some (0, σ4)
  else
  bd (x_X10_keeps σ4) fun σ5 =>
  bd (x_X10_asTold σ5) fun σ6 =>
  bd (x_X10_goes p1 σ6) fun σ7 =>
  bd (x_X10_offAll σ7) fun v8 =>
  bd (x_X10_back σ7) fun σ9 =>
  (if p2 = 0 then
  some ((gI σ9 17), σ9)
  else
  (if p2 = 1 then
  bd (x_X10_total 23 σ9) fun v12 =>
  some (v12, σ9)
  else
  (if p2 = 2 then
  bd (x_X10_total 24 σ9) fun v11 =>
  some (v11, σ9)
  else
  (if p2 = 3 then
  some ((gI σ9 18), σ9)
  else
  (if p2 = 4 then
  some (v8, σ9)
  else
  bd (x_X10_lastGone σ9) fun v10 =>
  some (v10, σ9)))))))
abbrev rm_X10_would : Room := { frames := 6, cells := 0, slots := 0, locals := 148 }
set_option maxHeartbeats 4000000 in
set_option maxRecDepth 100000 in
theorem c_X10_would {l : Launch} {E : EV} {X : va_W} {σ : St} {p1 : Int32} {p2 : Int32} {rv : Int32} {σf : St} (h : x_X10_would p1 p2 σ = some (rv, σf)) : CM l yX10_would cX10_would 4 (some .int) rm_X10_would [.ref (eA E 0), .int p1, .int p2] E (wM E σ ++ X) (wM E σf ++ X) (qI rv) := by
  refine CM.start (by decide) (Nat.le_of_ble_eq_true rfl) (fun p e s m a below meth c A ls cx hr hlk hV hl => ?_)
  have cx : CallFix p m c cX10_would 4 s a TBL RX10 := cx
  have hx := cx.1
  have hb := cx.2.1
  have hl : lv_has ls 4 [(0, .ref (eA E 0)), (1, .int p1), (2, .int p2)] := hl
  generalize hQ : EQ E (wM E σf ++ X) (qI rv) A s a below = QQ
  obtain ⟨H, hH⟩ : ∃ H, H = s.heap := ⟨_, rfl⟩
  obtain ⟨locs, hlocs⟩ : ∃ z, z = ([] : List Loc) := ⟨_, rfl⟩
  have hV : AtW E (wM E σ ++ X) A s H locs := by rw [hH, hlocs]; exact hV
  have goal : W p l e rm_X10_would s m a below meth c H locs 0 0 QQ (F0 m 0 ls []) := by
    unfold x_X10_would at h
    refine lv_aload_n hx hb dX10_would_0 rfl (lv_at hl 0 rfl) ?_
    refine lv_iconst (v := 0) hx hb dX10_would_1 (by decide) ?_
    refine bd_e h (fun σ1 hq h => ?_)
    refine P_X10_thrown cx hV hq mk_6_97 dX10_would_2 (fun H locs hV => ?_)
    refine lv_aload_n hx hb dX10_would_5 rfl (lv_at hl 0 rfl) ?_
    refine lv_iload_n hx hb dX10_would_6 rfl (lv_at hl 2 rfl) ?_
    refine lv_iconst (v := 0) hx hb dX10_would_7 (by decide) ?_
    refine lv_iconst (v := 5) hx hb dX10_would_8 (by decide) ?_
    refine bd_e h (fun v2 hq h => ?_)
    refine k_X10_within hq cx hV mk_7_141 ⟨Nat.le_of_ble_eq_true rfl, Nat.le_of_ble_eq_true rfl⟩ ⟨Nat.zero_le _, Nat.zero_le _⟩ hl.1 (Nat.le_of_ble_eq_true rfl) dX10_would_9 (fun H locs hV => ?_)
    refine lv_iconst (v := 1) hx hb dX10_would_12 (by decide) ?_
    refine lv_iconst (v := 2) hx hb dX10_would_13 (by decide) ?_
    refine bd2_e h (fun v3 σ4 hq h => ?_)
    refine k_X10_may hq cx hV mk_7_62 ⟨Nat.le_of_ble_eq_true rfl, Nat.le_of_ble_eq_true rfl⟩ ⟨Nat.zero_le _, Nat.zero_le _⟩ hl.1 (Nat.le_of_ble_eq_true rfl) dX10_would_14 (fun H locs hV => ?_)
    refine lv_if_ne (tgt := 22) hx hb dX10_would_17 (by decide) (fun hc => ?_) (fun hc => ?_)
    · have h := ifn hc h
      refine lv_aload_n hx hb dX10_would_22 rfl (lv_at hl 0 rfl) ?_
      refine bd_e h (fun σ5 hq h => ?_)
      refine k_X10_keeps hq cx hV mk_8_17 ⟨Nat.le_of_ble_eq_true rfl, Nat.le_of_ble_eq_true rfl⟩ ⟨Nat.zero_le _, Nat.zero_le _⟩ hl.1 (Nat.le_of_ble_eq_true rfl) dX10_would_23 (fun H locs hV => ?_)
      refine lv_aload_n hx hb dX10_would_26 rfl (lv_at hl 0 rfl) ?_
      refine bd_e h (fun σ6 hq h => ?_)
      refine k_X10_asTold hq cx hV mk_7_216 ⟨Nat.le_of_ble_eq_true rfl, Nat.le_of_ble_eq_true rfl⟩ ⟨Nat.zero_le _, Nat.zero_le _⟩ hl.1 (Nat.le_of_ble_eq_true rfl) dX10_would_27 (fun H locs hV => ?_)
      refine lv_aload_n hx hb dX10_would_30 rfl (lv_at hl 0 rfl) ?_
      refine lv_iload_n hx hb dX10_would_31 rfl (lv_at hl 1 rfl) ?_
      refine bd_e h (fun σ7 hq h => ?_)
      refine k_X10_goes hq cx hV mk_7_220 ⟨Nat.le_of_ble_eq_true rfl, Nat.le_of_ble_eq_true rfl⟩ ⟨Nat.zero_le _, Nat.zero_le _⟩ hl.1 (Nat.le_of_ble_eq_true rfl) dX10_would_32 (fun H locs hV => ?_)
      refine lv_aload_n hx hb dX10_would_35 rfl (lv_at hl 0 rfl) ?_
      refine bd_e h (fun v8 hq h => ?_)
      refine k_X10_offAll hq cx hV mk_8_21 ⟨Nat.le_of_ble_eq_true rfl, Nat.le_of_ble_eq_true rfl⟩ ⟨Nat.zero_le _, Nat.zero_le _⟩ hl.1 (Nat.le_of_ble_eq_true rfl) dX10_would_36 (fun H locs hV => ?_)
      refine lv_istore_n (lv' := [(3, .int v8), (0, .ref (eA E 0)), (1, .int p1), (2, .int p2)]) hx hb dX10_would_39 rfl hl (by decide) rfl (fun ls hl => ?_)
      refine lv_aload_n hx hb dX10_would_40 rfl (lv_at hl 1 rfl) ?_
      refine bd_e h (fun σ9 hq h => ?_)
      refine k_X10_back hq cx hV mk_8_25 ⟨Nat.le_of_ble_eq_true rfl, Nat.le_of_ble_eq_true rfl⟩ ⟨Nat.zero_le _, Nat.zero_le _⟩ hl.1 (Nat.le_of_ble_eq_true rfl) dX10_would_41 (fun H locs hV => ?_)
      refine lv_iload_n hx hb dX10_would_44 rfl (lv_at hl 3 rfl) ?_
      refine lv_if_ne (tgt := 55) hx hb dX10_would_45 (by decide) (fun hc => ?_) (fun hc => ?_)
      · have h := ifn hc h
        refine lv_iload_n hx hb dX10_would_55 rfl (lv_at hl 3 rfl) ?_
        refine lv_iconst (v := 1) hx hb dX10_would_56 (by decide) ?_
        refine lv_icmp_ne (tgt := 71) hx hb dX10_would_57 (by decide) (fun hc => ?_) (fun hc => ?_)
        · have h := ifn hc h
          refine lv_iload_n hx hb dX10_would_71 rfl (lv_at hl 3 rfl) ?_
          refine lv_iconst (v := 2) hx hb dX10_would_72 (by decide) ?_
          refine lv_icmp_ne (tgt := 87) hx hb dX10_would_73 (by decide) (fun hc => ?_) (fun hc => ?_)
          · have h := ifn hc h
            refine lv_iload_n hx hb dX10_would_87 rfl (lv_at hl 3 rfl) ?_
            refine lv_iconst (v := 3) hx hb dX10_would_88 (by decide) ?_
            refine lv_icmp_ne (tgt := 99) hx hb dX10_would_89 (by decide) (fun hc => ?_) (fun hc => ?_)
            · have h := ifn hc h
              refine lv_iload_n hx hb dX10_would_99 rfl (lv_at hl 3 rfl) ?_
              refine lv_iconst (v := 4) hx hb dX10_would_100 (by decide) ?_
              refine lv_icmp_ne (tgt := 108) hx hb dX10_would_101 (by decide) (fun hc => ?_) (fun hc => ?_)
              · have h := ifn hc h
                refine lv_aload_n hx hb dX10_would_108 rfl (lv_at hl 1 rfl) ?_
                refine bd_e h (fun v10 hq h => ?_)
                refine k_X10_lastGone hq cx hV mk_8_33 ⟨Nat.le_of_ble_eq_true rfl, Nat.le_of_ble_eq_true rfl⟩ ⟨Nat.zero_le _, Nat.zero_le _⟩ hl.1 (Nat.le_of_ble_eq_true rfl) dX10_would_109 (fun H locs hV => ?_)
                obtain ⟨h1, h2⟩ := Prod.mk.inj (Option.some.inj h)
                subst h1
                subst h2
                subst hQ
                exact r_ireti cx hr hlk hV dX10_would_112
              · have h := ifp hc h
                refine lv_iload_n hx hb dX10_would_104 rfl (lv_at hl 0 rfl) ?_
                refine lv_goto (tgt := 112) hx hb dX10_would_105 (by decide) ?_
                obtain ⟨h1, h2⟩ := Prod.mk.inj (Option.some.inj h)
                subst h1
                subst h2
                subst hQ
                exact r_ireti cx hr hlk hV dX10_would_112
            · have h := ifp hc h
              refine lv_aload_n hx hb dX10_would_92 rfl (lv_at hl 1 rfl) ?_
              refine G_X10_heldNow cx hV mk_6_146 dX10_would_93 ?_
              refine lv_goto (tgt := 112) hx hb dX10_would_96 (by decide) ?_
              obtain ⟨h1, h2⟩ := Prod.mk.inj (Option.some.inj h)
              subst h1
              subst h2
              subst hQ
              exact r_ireti cx hr hlk hV dX10_would_112
          · have h := ifp hc h
            refine lv_aload_n hx hb dX10_would_76 rfl (lv_at hl 1 rfl) ?_
            refine lv_aload_n hx hb dX10_would_77 rfl (lv_at hl 1 rfl) ?_
            refine G_X10_waited cx hV mk_6_137 dX10_would_78 ?_
            refine bd_e h (fun v11 hq h => ?_)
            refine k_X10_total (by decide) hq cx hV mk_8_29 ⟨Nat.le_of_ble_eq_true rfl, Nat.le_of_ble_eq_true rfl⟩ ⟨Nat.zero_le _, Nat.zero_le _⟩ hl.1 (Nat.le_of_ble_eq_true rfl) dX10_would_81 (fun H locs hV => ?_)
            refine lv_goto (tgt := 112) hx hb dX10_would_84 (by decide) ?_
            obtain ⟨h1, h2⟩ := Prod.mk.inj (Option.some.inj h)
            subst h1
            subst h2
            subst hQ
            exact r_ireti cx hr hlk hV dX10_would_112
        · have h := ifp hc h
          refine lv_aload_n hx hb dX10_would_60 rfl (lv_at hl 1 rfl) ?_
          refine lv_aload_n hx hb dX10_would_61 rfl (lv_at hl 1 rfl) ?_
          refine G_X10_paid cx hV mk_6_136 dX10_would_62 ?_
          refine bd_e h (fun v12 hq h => ?_)
          refine k_X10_total (by decide) hq cx hV mk_8_29 ⟨Nat.le_of_ble_eq_true rfl, Nat.le_of_ble_eq_true rfl⟩ ⟨Nat.zero_le _, Nat.zero_le _⟩ hl.1 (Nat.le_of_ble_eq_true rfl) dX10_would_65 (fun H locs hV => ?_)
          refine lv_goto (tgt := 112) hx hb dX10_would_68 (by decide) ?_
          obtain ⟨h1, h2⟩ := Prod.mk.inj (Option.some.inj h)
          subst h1
          subst h2
          subst hQ
          exact r_ireti cx hr hlk hV dX10_would_112
      · have h := ifp hc h
        refine lv_aload_n hx hb dX10_would_48 rfl (lv_at hl 1 rfl) ?_
        refine G_X10_soldNow cx hV mk_6_145 dX10_would_49 ?_
        refine lv_goto (tgt := 112) hx hb dX10_would_52 (by decide) ?_
        obtain ⟨h1, h2⟩ := Prod.mk.inj (Option.some.inj h)
        subst h1
        subst h2
        subst hQ
        exact r_ireti cx hr hlk hV dX10_would_112
    · have h := ifp hc h
      refine lv_iconst (v := 0) hx hb dX10_would_20 (by decide) ?_
      obtain ⟨h1, h2⟩ := Prod.mk.inj (Option.some.inj h)
      subst h1
      subst h2
      subst hQ
      exact r_ireti cx hr hlk hV dX10_would_21
  rw [hH, hlocs] at goal
  exact goal
theorem k_X10_would {p : Program} {l : Launch} {e : Env} {R : Room} {s : State} {m : MethodId} {a : Array Value} {below : List Frame} {meth : Method} {c : Code} {H : Heap} {locs : List Loc} {cells slots : Nat} {Q : State → Prop} {cc : ByteArray} {own : String} {nL pc : Nat} {ls : Array Slot} {rest : List Value} {A : Nat → Prop} {E : EV} {X : va_W} {σ : St} {p1 : Int32} {p2 : Int32} {rv : Int32} {σf : St} (h : x_X10_would p1 p2 σ = some (rv, σf)) (cx : CallFix p m c cc nL s a TBL own) (hV : AtW E (wM E σ ++ X) A s H locs) {idx : Nat} (w1 : Cond.methodLink own idx yX10_would ∈ TBL) (hR : (rm_X10_would).frames + 1 ≤ R.frames ∧ 8 + (4 + 11) + (rm_X10_would).locals ≤ R.locals) (hcs : cells ≤ R.cells ∧ slots ≤ R.slots) (hls : ls.size = nL) (hcat : (rest.map fun v => v.category).sum ≤ 8) (d : decode cc pc = .ok (.invokevirtual idx, 3)) (kk : ∀ (H1 : Heap) (locs1 : List Loc), AtW E (wM E σf ++ X) A s H1 locs1 → W p l e R s m a below meth c H1 locs1 cells slots Q (F0 m (pc + 3) ls (.int rv :: rest))) : W p l e R s m a below meth c H locs cells slots Q (F0 m pc ls (.int p2 :: .int p1 :: .ref (eA E 0) :: rest)) :=
  r_calli (n := 2) (As := [.int p1, .int p2]) (q0 := 0) (ci := 10) (qq := (RX10, TX10, 64)) (c_X10_would h) wM_fst rfl rfl mk_8_14 mk_8_15 mk_1_11 mk_8_16 (by decide +kernel) rfl ⟨rfl, rfl⟩ cx hV w1 hR hcs hls rfl hcat d kk
def x_X10_buys (p1 : Int32) (p2 : Int32) (p3 : Int32) (σ : St) : Option (Int32 × St) :=
  bd (some (sI σ 0 0)) fun σ1 =>
  bd2 (x_X10_isLooker p1 1 σ1) fun v2 σ3 =>
  (if v2 = 0 then
  some (0, σ3)
  else
  bd (x_X10_within p3 0 3) fun v4 =>
  bd2 (x_X10_may v4 2 2 σ3) fun v5 σ6 =>
  (if v5 = 0 then
  some (0, σ6)
  else
  bd (x_X10_keeps σ6) fun σ7 =>
  bd (x_X10_asTold σ7) fun σ8 =>
  bd (x_X10_goes p2 σ8) fun σ9 =>
  bd (x_X10_back σ9) fun σ10 =>
  (if p3 = 0 then
  bd (ldI (gA σ10 22) (lenM 22) p1) fun v14 =>
  some (v14, σ10)
  else
  (if p3 = 1 then
  bd (ldI (gA σ10 23) (lenM 23) p1) fun v13 =>
  some (v13, σ10)
  else
  (if p3 = 2 then
  bd (ldI (gA σ10 24) (lenM 24) p1) fun v12 =>
  some (v12, σ10)
  else
  bd (ldI (gA σ10 25) (lenM 25) p1) fun v11 =>
  some (v11, σ10))))))
abbrev rm_X10_buys : Room := { frames := 6, cells := 0, slots := 0, locals := 148 }
set_option maxHeartbeats 4000000 in
set_option maxRecDepth 100000 in
theorem c_X10_buys {l : Launch} {E : EV} {X : va_W} {σ : St} {p1 : Int32} {p2 : Int32} {p3 : Int32} {rv : Int32} {σf : St} (h : x_X10_buys p1 p2 p3 σ = some (rv, σf)) : CM l yX10_buys cX10_buys 4 (some .int) rm_X10_buys [.ref (eA E 0), .int p1, .int p2, .int p3] E (wM E σ ++ X) (wM E σf ++ X) (qI rv) := by
  refine CM.start (by decide) (Nat.le_of_ble_eq_true rfl) (fun p e s m a below meth c A ls cx hr hlk hV hl => ?_)
  have cx : CallFix p m c cX10_buys 4 s a TBL RX10 := cx
  have hx := cx.1
  have hb := cx.2.1
  have hl : lv_has ls 4 [(0, .ref (eA E 0)), (1, .int p1), (2, .int p2), (3, .int p3)] := hl
  generalize hQ : EQ E (wM E σf ++ X) (qI rv) A s a below = QQ
  obtain ⟨H, hH⟩ : ∃ H, H = s.heap := ⟨_, rfl⟩
  obtain ⟨locs, hlocs⟩ : ∃ z, z = ([] : List Loc) := ⟨_, rfl⟩
  have hV : AtW E (wM E σ ++ X) A s H locs := by rw [hH, hlocs]; exact hV
  have goal : W p l e rm_X10_buys s m a below meth c H locs 0 0 QQ (F0 m 0 ls []) := by
    unfold x_X10_buys at h
    refine lv_aload_n hx hb dX10_buys_0 rfl (lv_at hl 0 rfl) ?_
    refine lv_iconst (v := 0) hx hb dX10_buys_1 (by decide) ?_
    refine bd_e h (fun σ1 hq h => ?_)
    refine P_X10_thrown cx hV hq mk_6_97 dX10_buys_2 (fun H locs hV => ?_)
    refine lv_aload_n hx hb dX10_buys_5 rfl (lv_at hl 0 rfl) ?_
    refine lv_iload_n hx hb dX10_buys_6 rfl (lv_at hl 1 rfl) ?_
    refine lv_iconst (v := 1) hx hb dX10_buys_7 (by decide) ?_
    refine bd2_e h (fun v2 σ3 hq h => ?_)
    refine k_X10_isLooker hq cx hV mk_7_180 ⟨Nat.le_of_ble_eq_true rfl, Nat.le_of_ble_eq_true rfl⟩ ⟨Nat.zero_le _, Nat.zero_le _⟩ hl.1 (Nat.le_of_ble_eq_true rfl) dX10_buys_8 (fun H locs hV => ?_)
    refine lv_if_eq (tgt := 29) hx hb dX10_buys_11 (by decide) (fun hc => ?_) (fun hc => ?_)
    · have h := ifp hc h
      refine lv_iconst (v := 0) hx hb dX10_buys_29 (by decide) ?_
      obtain ⟨h1, h2⟩ := Prod.mk.inj (Option.some.inj h)
      subst h1
      subst h2
      subst hQ
      exact r_ireti cx hr hlk hV dX10_buys_30
    · have h := ifn hc h
      refine lv_aload_n hx hb dX10_buys_14 rfl (lv_at hl 0 rfl) ?_
      refine lv_iload_n hx hb dX10_buys_15 rfl (lv_at hl 3 rfl) ?_
      refine lv_iconst (v := 0) hx hb dX10_buys_16 (by decide) ?_
      refine lv_iconst (v := 3) hx hb dX10_buys_17 (by decide) ?_
      refine bd_e h (fun v4 hq h => ?_)
      refine k_X10_within hq cx hV mk_7_141 ⟨Nat.le_of_ble_eq_true rfl, Nat.le_of_ble_eq_true rfl⟩ ⟨Nat.zero_le _, Nat.zero_le _⟩ hl.1 (Nat.le_of_ble_eq_true rfl) dX10_buys_18 (fun H locs hV => ?_)
      refine lv_iconst (v := 2) hx hb dX10_buys_21 (by decide) ?_
      refine lv_iconst (v := 2) hx hb dX10_buys_22 (by decide) ?_
      refine bd2_e h (fun v5 σ6 hq h => ?_)
      refine k_X10_may hq cx hV mk_7_62 ⟨Nat.le_of_ble_eq_true rfl, Nat.le_of_ble_eq_true rfl⟩ ⟨Nat.zero_le _, Nat.zero_le _⟩ hl.1 (Nat.le_of_ble_eq_true rfl) dX10_buys_23 (fun H locs hV => ?_)
      refine lv_if_ne (tgt := 31) hx hb dX10_buys_26 (by decide) (fun hc => ?_) (fun hc => ?_)
      · have h := ifn hc h
        refine lv_aload_n hx hb dX10_buys_31 rfl (lv_at hl 0 rfl) ?_
        refine bd_e h (fun σ7 hq h => ?_)
        refine k_X10_keeps hq cx hV mk_8_17 ⟨Nat.le_of_ble_eq_true rfl, Nat.le_of_ble_eq_true rfl⟩ ⟨Nat.zero_le _, Nat.zero_le _⟩ hl.1 (Nat.le_of_ble_eq_true rfl) dX10_buys_32 (fun H locs hV => ?_)
        refine lv_aload_n hx hb dX10_buys_35 rfl (lv_at hl 0 rfl) ?_
        refine bd_e h (fun σ8 hq h => ?_)
        refine k_X10_asTold hq cx hV mk_7_216 ⟨Nat.le_of_ble_eq_true rfl, Nat.le_of_ble_eq_true rfl⟩ ⟨Nat.zero_le _, Nat.zero_le _⟩ hl.1 (Nat.le_of_ble_eq_true rfl) dX10_buys_36 (fun H locs hV => ?_)
        refine lv_aload_n hx hb dX10_buys_39 rfl (lv_at hl 0 rfl) ?_
        refine lv_iload_n hx hb dX10_buys_40 rfl (lv_at hl 2 rfl) ?_
        refine bd_e h (fun σ9 hq h => ?_)
        refine k_X10_goes hq cx hV mk_7_220 ⟨Nat.le_of_ble_eq_true rfl, Nat.le_of_ble_eq_true rfl⟩ ⟨Nat.zero_le _, Nat.zero_le _⟩ hl.1 (Nat.le_of_ble_eq_true rfl) dX10_buys_41 (fun H locs hV => ?_)
        refine lv_aload_n hx hb dX10_buys_44 rfl (lv_at hl 0 rfl) ?_
        refine bd_e h (fun σ10 hq h => ?_)
        refine k_X10_back hq cx hV mk_8_25 ⟨Nat.le_of_ble_eq_true rfl, Nat.le_of_ble_eq_true rfl⟩ ⟨Nat.zero_le _, Nat.zero_le _⟩ hl.1 (Nat.le_of_ble_eq_true rfl) dX10_buys_45 (fun H locs hV => ?_)
        refine lv_iload_n hx hb dX10_buys_48 rfl (lv_at hl 3 rfl) ?_
        refine lv_if_ne (tgt := 61) hx hb dX10_buys_49 (by decide) (fun hc => ?_) (fun hc => ?_)
        · have h := ifn hc h
          refine lv_iload_n hx hb dX10_buys_61 rfl (lv_at hl 3 rfl) ?_
          refine lv_iconst (v := 1) hx hb dX10_buys_62 (by decide) ?_
          refine lv_icmp_ne (tgt := 75) hx hb dX10_buys_63 (by decide) (fun hc => ?_) (fun hc => ?_)
          · have h := ifn hc h
            refine lv_iload_n hx hb dX10_buys_75 rfl (lv_at hl 3 rfl) ?_
            refine lv_iconst (v := 2) hx hb dX10_buys_76 (by decide) ?_
            refine lv_icmp_ne (tgt := 89) hx hb dX10_buys_77 (by decide) (fun hc => ?_) (fun hc => ?_)
            · have h := ifn hc h
              refine lv_aload_n hx hb dX10_buys_89 rfl (lv_at hl 0 rfl) ?_
              refine G_X10_goneAt cx hV mk_6_138 dX10_buys_90 ?_
              refine lv_iload_n hx hb dX10_buys_93 rfl (lv_at hl 1 rfl) ?_
              refine bd_e h (fun v11 hq h => ?_)
              refine R_M_iald cx hV (by decide) hq dX10_buys_94 ?_
              obtain ⟨h1, h2⟩ := Prod.mk.inj (Option.some.inj h)
              subst h1
              subst h2
              subst hQ
              exact r_ireti cx hr hlk hV dX10_buys_95
            · have h := ifp hc h
              refine lv_aload_n hx hb dX10_buys_80 rfl (lv_at hl 0 rfl) ?_
              refine G_X10_waited cx hV mk_6_137 dX10_buys_81 ?_
              refine lv_iload_n hx hb dX10_buys_84 rfl (lv_at hl 1 rfl) ?_
              refine bd_e h (fun v12 hq h => ?_)
              refine R_M_iald cx hV (by decide) hq dX10_buys_85 ?_
              refine lv_goto (tgt := 95) hx hb dX10_buys_86 (by decide) ?_
              obtain ⟨h1, h2⟩ := Prod.mk.inj (Option.some.inj h)
              subst h1
              subst h2
              subst hQ
              exact r_ireti cx hr hlk hV dX10_buys_95
          · have h := ifp hc h
            refine lv_aload_n hx hb dX10_buys_66 rfl (lv_at hl 0 rfl) ?_
            refine G_X10_paid cx hV mk_6_136 dX10_buys_67 ?_
            refine lv_iload_n hx hb dX10_buys_70 rfl (lv_at hl 1 rfl) ?_
            refine bd_e h (fun v13 hq h => ?_)
            refine R_M_iald cx hV (by decide) hq dX10_buys_71 ?_
            refine lv_goto (tgt := 95) hx hb dX10_buys_72 (by decide) ?_
            obtain ⟨h1, h2⟩ := Prod.mk.inj (Option.some.inj h)
            subst h1
            subst h2
            subst hQ
            exact r_ireti cx hr hlk hV dX10_buys_95
        · have h := ifp hc h
          refine lv_aload_n hx hb dX10_buys_52 rfl (lv_at hl 0 rfl) ?_
          refine G_X10_bought cx hV mk_6_135 dX10_buys_53 ?_
          refine lv_iload_n hx hb dX10_buys_56 rfl (lv_at hl 1 rfl) ?_
          refine bd_e h (fun v14 hq h => ?_)
          refine R_M_iald cx hV (by decide) hq dX10_buys_57 ?_
          refine lv_goto (tgt := 95) hx hb dX10_buys_58 (by decide) ?_
          obtain ⟨h1, h2⟩ := Prod.mk.inj (Option.some.inj h)
          subst h1
          subst h2
          subst hQ
          exact r_ireti cx hr hlk hV dX10_buys_95
      · have h := ifp hc h
        refine lv_iconst (v := 0) hx hb dX10_buys_29 (by decide) ?_
        obtain ⟨h1, h2⟩ := Prod.mk.inj (Option.some.inj h)
        subst h1
        subst h2
        subst hQ
        exact r_ireti cx hr hlk hV dX10_buys_30
  rw [hH, hlocs] at goal
  exact goal
theorem k_X10_buys {p : Program} {l : Launch} {e : Env} {R : Room} {s : State} {m : MethodId} {a : Array Value} {below : List Frame} {meth : Method} {c : Code} {H : Heap} {locs : List Loc} {cells slots : Nat} {Q : State → Prop} {cc : ByteArray} {own : String} {nL pc : Nat} {ls : Array Slot} {rest : List Value} {A : Nat → Prop} {E : EV} {X : va_W} {σ : St} {p1 : Int32} {p2 : Int32} {p3 : Int32} {rv : Int32} {σf : St} (h : x_X10_buys p1 p2 p3 σ = some (rv, σf)) (cx : CallFix p m c cc nL s a TBL own) (hV : AtW E (wM E σ ++ X) A s H locs) {idx : Nat} (w1 : Cond.methodLink own idx yX10_buys ∈ TBL) (hR : (rm_X10_buys).frames + 1 ≤ R.frames ∧ 8 + (4 + 11) + (rm_X10_buys).locals ≤ R.locals) (hcs : cells ≤ R.cells ∧ slots ≤ R.slots) (hls : ls.size = nL) (hcat : (rest.map fun v => v.category).sum ≤ 8) (d : decode cc pc = .ok (.invokevirtual idx, 3)) (kk : ∀ (H1 : Heap) (locs1 : List Loc), AtW E (wM E σf ++ X) A s H1 locs1 → W p l e R s m a below meth c H1 locs1 cells slots Q (F0 m (pc + 3) ls (.int rv :: rest))) : W p l e R s m a below meth c H locs cells slots Q (F0 m pc ls (.int p3 :: .int p2 :: .int p1 :: .ref (eA E 0) :: rest)) :=
  r_calli (n := 3) (As := [.int p1, .int p2, .int p3]) (q0 := 0) (ci := 10) (qq := (RX10, TX10, 64)) (c_X10_buys h) wM_fst rfl rfl mk_8_38 mk_8_39 mk_1_11 mk_8_40 (by decide +kernel) rfl ⟨rfl, rfl⟩ cx hV w1 hR hcs hls rfl hcat d kk
def x_X10_then (p1 : Int32) (p2 : Int32) (σ : St) : Option (Int32 × St) :=
  bd (some (sI σ 0 0)) fun σ1 =>
  bd2 (x_X10_isSleeve p1 1 σ1) fun v2 σ3 =>
  (if v2 = 0 then
  some (0, σ3)
  else
  bd (x_X10_keeps σ3) fun σ4 =>
  bd (x_X10_asTold σ4) fun σ5 =>
  bd (x_X10_goes p2 σ5) fun σ6 =>
  bd (ldI (gA σ6 7) (lenM 7) p1) fun v7 =>
  bd (x_X10_back σ6) fun σ8 =>
  some (v7, σ8))
abbrev rm_X10_then : Room := { frames := 6, cells := 0, slots := 0, locals := 148 }
set_option maxHeartbeats 4000000 in
set_option maxRecDepth 100000 in
theorem c_X10_then {l : Launch} {E : EV} {X : va_W} {σ : St} {p1 : Int32} {p2 : Int32} {rv : Int32} {σf : St} (h : x_X10_then p1 p2 σ = some (rv, σf)) : CM l yX10_then cX10_then 4 (some .int) rm_X10_then [.ref (eA E 0), .int p1, .int p2] E (wM E σ ++ X) (wM E σf ++ X) (qI rv) := by
  refine CM.start (by decide) (Nat.le_of_ble_eq_true rfl) (fun p e s m a below meth c A ls cx hr hlk hV hl => ?_)
  have cx : CallFix p m c cX10_then 4 s a TBL RX10 := cx
  have hx := cx.1
  have hb := cx.2.1
  have hl : lv_has ls 4 [(0, .ref (eA E 0)), (1, .int p1), (2, .int p2)] := hl
  generalize hQ : EQ E (wM E σf ++ X) (qI rv) A s a below = QQ
  obtain ⟨H, hH⟩ : ∃ H, H = s.heap := ⟨_, rfl⟩
  obtain ⟨locs, hlocs⟩ : ∃ z, z = ([] : List Loc) := ⟨_, rfl⟩
  have hV : AtW E (wM E σ ++ X) A s H locs := by rw [hH, hlocs]; exact hV
  have goal : W p l e rm_X10_then s m a below meth c H locs 0 0 QQ (F0 m 0 ls []) := by
    unfold x_X10_then at h
    refine lv_aload_n hx hb dX10_then_0 rfl (lv_at hl 0 rfl) ?_
    refine lv_iconst (v := 0) hx hb dX10_then_1 (by decide) ?_
    refine bd_e h (fun σ1 hq h => ?_)
    refine P_X10_thrown cx hV hq mk_6_97 dX10_then_2 (fun H locs hV => ?_)
    refine lv_aload_n hx hb dX10_then_5 rfl (lv_at hl 0 rfl) ?_
    refine lv_iload_n hx hb dX10_then_6 rfl (lv_at hl 1 rfl) ?_
    refine lv_iconst (v := 1) hx hb dX10_then_7 (by decide) ?_
    refine bd2_e h (fun v2 σ3 hq h => ?_)
    refine k_X10_isSleeve hq cx hV mk_7_160 ⟨Nat.le_of_ble_eq_true rfl, Nat.le_of_ble_eq_true rfl⟩ ⟨Nat.zero_le _, Nat.zero_le _⟩ hl.1 (Nat.le_of_ble_eq_true rfl) dX10_then_8 (fun H locs hV => ?_)
    refine lv_if_ne (tgt := 16) hx hb dX10_then_11 (by decide) (fun hc => ?_) (fun hc => ?_)
    · have h := ifn hc h
      refine lv_aload_n hx hb dX10_then_16 rfl (lv_at hl 0 rfl) ?_
      refine bd_e h (fun σ4 hq h => ?_)
      refine k_X10_keeps hq cx hV mk_8_17 ⟨Nat.le_of_ble_eq_true rfl, Nat.le_of_ble_eq_true rfl⟩ ⟨Nat.zero_le _, Nat.zero_le _⟩ hl.1 (Nat.le_of_ble_eq_true rfl) dX10_then_17 (fun H locs hV => ?_)
      refine lv_aload_n hx hb dX10_then_20 rfl (lv_at hl 0 rfl) ?_
      refine bd_e h (fun σ5 hq h => ?_)
      refine k_X10_asTold hq cx hV mk_7_216 ⟨Nat.le_of_ble_eq_true rfl, Nat.le_of_ble_eq_true rfl⟩ ⟨Nat.zero_le _, Nat.zero_le _⟩ hl.1 (Nat.le_of_ble_eq_true rfl) dX10_then_21 (fun H locs hV => ?_)
      refine lv_aload_n hx hb dX10_then_24 rfl (lv_at hl 0 rfl) ?_
      refine lv_iload_n hx hb dX10_then_25 rfl (lv_at hl 2 rfl) ?_
      refine bd_e h (fun σ6 hq h => ?_)
      refine k_X10_goes hq cx hV mk_7_220 ⟨Nat.le_of_ble_eq_true rfl, Nat.le_of_ble_eq_true rfl⟩ ⟨Nat.zero_le _, Nat.zero_le _⟩ hl.1 (Nat.le_of_ble_eq_true rfl) dX10_then_26 (fun H locs hV => ?_)
      refine lv_aload_n hx hb dX10_then_29 rfl (lv_at hl 0 rfl) ?_
      refine G_X10_liesAt cx hV mk_6_112 dX10_then_30 ?_
      refine lv_iload_n hx hb dX10_then_33 rfl (lv_at hl 1 rfl) ?_
      refine bd_e h (fun v7 hq h => ?_)
      refine R_M_iald cx hV (by decide) hq dX10_then_34 ?_
      refine lv_istore_n (lv' := [(3, .int v7), (0, .ref (eA E 0)), (1, .int p1), (2, .int p2)]) hx hb dX10_then_35 rfl hl (by decide) rfl (fun ls hl => ?_)
      refine lv_aload_n hx hb dX10_then_36 rfl (lv_at hl 1 rfl) ?_
      refine bd_e h (fun σ8 hq h => ?_)
      refine k_X10_back hq cx hV mk_8_25 ⟨Nat.le_of_ble_eq_true rfl, Nat.le_of_ble_eq_true rfl⟩ ⟨Nat.zero_le _, Nat.zero_le _⟩ hl.1 (Nat.le_of_ble_eq_true rfl) dX10_then_37 (fun H locs hV => ?_)
      refine lv_iload_n hx hb dX10_then_40 rfl (lv_at hl 0 rfl) ?_
      obtain ⟨h1, h2⟩ := Prod.mk.inj (Option.some.inj h)
      subst h1
      subst h2
      subst hQ
      exact r_ireti cx hr hlk hV dX10_then_41
    · have h := ifp hc h
      refine lv_iconst (v := 0) hx hb dX10_then_14 (by decide) ?_
      obtain ⟨h1, h2⟩ := Prod.mk.inj (Option.some.inj h)
      subst h1
      subst h2
      subst hQ
      exact r_ireti cx hr hlk hV dX10_then_15
  rw [hH, hlocs] at goal
  exact goal
theorem k_X10_then {p : Program} {l : Launch} {e : Env} {R : Room} {s : State} {m : MethodId} {a : Array Value} {below : List Frame} {meth : Method} {c : Code} {H : Heap} {locs : List Loc} {cells slots : Nat} {Q : State → Prop} {cc : ByteArray} {own : String} {nL pc : Nat} {ls : Array Slot} {rest : List Value} {A : Nat → Prop} {E : EV} {X : va_W} {σ : St} {p1 : Int32} {p2 : Int32} {rv : Int32} {σf : St} (h : x_X10_then p1 p2 σ = some (rv, σf)) (cx : CallFix p m c cc nL s a TBL own) (hV : AtW E (wM E σ ++ X) A s H locs) {idx : Nat} (w1 : Cond.methodLink own idx yX10_then ∈ TBL) (hR : (rm_X10_then).frames + 1 ≤ R.frames ∧ 8 + (4 + 11) + (rm_X10_then).locals ≤ R.locals) (hcs : cells ≤ R.cells ∧ slots ≤ R.slots) (hls : ls.size = nL) (hcat : (rest.map fun v => v.category).sum ≤ 8) (d : decode cc pc = .ok (.invokevirtual idx, 3)) (kk : ∀ (H1 : Heap) (locs1 : List Loc), AtW E (wM E σf ++ X) A s H1 locs1 → W p l e R s m a below meth c H1 locs1 cells slots Q (F0 m (pc + 3) ls (.int rv :: rest))) : W p l e R s m a below meth c H locs cells slots Q (F0 m pc ls (.int p2 :: .int p1 :: .ref (eA E 0) :: rest)) :=
  r_calli (n := 2) (As := [.int p1, .int p2]) (q0 := 0) (ci := 10) (qq := (RX10, TX10, 64)) (c_X10_then h) wM_fst rfl rfl mk_8_42 mk_8_43 mk_1_11 mk_8_44 (by decide +kernel) rfl ⟨rfl, rfl⟩ cx hV w1 hR hcs hls rfl hcat d kk
def x_X10_findOdds_b2_30 (p1 : Int32) (p2 : Int32) (w3 : Int32) (w4 : Int32) (w5 : Int64) (σ6 : St) : Option (Bool × (Int32 × St)) :=
  bd (stJ σ6 0 8 w4 w5) fun σ7 =>
  some (true, ((w3 + 1), σ7))
def x_X10_findOdds_L2 (p1 : Int32) (p2 : Int32) (u1 : Int32) (σ2 : St) : Option (Bool × (Int32 × St)) :=
  (if (gI σ2 8) ≤ u1 then
  some (false, (u1, σ2))
  else
  bd (ldI (gA σ2 7) (lenM 7) p1) fun v8 =>
  (if v8 = u1 then
  x_X10_findOdds_b2_30 p1 p2 u1 u1 (1 : Int64) σ2
  else
  x_X10_findOdds_b2_30 p1 p2 u1 u1 (0 : Int64) σ2))
def x_X10_findOdds_L52 (p1 : Int32) (p2 : Int32) (u12 : Int32) (u14 : Int32) (σ15 : St) : Option (Bool × (Int32 × St)) :=
  (if (gI σ15 8) ≤ u14 then
  some (false, (u14, σ15))
  else
  bd (stJ σ15 1 8 u14 (0 : Int64)) fun σ16 =>
  some (true, ((u14 + 1), σ16)))
def x_X10_findOdds_L244 (p1 : Int32) (p2 : Int32) (u12 : Int32) (w21 : Int32) (w22 : Int64) (u31 : Int32) (σ32 : St) : Option (Bool × (Int32 × St)) :=
  (if (gI σ32 8) ≤ u31 then
  some (false, (u31, σ32))
  else
  bd (ldJ (gJ σ32 1) 8 u31) fun v33 =>
  bd (ldI (gA σ32 6) (lenM 6) 3) fun v34 =>
  bd (stJ σ32 1 8 u31 (v33 + ((w22 * (Int32.toInt64 v34)) * (2 : Int64)))) fun σ35 =>
  some (true, ((u31 + 1), σ35)))
def x_X10_findOdds_b78_191 (p1 : Int32) (p2 : Int32) (u12 : Int32) (w21 : Int32) (w22 : Int64) (w23 : Int32) (σ24 : St) : Option (Bool × (Int32 × St)) :=
  bd (ldJ (gJ σ24 1) 8 w23) fun v25 =>
  bd (ldI (gA σ24 6) (lenM 6) 1) fun v26 =>
  bd (stJ σ24 1 8 w23 (v25 + ((w22 * (Int32.toInt64 v26)) * (Int32.toInt64 (gI σ24 8))))) fun σ27 =>
  bd (ldJ (gJ σ27 1) 8 w21) fun v28 =>
  bd (ldI (gA σ27 6) (lenM 6) 2) fun v29 =>
  bd (stJ σ27 1 8 w21 (v28 + (((w22 * (Int32.toInt64 v29)) * (2 : Int64)) * (Int32.toInt64 (gI σ27 8))))) fun σ30 =>
  bd2 (lp (fun v : (Int32 × St) => x_X10_findOdds_L244 p1 p2 u12 w21 w22 v.1 v.2) FU (0, σ30)) fun z36 σ37 =>
  some (true, ((w21 + 1), σ37))
def x_X10_findOdds_b78_147 (p1 : Int32) (p2 : Int32) (u12 : Int32) (w38 : Int32) (w39 : Int64) (w40 : Int32) (σ41 : St) : Option (Bool × (Int32 × St)) :=
  bd (ldJ (gJ σ41 1) 8 w40) fun v42 =>
  bd (ldI (gA σ41 6) (lenM 6) 1) fun v43 =>
  bd (stJ σ41 1 8 w40 (v42 + ((w39 * (Int32.toInt64 v43)) * (Int32.toInt64 (gI σ41 8))))) fun σ44 =>
  (if (gI σ44 8) ≤ (w38 + 1) then
  x_X10_findOdds_b78_191 p1 p2 u12 w38 w39 w38 σ44
  else
  x_X10_findOdds_b78_191 p1 p2 u12 w38 w39 (w38 + 1) σ44)
def x_X10_findOdds_L78 (p1 : Int32) (p2 : Int32) (u12 : Int32) (u19 : Int32) (σ20 : St) : Option (Bool × (Int32 × St)) :=
  (if (gI σ20 8) ≤ u19 then
  some (false, (u19, σ20))
  else
  bd (ldJ (gJ σ20 0) 8 u19) fun v45 =>
  bd (x_X10_own p1 σ20) fun v46 =>
  bd (ldJ (gJ σ20 1) 8 v46) fun v47 =>
  bd (ldI (gA σ20 6) (lenM 6) 0) fun v48 =>
  bd (stJ σ20 1 8 v46 (v47 + (((v45 * (Int32.toInt64 v48)) * (2 : Int64)) * (Int32.toInt64 (gI σ20 8))))) fun σ49 =>
  (if u19 ≤ 0 then
  x_X10_findOdds_b78_147 p1 p2 u12 u19 v45 u19 σ49
  else
  x_X10_findOdds_b78_147 p1 p2 u12 u19 v45 (u19 - 1) σ49))
def x_X10_findOdds_L292 (p1 : Int32) (p2 : Int32) (u12 : Int32) (u52 : Int32) (σ53 : St) : Option (Bool × (Int32 × St)) :=
  (if (gI σ53 8) ≤ u52 then
  some (false, (u52, σ53))
  else
  bd (ldJ (gJ σ53 1) 8 u52) fun v54 =>
  bd (stJ σ53 0 8 u52 v54) fun σ55 =>
  some (true, ((u52 + 1), σ55)))
def x_X10_findOdds_L44 (p1 : Int32) (p2 : Int32) (u12 : Int32) (σ13 : St) : Option (Bool × (Int32 × St)) :=
  (if p2 ≤ u12 then
  some (false, (u12, σ13))
  else
  bd2 (lp (fun v : (Int32 × St) => x_X10_findOdds_L52 p1 p2 u12 v.1 v.2) FU (0, σ13)) fun z17 σ18 =>
  bd2 (lp (fun v : (Int32 × St) => x_X10_findOdds_L78 p1 p2 u12 v.1 v.2) FU (0, σ18)) fun z50 σ51 =>
  bd2 (lp (fun v : (Int32 × St) => x_X10_findOdds_L292 p1 p2 u12 v.1 v.2) FU (0, σ51)) fun z56 σ57 =>
  bd (x_X10_weights σ57) fun v58 =>
  bd (some (sL σ57 0 ((gL σ57 0) * (((2 : Int64) * (Int32.toInt64 v58)) * (Int32.toInt64 (gI σ57 8)))))) fun σ59 =>
  some (true, ((u12 + 1), σ59)))
def x_X10_findOdds (p1 : Int32) (p2 : Int32) (σ : St) : Option St :=
  bd2 (lp (fun v : (Int32 × St) => x_X10_findOdds_L2 p1 p2 v.1 v.2) FU (0, σ)) fun z9 σ10 =>
  bd (some (sL σ10 0 (1 : Int64))) fun σ11 =>
  bd2 (lp (fun v : (Int32 × St) => x_X10_findOdds_L44 p1 p2 v.1 v.2) FU (0, σ11)) fun z60 σ61 =>
  some σ61
abbrev rm_X10_findOdds : Room := { frames := 2, cells := 0, slots := 0, locals := 46 }
set_option maxHeartbeats 4000000 in
set_option maxRecDepth 100000 in
theorem c_X10_findOdds {l : Launch} {E : EV} {X : va_W} {σ : St} {p1 : Int32} {p2 : Int32} {σf : St} (h : x_X10_findOdds p1 p2 σ = some σf) : CM l yX10_findOdds cX10_findOdds 8 none rm_X10_findOdds [.ref (eA E 0), .int p1, .int p2] E (wM E σ ++ X) (wM E σf ++ X) qV := by
  refine CM.start (by decide) (Nat.le_of_ble_eq_true rfl) (fun p e s m a below meth c A ls cx hr hlk hV hl => ?_)
  have cx : CallFix p m c cX10_findOdds 8 s a TBL RX10 := cx
  have hx := cx.1
  have hb := cx.2.1
  have hl : lv_has ls 8 [(0, .ref (eA E 0)), (1, .int p1), (2, .int p2)] := hl
  generalize hQ : EQ E (wM E σf ++ X) qV A s a below = QQ
  obtain ⟨H, hH⟩ : ∃ H, H = s.heap := ⟨_, rfl⟩
  obtain ⟨locs, hlocs⟩ : ∃ z, z = ([] : List Loc) := ⟨_, rfl⟩
  have hV : AtW E (wM E σ ++ X) A s H locs := by rw [hH, hlocs]; exact hV
  have goal : W p l e rm_X10_findOdds s m a below meth c H locs 0 0 QQ (F0 m 0 ls []) := by
    unfold x_X10_findOdds at h
    refine lv_iconst (v := 0) hx hb dX10_findOdds_0 (by decide) ?_
    refine lv_istore_n (lv' := [(3, .int 0), (0, .ref (eA E 0)), (1, .int p1), (2, .int p2)]) hx hb dX10_findOdds_1 rfl hl (by decide) rfl (fun ls hl => ?_)
    refine bd2_e h (fun z9 σ10 ho h => ?_)
    refine (lp_rule (G := (fun v : (Int32 × St) => ∀ (H : Heap) (locs : List Loc) (ls : Array Slot), AtW E (wM E v.2 ++ X) A s H locs → lv_has ls 8 [(0, .ref (eA E 0)), (1, .int p1), (2, .int p2), (3, .int v.1)] → W p l e rm_X10_findOdds s m a below meth c H locs 0 0 QQ (F0 m 2 ls []))) (K := (fun v : (Int32 × St) => ∀ (H : Heap) (locs : List Loc) (ls : Array Slot), AtW E (wM E v.2 ++ X) A s H locs → lv_has ls 8 [(0, .ref (eA E 0)), (1, .int p1), (2, .int p2)] → W p l e rm_X10_findOdds s m a below meth c H locs 0 0 QQ (F0 m 37 ls []))) (fun v b1 y1 h hT1 hF1 => ?_) ho (fun H locs ls hV hl => ?_)) _ _ _ hV (lv_sub hl [1, 2, 3, 0] rfl)
    · have hj2_30 : ∀ (w3 : Int32) (w4 : Int32) (w5 : Int64) (σ6 : St) (H : Heap) (locs : List Loc) (ls : Array Slot), x_X10_findOdds_b2_30 p1 p2 w3 w4 w5 σ6 = some (b1, y1) → AtW E (wM E σ6 ++ X) A s H locs → lv_has ls 8 [(0, .ref (eA E 0)), (1, .int p1), (2, .int p2), (3, .int w3)] → W p l e rm_X10_findOdds s m a below meth c H locs 0 0 QQ (F0 m 30 ls [.long w5, .int w4, .ref (eA E 32)]) := by
        intro w3 w4 w5 σ6 H locs ls h hV hl
        unfold x_X10_findOdds_b2_30 at h
        refine bd_e h (fun σ7 hq h => ?_)
        refine R_M0_last cx hV hq dX10_findOdds_30 (fun H locs hV => ?_)
        refine lv_iinc (v := (w3 + 1)) (lv' := [(3, .int (w3 + 1)), (0, .ref (eA E 0)), (1, .int p1), (2, .int p2)]) hx hb dX10_findOdds_31 hl (k := 3) rfl rfl (by decide) rfl (fun ls hl => ?_)
        refine lv_goto (tgt := 2) hx hb dX10_findOdds_34 (by decide) ?_
        cases h
        exact hT1 rfl _ _ _ hV (lv_sub hl [1, 2, 3, 0] rfl)
      obtain ⟨u1, σ2⟩ := v
      have h : x_X10_findOdds_L2 p1 p2 u1 σ2 = some (b1, y1) := h
      intro H locs ls hV hl
      have hV : AtW E (wM E σ2 ++ X) A s H locs := hV
      have hl : lv_has ls 8 [(0, .ref (eA E 0)), (1, .int p1), (2, .int p2), (3, .int u1)] := hl
      unfold x_X10_findOdds_L2 at h
      refine lv_iload_n hx hb dX10_findOdds_2 rfl (lv_at hl 3 rfl) ?_
      refine lv_aload_n hx hb dX10_findOdds_3 rfl (lv_at hl 0 rfl) ?_
      refine G_X10_crates cx hV mk_6_121 dX10_findOdds_4 ?_
      refine lv_icmp_ge (tgt := 37) hx hb dX10_findOdds_7 (by decide) (fun hc => ?_) (fun hc => ?_)
      · have h := ifp hc h
        cases h
        exact hF1 rfl _ _ _ hV (lv_sub hl [0, 1, 2] rfl)
      · have h := ifn hc h
        refine lv_aload_n hx hb dX10_findOdds_10 rfl (lv_at hl 0 rfl) ?_
        refine G_X10_part cx hV mk_6_148 dX10_findOdds_11 ?_
        refine lv_iload_n hx hb dX10_findOdds_14 rfl (lv_at hl 3 rfl) ?_
        refine lv_aload_n hx hb dX10_findOdds_15 rfl (lv_at hl 0 rfl) ?_
        refine G_X10_liesAt cx hV mk_6_112 dX10_findOdds_16 ?_
        refine lv_iload_n hx hb dX10_findOdds_19 rfl (lv_at hl 1 rfl) ?_
        refine bd_e h (fun v8 hq h => ?_)
        refine R_M_iald cx hV (by decide) hq dX10_findOdds_20 ?_
        refine lv_iload_n hx hb dX10_findOdds_21 rfl (lv_at hl 3 rfl) ?_
        refine lv_icmp_ne (tgt := 29) hx hb dX10_findOdds_22 (by decide) (fun hc => ?_) (fun hc => ?_)
        · have h := ifn hc h
          refine lv_lconst (v := 0) hx hb dX10_findOdds_29 (by decide) ?_
          exact hj2_30 u1 u1 (0 : Int64) σ2 _ _ _ h hV (lv_sub hl [0, 1, 2, 3] rfl)
        · have h := ifp hc h
          refine lv_lconst (v := 1) hx hb dX10_findOdds_25 (by decide) ?_
          refine lv_goto (tgt := 30) hx hb dX10_findOdds_26 (by decide) ?_
          exact hj2_30 u1 u1 (1 : Int64) σ2 _ _ _ h hV (lv_sub hl [0, 1, 2, 3] rfl)
    · have hV : AtW E (wM E σ10 ++ X) A s H locs := hV
      have hl : lv_has ls 8 [(0, .ref (eA E 0)), (1, .int p1), (2, .int p2)] := hl
      refine lv_aload_n hx hb dX10_findOdds_37 rfl (lv_at hl 0 rfl) ?_
      refine lv_lconst (v := 1) hx hb dX10_findOdds_38 (by decide) ?_
      refine bd_e h (fun σ11 hq h => ?_)
      refine P_X10_allParts cx hV hq mk_6_150 dX10_findOdds_39 (fun H locs hV => ?_)
      refine lv_iconst (v := 0) hx hb dX10_findOdds_42 (by decide) ?_
      refine lv_istore_n (lv' := [(3, .int 0), (0, .ref (eA E 0)), (1, .int p1), (2, .int p2)]) hx hb dX10_findOdds_43 rfl hl (by decide) rfl (fun ls hl => ?_)
      refine bd2_e h (fun z60 σ61 ho h => ?_)
      refine (lp_rule (G := (fun v : (Int32 × St) => ∀ (H : Heap) (locs : List Loc) (ls : Array Slot), AtW E (wM E v.2 ++ X) A s H locs → lv_has ls 8 [(0, .ref (eA E 0)), (1, .int p1), (2, .int p2), (3, .int v.1)] → W p l e rm_X10_findOdds s m a below meth c H locs 0 0 QQ (F0 m 44 ls []))) (K := (fun v : (Int32 × St) => ∀ (H : Heap) (locs : List Loc) (ls : Array Slot), AtW E (wM E v.2 ++ X) A s H locs → lv_has ls 8 [] → W p l e rm_X10_findOdds s m a below meth c H locs 0 0 QQ (F0 m 351 ls []))) (fun v b1 y1 h hT1 hF1 => ?_) ho (fun H locs ls hV hl => ?_)) _ _ _ hV (lv_sub hl [1, 2, 3, 0] rfl)
      · obtain ⟨u12, σ13⟩ := v
        have h : x_X10_findOdds_L44 p1 p2 u12 σ13 = some (b1, y1) := h
        intro H locs ls hV hl
        have hV : AtW E (wM E σ13 ++ X) A s H locs := hV
        have hl : lv_has ls 8 [(0, .ref (eA E 0)), (1, .int p1), (2, .int p2), (3, .int u12)] := hl
        unfold x_X10_findOdds_L44 at h
        refine lv_iload_n hx hb dX10_findOdds_44 rfl (lv_at hl 3 rfl) ?_
        refine lv_iload_n hx hb dX10_findOdds_45 rfl (lv_at hl 2 rfl) ?_
        refine lv_icmp_ge (tgt := 351) hx hb dX10_findOdds_46 (by decide) (fun hc => ?_) (fun hc => ?_)
        · have h := ifp hc h
          cases h
          exact hF1 rfl _ _ _ hV (lv_sub hl [] rfl)
        · have h := ifn hc h
          refine lv_iconst (v := 0) hx hb dX10_findOdds_49 (by decide) ?_
          refine lv_istore (lv' := [(4, .int 0), (0, .ref (eA E 0)), (1, .int p1), (2, .int p2), (3, .int u12)]) hx hb dX10_findOdds_50 hl (by decide) rfl (fun ls hl => ?_)
          refine bd2_e h (fun z17 σ18 ho h => ?_)
          refine (lp_rule (G := (fun v : (Int32 × St) => ∀ (H : Heap) (locs : List Loc) (ls : Array Slot), AtW E (wM E v.2 ++ X) A s H locs → lv_has ls 8 [(0, .ref (eA E 0)), (1, .int p1), (2, .int p2), (3, .int u12), (4, .int v.1)] → W p l e rm_X10_findOdds s m a below meth c H locs 0 0 QQ (F0 m 52 ls []))) (K := (fun v : (Int32 × St) => ∀ (H : Heap) (locs : List Loc) (ls : Array Slot), AtW E (wM E v.2 ++ X) A s H locs → lv_has ls 8 [(0, .ref (eA E 0)), (1, .int p1), (2, .int p2), (3, .int u12)] → W p l e rm_X10_findOdds s m a below meth c H locs 0 0 QQ (F0 m 75 ls []))) (fun v b2 y2 h hT2 hF2 => ?_) ho (fun H locs ls hV hl => ?_)) _ _ _ hV (lv_sub hl [1, 2, 3, 4, 0] rfl)
          · obtain ⟨u14, σ15⟩ := v
            have h : x_X10_findOdds_L52 p1 p2 u12 u14 σ15 = some (b2, y2) := h
            intro H locs ls hV hl
            have hV : AtW E (wM E σ15 ++ X) A s H locs := hV
            have hl : lv_has ls 8 [(0, .ref (eA E 0)), (1, .int p1), (2, .int p2), (3, .int u12), (4, .int u14)] := hl
            unfold x_X10_findOdds_L52 at h
            refine lv_iload hx hb dX10_findOdds_52 (lv_at hl 4 rfl) ?_
            refine lv_aload_n hx hb dX10_findOdds_54 rfl (lv_at hl 0 rfl) ?_
            refine G_X10_crates cx hV mk_6_121 dX10_findOdds_55 ?_
            refine lv_icmp_ge (tgt := 75) hx hb dX10_findOdds_58 (by decide) (fun hc => ?_) (fun hc => ?_)
            · have h := ifp hc h
              cases h
              exact hF2 rfl _ _ _ hV (lv_sub hl [0, 1, 2, 3] rfl)
            · have h := ifn hc h
              refine lv_aload_n hx hb dX10_findOdds_61 rfl (lv_at hl 0 rfl) ?_
              refine G_X10_newPart cx hV mk_6_149 dX10_findOdds_62 ?_
              refine lv_iload hx hb dX10_findOdds_65 (lv_at hl 4 rfl) ?_
              refine lv_lconst (v := 0) hx hb dX10_findOdds_67 (by decide) ?_
              refine bd_e h (fun σ16 hq h => ?_)
              refine R_M1_last cx hV hq dX10_findOdds_68 (fun H locs hV => ?_)
              refine lv_iinc (v := (u14 + 1)) (lv' := [(4, .int (u14 + 1)), (0, .ref (eA E 0)), (1, .int p1), (2, .int p2), (3, .int u12)]) hx hb dX10_findOdds_69 hl (k := 4) rfl rfl (by decide) rfl (fun ls hl => ?_)
              refine lv_goto (tgt := 52) hx hb dX10_findOdds_72 (by decide) ?_
              cases h
              exact hT2 rfl _ _ _ hV (lv_sub hl [1, 2, 3, 4, 0] rfl)
          · have hV : AtW E (wM E σ18 ++ X) A s H locs := hV
            have hl : lv_has ls 8 [(0, .ref (eA E 0)), (1, .int p1), (2, .int p2), (3, .int u12)] := hl
            refine lv_iconst (v := 0) hx hb dX10_findOdds_75 (by decide) ?_
            refine lv_istore (lv' := [(4, .int 0), (0, .ref (eA E 0)), (1, .int p1), (2, .int p2), (3, .int u12)]) hx hb dX10_findOdds_76 hl (by decide) rfl (fun ls hl => ?_)
            refine bd2_e h (fun z50 σ51 ho h => ?_)
            refine (lp_rule (G := (fun v : (Int32 × St) => ∀ (H : Heap) (locs : List Loc) (ls : Array Slot), AtW E (wM E v.2 ++ X) A s H locs → lv_has ls 8 [(0, .ref (eA E 0)), (1, .int p1), (2, .int p2), (3, .int u12), (4, .int v.1)] → W p l e rm_X10_findOdds s m a below meth c H locs 0 0 QQ (F0 m 78 ls []))) (K := (fun v : (Int32 × St) => ∀ (H : Heap) (locs : List Loc) (ls : Array Slot), AtW E (wM E v.2 ++ X) A s H locs → lv_has ls 8 [(0, .ref (eA E 0)), (1, .int p1), (2, .int p2), (3, .int u12)] → W p l e rm_X10_findOdds s m a below meth c H locs 0 0 QQ (F0 m 289 ls []))) (fun v b2 y2 h hT2 hF2 => ?_) ho (fun H locs ls hV hl => ?_)) _ _ _ hV (lv_sub hl [1, 2, 3, 4, 0] rfl)
            · have hj78_191 : ∀ (w21 : Int32) (w22 : Int64) (w23 : Int32) (σ24 : St) (H : Heap) (locs : List Loc) (ls : Array Slot), x_X10_findOdds_b78_191 p1 p2 u12 w21 w22 w23 σ24 = some (b2, y2) → AtW E (wM E σ24 ++ X) A s H locs → lv_has ls 8 [(0, .ref (eA E 0)), (1, .int p1), (2, .int p2), (3, .int u12), (4, .int w21), (5, .long w22)] → W p l e rm_X10_findOdds s m a below meth c H locs 0 0 QQ (F0 m 191 ls [.int w23, .ref (eA E 33)]) := by
                intro w21 w22 w23 σ24 H locs ls h hV hl
                unfold x_X10_findOdds_b78_191 at h
                refine lv_dup2_11 hx hb dX10_findOdds_191 rfl rfl ?_
                refine bd_e h (fun v25 hq h => ?_)
                refine R_M1_lald cx hV hq dX10_findOdds_192 ?_
                refine lv_lload hx hb dX10_findOdds_193 (lv_at hl 5 rfl) ?_
                refine lv_aload_n hx hb dX10_findOdds_195 rfl (lv_at hl 0 rfl) ?_
                refine G_X10_weight cx hV mk_6_111 dX10_findOdds_196 ?_
                refine lv_iconst (v := 1) hx hb dX10_findOdds_199 (by decide) ?_
                refine bd_e h (fun v26 hq h => ?_)
                refine R_M_iald cx hV (by decide) hq dX10_findOdds_200 ?_
                refine lv_i2l (v := (Int32.toInt64 v26)) hx hb dX10_findOdds_201 rfl ?_
                refine lv_lmul hx hb dX10_findOdds_202 ?_
                refine lv_aload_n hx hb dX10_findOdds_203 rfl (lv_at hl 0 rfl) ?_
                refine G_X10_crates cx hV mk_6_121 dX10_findOdds_204 ?_
                refine lv_i2l (v := (Int32.toInt64 (gI σ24 8))) hx hb dX10_findOdds_207 rfl ?_
                refine lv_lmul hx hb dX10_findOdds_208 ?_
                refine lv_ladd hx hb dX10_findOdds_209 ?_
                refine bd_e h (fun σ27 hq h => ?_)
                refine R_M1_last cx hV hq dX10_findOdds_210 (fun H locs hV => ?_)
                refine lv_aload_n hx hb dX10_findOdds_211 rfl (lv_at hl 0 rfl) ?_
                refine G_X10_newPart cx hV mk_6_149 dX10_findOdds_212 ?_
                refine lv_iload hx hb dX10_findOdds_215 (lv_at hl 4 rfl) ?_
                refine lv_dup2_11 hx hb dX10_findOdds_217 rfl rfl ?_
                refine bd_e h (fun v28 hq h => ?_)
                refine R_M1_lald cx hV hq dX10_findOdds_218 ?_
                refine lv_lload hx hb dX10_findOdds_219 (lv_at hl 5 rfl) ?_
                refine lv_aload_n hx hb dX10_findOdds_221 rfl (lv_at hl 0 rfl) ?_
                refine G_X10_weight cx hV mk_6_111 dX10_findOdds_222 ?_
                refine lv_iconst (v := 2) hx hb dX10_findOdds_225 (by decide) ?_
                refine bd_e h (fun v29 hq h => ?_)
                refine R_M_iald cx hV (by decide) hq dX10_findOdds_226 ?_
                refine lv_i2l (v := (Int32.toInt64 v29)) hx hb dX10_findOdds_227 rfl ?_
                refine lv_lmul hx hb dX10_findOdds_228 ?_
                refine lv_ldc2 (v := 2) hx hb cx.2.2.2.1 (cx.2.2.2.2 _ mk_8_53) dX10_findOdds_229 ?_
                refine lv_lmul hx hb dX10_findOdds_232 ?_
                refine lv_aload_n hx hb dX10_findOdds_233 rfl (lv_at hl 0 rfl) ?_
                refine G_X10_crates cx hV mk_6_121 dX10_findOdds_234 ?_
                refine lv_i2l (v := (Int32.toInt64 (gI σ27 8))) hx hb dX10_findOdds_237 rfl ?_
                refine lv_lmul hx hb dX10_findOdds_238 ?_
                refine lv_ladd hx hb dX10_findOdds_239 ?_
                refine bd_e h (fun σ30 hq h => ?_)
                refine R_M1_last cx hV hq dX10_findOdds_240 (fun H locs hV => ?_)
                refine lv_iconst (v := 0) hx hb dX10_findOdds_241 (by decide) ?_
                refine lv_istore (lv' := [(7, .int 0), (0, .ref (eA E 0)), (1, .int p1), (2, .int p2), (3, .int u12), (4, .int w21), (5, .long w22)]) hx hb dX10_findOdds_242 hl (by decide) rfl (fun ls hl => ?_)
                refine bd2_e h (fun z36 σ37 ho h => ?_)
                refine (lp_rule (G := (fun v : (Int32 × St) => ∀ (H : Heap) (locs : List Loc) (ls : Array Slot), AtW E (wM E v.2 ++ X) A s H locs → lv_has ls 8 [(0, .ref (eA E 0)), (1, .int p1), (2, .int p2), (3, .int u12), (4, .int w21), (5, .long w22), (7, .int v.1)] → W p l e rm_X10_findOdds s m a below meth c H locs 0 0 QQ (F0 m 244 ls []))) (K := (fun v : (Int32 × St) => ∀ (H : Heap) (locs : List Loc) (ls : Array Slot), AtW E (wM E v.2 ++ X) A s H locs → lv_has ls 8 [(0, .ref (eA E 0)), (1, .int p1), (2, .int p2), (3, .int u12), (4, .int w21)] → W p l e rm_X10_findOdds s m a below meth c H locs 0 0 QQ (F0 m 283 ls []))) (fun v b3 y3 h hT3 hF3 => ?_) ho (fun H locs ls hV hl => ?_)) _ _ _ hV (lv_sub hl [1, 2, 3, 4, 5, 6, 0] rfl)
                · obtain ⟨u31, σ32⟩ := v
                  have h : x_X10_findOdds_L244 p1 p2 u12 w21 w22 u31 σ32 = some (b3, y3) := h
                  intro H locs ls hV hl
                  have hV : AtW E (wM E σ32 ++ X) A s H locs := hV
                  have hl : lv_has ls 8 [(0, .ref (eA E 0)), (1, .int p1), (2, .int p2), (3, .int u12), (4, .int w21), (5, .long w22), (7, .int u31)] := hl
                  unfold x_X10_findOdds_L244 at h
                  refine lv_iload hx hb dX10_findOdds_244 (lv_at hl 6 rfl) ?_
                  refine lv_aload_n hx hb dX10_findOdds_246 rfl (lv_at hl 0 rfl) ?_
                  refine G_X10_crates cx hV mk_6_121 dX10_findOdds_247 ?_
                  refine lv_icmp_ge (tgt := 283) hx hb dX10_findOdds_250 (by decide) (fun hc => ?_) (fun hc => ?_)
                  · have h := ifp hc h
                    cases h
                    exact hF3 rfl _ _ _ hV (lv_sub hl [0, 1, 2, 3, 4] rfl)
                  · have h := ifn hc h
                    refine lv_aload_n hx hb dX10_findOdds_253 rfl (lv_at hl 0 rfl) ?_
                    refine G_X10_newPart cx hV mk_6_149 dX10_findOdds_254 ?_
                    refine lv_iload hx hb dX10_findOdds_257 (lv_at hl 6 rfl) ?_
                    refine lv_dup2_11 hx hb dX10_findOdds_259 rfl rfl ?_
                    refine bd_e h (fun v33 hq h => ?_)
                    refine R_M1_lald cx hV hq dX10_findOdds_260 ?_
                    refine lv_lload hx hb dX10_findOdds_261 (lv_at hl 5 rfl) ?_
                    refine lv_aload_n hx hb dX10_findOdds_263 rfl (lv_at hl 0 rfl) ?_
                    refine G_X10_weight cx hV mk_6_111 dX10_findOdds_264 ?_
                    refine lv_iconst (v := 3) hx hb dX10_findOdds_267 (by decide) ?_
                    refine bd_e h (fun v34 hq h => ?_)
                    refine R_M_iald cx hV (by decide) hq dX10_findOdds_268 ?_
                    refine lv_i2l (v := (Int32.toInt64 v34)) hx hb dX10_findOdds_269 rfl ?_
                    refine lv_lmul hx hb dX10_findOdds_270 ?_
                    refine lv_ldc2 (v := 2) hx hb cx.2.2.2.1 (cx.2.2.2.2 _ mk_8_53) dX10_findOdds_271 ?_
                    refine lv_lmul hx hb dX10_findOdds_274 ?_
                    refine lv_ladd hx hb dX10_findOdds_275 ?_
                    refine bd_e h (fun σ35 hq h => ?_)
                    refine R_M1_last cx hV hq dX10_findOdds_276 (fun H locs hV => ?_)
                    refine lv_iinc (v := (u31 + 1)) (lv' := [(7, .int (u31 + 1)), (0, .ref (eA E 0)), (1, .int p1), (2, .int p2), (3, .int u12), (4, .int w21), (5, .long w22)]) hx hb dX10_findOdds_277 hl (k := 6) rfl rfl (by decide) rfl (fun ls hl => ?_)
                    refine lv_goto (tgt := 244) hx hb dX10_findOdds_280 (by decide) ?_
                    cases h
                    exact hT3 rfl _ _ _ hV (lv_sub hl [1, 2, 3, 4, 5, 6, 0] rfl)
                · have hV : AtW E (wM E σ37 ++ X) A s H locs := hV
                  have hl : lv_has ls 8 [(0, .ref (eA E 0)), (1, .int p1), (2, .int p2), (3, .int u12), (4, .int w21)] := hl
                  refine lv_iinc (v := (w21 + 1)) (lv' := [(4, .int (w21 + 1)), (0, .ref (eA E 0)), (1, .int p1), (2, .int p2), (3, .int u12)]) hx hb dX10_findOdds_283 hl (k := 4) rfl rfl (by decide) rfl (fun ls hl => ?_)
                  refine lv_goto (tgt := 78) hx hb dX10_findOdds_286 (by decide) ?_
                  cases h
                  exact hT2 rfl _ _ _ hV (lv_sub hl [1, 2, 3, 4, 0] rfl)
              have hj78_147 : ∀ (w38 : Int32) (w39 : Int64) (w40 : Int32) (σ41 : St) (H : Heap) (locs : List Loc) (ls : Array Slot), x_X10_findOdds_b78_147 p1 p2 u12 w38 w39 w40 σ41 = some (b2, y2) → AtW E (wM E σ41 ++ X) A s H locs → lv_has ls 8 [(0, .ref (eA E 0)), (1, .int p1), (2, .int p2), (3, .int u12), (4, .int w38), (5, .long w39)] → W p l e rm_X10_findOdds s m a below meth c H locs 0 0 QQ (F0 m 147 ls [.int w40, .ref (eA E 33)]) := by
                intro w38 w39 w40 σ41 H locs ls h hV hl
                unfold x_X10_findOdds_b78_147 at h
                refine lv_dup2_11 hx hb dX10_findOdds_147 rfl rfl ?_
                refine bd_e h (fun v42 hq h => ?_)
                refine R_M1_lald cx hV hq dX10_findOdds_148 ?_
                refine lv_lload hx hb dX10_findOdds_149 (lv_at hl 5 rfl) ?_
                refine lv_aload_n hx hb dX10_findOdds_151 rfl (lv_at hl 0 rfl) ?_
                refine G_X10_weight cx hV mk_6_111 dX10_findOdds_152 ?_
                refine lv_iconst (v := 1) hx hb dX10_findOdds_155 (by decide) ?_
                refine bd_e h (fun v43 hq h => ?_)
                refine R_M_iald cx hV (by decide) hq dX10_findOdds_156 ?_
                refine lv_i2l (v := (Int32.toInt64 v43)) hx hb dX10_findOdds_157 rfl ?_
                refine lv_lmul hx hb dX10_findOdds_158 ?_
                refine lv_aload_n hx hb dX10_findOdds_159 rfl (lv_at hl 0 rfl) ?_
                refine G_X10_crates cx hV mk_6_121 dX10_findOdds_160 ?_
                refine lv_i2l (v := (Int32.toInt64 (gI σ41 8))) hx hb dX10_findOdds_163 rfl ?_
                refine lv_lmul hx hb dX10_findOdds_164 ?_
                refine lv_ladd hx hb dX10_findOdds_165 ?_
                refine bd_e h (fun σ44 hq h => ?_)
                refine R_M1_last cx hV hq dX10_findOdds_166 (fun H locs hV => ?_)
                refine lv_aload_n hx hb dX10_findOdds_167 rfl (lv_at hl 0 rfl) ?_
                refine G_X10_newPart cx hV mk_6_149 dX10_findOdds_168 ?_
                refine lv_iload hx hb dX10_findOdds_171 (lv_at hl 4 rfl) ?_
                refine lv_iconst (v := 1) hx hb dX10_findOdds_173 (by decide) ?_
                refine lv_iadd hx hb dX10_findOdds_174 ?_
                refine lv_aload_n hx hb dX10_findOdds_175 rfl (lv_at hl 0 rfl) ?_
                refine G_X10_crates cx hV mk_6_121 dX10_findOdds_176 ?_
                refine lv_icmp_ge (tgt := 189) hx hb dX10_findOdds_179 (by decide) (fun hc => ?_) (fun hc => ?_)
                · have h := ifp hc h
                  refine lv_iload hx hb dX10_findOdds_189 (lv_at hl 4 rfl) ?_
                  exact hj78_191 w38 w39 w38 σ44 _ _ _ h hV (lv_sub hl [0, 1, 2, 3, 4, 5] rfl)
                · have h := ifn hc h
                  refine lv_iload hx hb dX10_findOdds_182 (lv_at hl 4 rfl) ?_
                  refine lv_iconst (v := 1) hx hb dX10_findOdds_184 (by decide) ?_
                  refine lv_iadd hx hb dX10_findOdds_185 ?_
                  refine lv_goto (tgt := 191) hx hb dX10_findOdds_186 (by decide) ?_
                  exact hj78_191 w38 w39 (w38 + 1) σ44 _ _ _ h hV (lv_sub hl [0, 1, 2, 3, 4, 5] rfl)
              obtain ⟨u19, σ20⟩ := v
              have h : x_X10_findOdds_L78 p1 p2 u12 u19 σ20 = some (b2, y2) := h
              intro H locs ls hV hl
              have hV : AtW E (wM E σ20 ++ X) A s H locs := hV
              have hl : lv_has ls 8 [(0, .ref (eA E 0)), (1, .int p1), (2, .int p2), (3, .int u12), (4, .int u19)] := hl
              unfold x_X10_findOdds_L78 at h
              refine lv_iload hx hb dX10_findOdds_78 (lv_at hl 4 rfl) ?_
              refine lv_aload_n hx hb dX10_findOdds_80 rfl (lv_at hl 0 rfl) ?_
              refine G_X10_crates cx hV mk_6_121 dX10_findOdds_81 ?_
              refine lv_icmp_ge (tgt := 289) hx hb dX10_findOdds_84 (by decide) (fun hc => ?_) (fun hc => ?_)
              · have h := ifp hc h
                cases h
                exact hF2 rfl _ _ _ hV (lv_sub hl [0, 1, 2, 3] rfl)
              · have h := ifn hc h
                refine lv_aload_n hx hb dX10_findOdds_87 rfl (lv_at hl 0 rfl) ?_
                refine G_X10_part cx hV mk_6_148 dX10_findOdds_88 ?_
                refine lv_iload hx hb dX10_findOdds_91 (lv_at hl 4 rfl) ?_
                refine bd_e h (fun v45 hq h => ?_)
                refine R_M0_lald cx hV hq dX10_findOdds_93 ?_
                refine lv_lstore (lv' := [(5, .long v45), (0, .ref (eA E 0)), (1, .int p1), (2, .int p2), (3, .int u12), (4, .int u19)]) hx hb dX10_findOdds_94 hl (by decide) rfl (fun ls hl => ?_)
                refine lv_aload_n hx hb dX10_findOdds_96 rfl (lv_at hl 1 rfl) ?_
                refine G_X10_newPart cx hV mk_6_149 dX10_findOdds_97 ?_
                refine lv_aload_n hx hb dX10_findOdds_100 rfl (lv_at hl 1 rfl) ?_
                refine lv_iload_n hx hb dX10_findOdds_101 rfl (lv_at hl 2 rfl) ?_
                refine bd_e h (fun v46 hq h => ?_)
                refine k_X10_own hq cx hV mk_7_164 ⟨Nat.le_of_ble_eq_true rfl, Nat.le_of_ble_eq_true rfl⟩ ⟨Nat.zero_le _, Nat.zero_le _⟩ hl.1 (Nat.le_of_ble_eq_true rfl) dX10_findOdds_102 (fun H locs hV => ?_)
                refine lv_dup2_11 hx hb dX10_findOdds_105 rfl rfl ?_
                refine bd_e h (fun v47 hq h => ?_)
                refine R_M1_lald cx hV hq dX10_findOdds_106 ?_
                refine lv_lload hx hb dX10_findOdds_107 (lv_at hl 0 rfl) ?_
                refine lv_aload_n hx hb dX10_findOdds_109 rfl (lv_at hl 1 rfl) ?_
                refine G_X10_weight cx hV mk_6_111 dX10_findOdds_110 ?_
                refine lv_iconst (v := 0) hx hb dX10_findOdds_113 (by decide) ?_
                refine bd_e h (fun v48 hq h => ?_)
                refine R_M_iald cx hV (by decide) hq dX10_findOdds_114 ?_
                refine lv_i2l (v := (Int32.toInt64 v48)) hx hb dX10_findOdds_115 rfl ?_
                refine lv_lmul hx hb dX10_findOdds_116 ?_
                refine lv_ldc2 (v := 2) hx hb cx.2.2.2.1 (cx.2.2.2.2 _ mk_8_53) dX10_findOdds_117 ?_
                refine lv_lmul hx hb dX10_findOdds_120 ?_
                refine lv_aload_n hx hb dX10_findOdds_121 rfl (lv_at hl 1 rfl) ?_
                refine G_X10_crates cx hV mk_6_121 dX10_findOdds_122 ?_
                refine lv_i2l (v := (Int32.toInt64 (gI σ20 8))) hx hb dX10_findOdds_125 rfl ?_
                refine lv_lmul hx hb dX10_findOdds_126 ?_
                refine lv_ladd hx hb dX10_findOdds_127 ?_
                refine bd_e h (fun σ49 hq h => ?_)
                refine R_M1_last cx hV hq dX10_findOdds_128 (fun H locs hV => ?_)
                refine lv_aload_n hx hb dX10_findOdds_129 rfl (lv_at hl 1 rfl) ?_
                refine G_X10_newPart cx hV mk_6_149 dX10_findOdds_130 ?_
                refine lv_iload hx hb dX10_findOdds_133 (lv_at hl 5 rfl) ?_
                refine lv_if_le (tgt := 145) hx hb dX10_findOdds_135 (by decide) (fun hc => ?_) (fun hc => ?_)
                · have h := ifp hc h
                  refine lv_iload hx hb dX10_findOdds_145 (lv_at hl 5 rfl) ?_
                  exact hj78_147 u19 v45 u19 σ49 _ _ _ h hV (lv_sub hl [1, 2, 3, 4, 5, 0] rfl)
                · have h := ifn hc h
                  refine lv_iload hx hb dX10_findOdds_138 (lv_at hl 5 rfl) ?_
                  refine lv_iconst (v := 1) hx hb dX10_findOdds_140 (by decide) ?_
                  refine lv_isub hx hb dX10_findOdds_141 ?_
                  refine lv_goto (tgt := 147) hx hb dX10_findOdds_142 (by decide) ?_
                  exact hj78_147 u19 v45 (u19 - 1) σ49 _ _ _ h hV (lv_sub hl [1, 2, 3, 4, 5, 0] rfl)
            · have hV : AtW E (wM E σ51 ++ X) A s H locs := hV
              have hl : lv_has ls 8 [(0, .ref (eA E 0)), (1, .int p1), (2, .int p2), (3, .int u12)] := hl
              refine lv_iconst (v := 0) hx hb dX10_findOdds_289 (by decide) ?_
              refine lv_istore (lv' := [(4, .int 0), (0, .ref (eA E 0)), (1, .int p1), (2, .int p2), (3, .int u12)]) hx hb dX10_findOdds_290 hl (by decide) rfl (fun ls hl => ?_)
              refine bd2_e h (fun z56 σ57 ho h => ?_)
              refine (lp_rule (G := (fun v : (Int32 × St) => ∀ (H : Heap) (locs : List Loc) (ls : Array Slot), AtW E (wM E v.2 ++ X) A s H locs → lv_has ls 8 [(0, .ref (eA E 0)), (1, .int p1), (2, .int p2), (3, .int u12), (4, .int v.1)] → W p l e rm_X10_findOdds s m a below meth c H locs 0 0 QQ (F0 m 292 ls []))) (K := (fun v : (Int32 × St) => ∀ (H : Heap) (locs : List Loc) (ls : Array Slot), AtW E (wM E v.2 ++ X) A s H locs → lv_has ls 8 [(0, .ref (eA E 0)), (1, .int p1), (2, .int p2), (3, .int u12)] → W p l e rm_X10_findOdds s m a below meth c H locs 0 0 QQ (F0 m 321 ls []))) (fun v b2 y2 h hT2 hF2 => ?_) ho (fun H locs ls hV hl => ?_)) _ _ _ hV (lv_sub hl [1, 2, 3, 4, 0] rfl)
              · obtain ⟨u52, σ53⟩ := v
                have h : x_X10_findOdds_L292 p1 p2 u12 u52 σ53 = some (b2, y2) := h
                intro H locs ls hV hl
                have hV : AtW E (wM E σ53 ++ X) A s H locs := hV
                have hl : lv_has ls 8 [(0, .ref (eA E 0)), (1, .int p1), (2, .int p2), (3, .int u12), (4, .int u52)] := hl
                unfold x_X10_findOdds_L292 at h
                refine lv_iload hx hb dX10_findOdds_292 (lv_at hl 4 rfl) ?_
                refine lv_aload_n hx hb dX10_findOdds_294 rfl (lv_at hl 0 rfl) ?_
                refine G_X10_crates cx hV mk_6_121 dX10_findOdds_295 ?_
                refine lv_icmp_ge (tgt := 321) hx hb dX10_findOdds_298 (by decide) (fun hc => ?_) (fun hc => ?_)
                · have h := ifp hc h
                  cases h
                  exact hF2 rfl _ _ _ hV (lv_sub hl [0, 1, 2, 3] rfl)
                · have h := ifn hc h
                  refine lv_aload_n hx hb dX10_findOdds_301 rfl (lv_at hl 0 rfl) ?_
                  refine G_X10_part cx hV mk_6_148 dX10_findOdds_302 ?_
                  refine lv_iload hx hb dX10_findOdds_305 (lv_at hl 4 rfl) ?_
                  refine lv_aload_n hx hb dX10_findOdds_307 rfl (lv_at hl 0 rfl) ?_
                  refine G_X10_newPart cx hV mk_6_149 dX10_findOdds_308 ?_
                  refine lv_iload hx hb dX10_findOdds_311 (lv_at hl 4 rfl) ?_
                  refine bd_e h (fun v54 hq h => ?_)
                  refine R_M1_lald cx hV hq dX10_findOdds_313 ?_
                  refine bd_e h (fun σ55 hq h => ?_)
                  refine R_M0_last cx hV hq dX10_findOdds_314 (fun H locs hV => ?_)
                  refine lv_iinc (v := (u52 + 1)) (lv' := [(4, .int (u52 + 1)), (0, .ref (eA E 0)), (1, .int p1), (2, .int p2), (3, .int u12)]) hx hb dX10_findOdds_315 hl (k := 4) rfl rfl (by decide) rfl (fun ls hl => ?_)
                  refine lv_goto (tgt := 292) hx hb dX10_findOdds_318 (by decide) ?_
                  cases h
                  exact hT2 rfl _ _ _ hV (lv_sub hl [1, 2, 3, 4, 0] rfl)
              · have hV : AtW E (wM E σ57 ++ X) A s H locs := hV
                have hl : lv_has ls 8 [(0, .ref (eA E 0)), (1, .int p1), (2, .int p2), (3, .int u12)] := hl
                refine lv_aload_n hx hb dX10_findOdds_321 rfl (lv_at hl 0 rfl) ?_
                refine lv_dup hx hb dX10_findOdds_322 rfl ?_
                refine G_X10_allParts cx hV mk_6_150 dX10_findOdds_323 ?_
                refine lv_ldc2 (v := 2) hx hb cx.2.2.2.1 (cx.2.2.2.2 _ mk_8_53) dX10_findOdds_326 ?_
                refine lv_aload_n hx hb dX10_findOdds_329 rfl (lv_at hl 0 rfl) ?_
                refine bd_e h (fun v58 hq h => ?_)
                refine k_X10_weights hq cx hV mk_8_5 ⟨Nat.le_of_ble_eq_true rfl, Nat.le_of_ble_eq_true rfl⟩ ⟨Nat.zero_le _, Nat.zero_le _⟩ hl.1 (Nat.le_of_ble_eq_true rfl) dX10_findOdds_330 (fun H locs hV => ?_)
                refine lv_i2l (v := (Int32.toInt64 v58)) hx hb dX10_findOdds_333 rfl ?_
                refine lv_lmul hx hb dX10_findOdds_334 ?_
                refine lv_aload_n hx hb dX10_findOdds_335 rfl (lv_at hl 0 rfl) ?_
                refine G_X10_crates cx hV mk_6_121 dX10_findOdds_336 ?_
                refine lv_i2l (v := (Int32.toInt64 (gI σ57 8))) hx hb dX10_findOdds_339 rfl ?_
                refine lv_lmul hx hb dX10_findOdds_340 ?_
                refine lv_lmul hx hb dX10_findOdds_341 ?_
                refine bd_e h (fun σ59 hq h => ?_)
                refine P_X10_allParts cx hV hq mk_6_150 dX10_findOdds_342 (fun H locs hV => ?_)
                refine lv_iinc (v := (u12 + 1)) (lv' := [(3, .int (u12 + 1)), (0, .ref (eA E 0)), (1, .int p1), (2, .int p2)]) hx hb dX10_findOdds_345 hl (k := 3) rfl rfl (by decide) rfl (fun ls hl => ?_)
                refine lv_goto (tgt := 44) hx hb dX10_findOdds_348 (by decide) ?_
                cases h
                exact hT1 rfl _ _ _ hV (lv_sub hl [1, 2, 3, 0] rfl)
      · have hV : AtW E (wM E σ61 ++ X) A s H locs := hV
        have hl : lv_has ls 8 [] := hl
        have h1 := Option.some.inj h
        subst h1
        subst hQ
        exact r_vret cx hr hlk hV dX10_findOdds_351
  rw [hH, hlocs] at goal
  exact goal
theorem k_X10_findOdds {p : Program} {l : Launch} {e : Env} {R : Room} {s : State} {m : MethodId} {a : Array Value} {below : List Frame} {meth : Method} {c : Code} {H : Heap} {locs : List Loc} {cells slots : Nat} {Q : State → Prop} {cc : ByteArray} {own : String} {nL pc : Nat} {ls : Array Slot} {rest : List Value} {A : Nat → Prop} {E : EV} {X : va_W} {σ : St} {p1 : Int32} {p2 : Int32} {σf : St} (h : x_X10_findOdds p1 p2 σ = some σf) (cx : CallFix p m c cc nL s a TBL own) (hV : AtW E (wM E σ ++ X) A s H locs) {idx : Nat} (w1 : Cond.methodLink own idx yX10_findOdds ∈ TBL) (hR : (rm_X10_findOdds).frames + 1 ≤ R.frames ∧ 8 + (8 + 11) + (rm_X10_findOdds).locals ≤ R.locals) (hcs : cells ≤ R.cells ∧ slots ≤ R.slots) (hls : ls.size = nL) (hcat : (rest.map fun v => v.category).sum ≤ 8) (d : decode cc pc = .ok (.invokevirtual idx, 3)) (kk : ∀ (H1 : Heap) (locs1 : List Loc), AtW E (wM E σf ++ X) A s H1 locs1 → W p l e R s m a below meth c H1 locs1 cells slots Q (F0 m (pc + 3) ls (rest))) : W p l e R s m a below meth c H locs cells slots Q (F0 m pc ls (.int p2 :: .int p1 :: .ref (eA E 0) :: rest)) :=
  r_callv (n := 2) (As := [.int p1, .int p2]) (q0 := 0) (ci := 10) (qq := (RX10, TX10, 64)) (c_X10_findOdds h) wM_fst rfl rfl mk_8_51 mk_P_98 mk_1_11 mk_8_52 (by decide +kernel) rfl ⟨rfl, rfl⟩ cx hV w1 hR hcs hls rfl hcat d kk
def x_X10_divisor_L6 (u1 : Int64) (u2 : Int64) : Option (Bool × (Int64 × Int64)) :=
  (if (lg_cmp u2 (0 : Int64)) = 0 then
  some (false, (u1, u2))
  else
  bd (rmJ u1 u2) fun v3 =>
  some (true, (u2, v3)))
def x_X10_divisor (p1 : Int64) (p2 : Int64) : Option Int64 :=
  bd2 (lp (fun v : (Int64 × Int64) => x_X10_divisor_L6 v.1 v.2) FU (p1, p2)) fun z4 z5 =>
  some z4
abbrev rm_X10_divisor : Room := { frames := 0, cells := 0, slots := 0, locals := 0 }
set_option maxHeartbeats 4000000 in
set_option maxRecDepth 100000 in
theorem c_X10_divisor {l : Launch} {E : EV} {V : va_W} {p1 : Int64} {p2 : Int64} {rv : Int64} (h : x_X10_divisor p1 p2 = some rv) : CM l yX10_divisor cX10_divisor 10 (some .long) rm_X10_divisor [.long p1, .long p2] E V V (qL rv) := by
  refine CM.start (by decide) (Nat.le_of_ble_eq_true rfl) (fun p e s m a below meth c A ls cx hr hlk hV hl => ?_)
  have cx : CallFix p m c cX10_divisor 10 s a TBL RX10 := cx
  have hx := cx.1
  have hb := cx.2.1
  have hl : lv_has ls 10 [(0, .long p1), (2, .long p2)] := hl
  generalize hQ : EQ E V (qL rv) A s a below = QQ
  obtain ⟨H, hH⟩ : ∃ H, H = s.heap := ⟨_, rfl⟩
  obtain ⟨locs, hlocs⟩ : ∃ z, z = ([] : List Loc) := ⟨_, rfl⟩
  have hV : AtW E V A s H locs := by rw [hH, hlocs]; exact hV
  have goal : W p l e rm_X10_divisor s m a below meth c H locs 0 0 QQ (F0 m 0 ls []) := by
    unfold x_X10_divisor at h
    refine lv_lload_n hx hb dX10_divisor_0 rfl (lv_at hl 0 rfl) ?_
    refine lv_lstore (lv' := [(4, .long p1), (0, .long p1), (2, .long p2)]) hx hb dX10_divisor_1 hl (by decide) rfl (fun ls hl => ?_)
    refine lv_lload_n hx hb dX10_divisor_3 rfl (lv_at hl 2 rfl) ?_
    refine lv_lstore (lv' := [(6, .long p2), (4, .long p1), (0, .long p1), (2, .long p2)]) hx hb dX10_divisor_4 hl (by decide) rfl (fun ls hl => ?_)
    refine bd2_e h (fun z4 z5 ho h => ?_)
    refine (lp_rule (G := (fun v : (Int64 × Int64) => ∀ (H : Heap) (locs : List Loc) (ls : Array Slot), AtW E V A s H locs → lv_has ls 10 [(4, .long v.1), (6, .long v.2)] → W p l e rm_X10_divisor s m a below meth c H locs 0 0 QQ (F0 m 6 ls []))) (K := (fun v : (Int64 × Int64) => ∀ (H : Heap) (locs : List Loc) (ls : Array Slot), AtW E V A s H locs → lv_has ls 10 [(4, .long v.1)] → W p l e rm_X10_divisor s m a below meth c H locs 0 0 QQ (F0 m 31 ls []))) (fun v b1 y1 h hT1 hF1 => ?_) ho (fun H locs ls hV hl => ?_)) _ _ _ hV (lv_sub hl [1, 0] rfl)
    · obtain ⟨u1, u2⟩ := v
      have h : x_X10_divisor_L6 u1 u2 = some (b1, y1) := h
      intro H locs ls hV hl
      have hV : AtW E V A s H locs := hV
      have hl : lv_has ls 10 [(4, .long u1), (6, .long u2)] := hl
      unfold x_X10_divisor_L6 at h
      refine lv_lload hx hb dX10_divisor_6 (lv_at hl 1 rfl) ?_
      refine lv_lconst (v := 0) hx hb dX10_divisor_8 (by decide) ?_
      refine W.lcmp hx hb dX10_divisor_9 ?_
      refine lv_if_eq (tgt := 31) hx hb dX10_divisor_10 (by decide) (fun hc => ?_) (fun hc => ?_)
      · have h := ifp hc h
        cases h
        exact hF1 rfl _ _ _ hV (lv_sub hl [0] rfl)
      · have h := ifn hc h
        refine lv_lload hx hb dX10_divisor_13 (lv_at hl 0 rfl) ?_
        refine lv_lload hx hb dX10_divisor_15 (lv_at hl 1 rfl) ?_
        refine bd_e h (fun v3 hq h => ?_)
        obtain ⟨hne, hq⟩ := rmJ_e hq
        refine lv_lrem hx hb dX10_divisor_17 hne ?_
        rw [hq]
        refine lv_lstore (lv' := [(8, .long v3), (4, .long u1), (6, .long u2)]) hx hb dX10_divisor_18 hl (by decide) rfl (fun ls hl => ?_)
        refine lv_lload hx hb dX10_divisor_20 (lv_at hl 2 rfl) ?_
        refine lv_lstore (lv' := [(4, .long u2), (8, .long v3), (6, .long u2)]) hx hb dX10_divisor_22 hl (by decide) rfl (fun ls hl => ?_)
        refine lv_lload hx hb dX10_divisor_24 (lv_at hl 1 rfl) ?_
        refine lv_lstore (lv' := [(6, .long v3), (4, .long u2), (8, .long v3)]) hx hb dX10_divisor_26 hl (by decide) rfl (fun ls hl => ?_)
        refine lv_goto (tgt := 6) hx hb dX10_divisor_28 (by decide) ?_
        cases h
        exact hT1 rfl _ _ _ hV (lv_sub hl [1, 0] rfl)
    · have hV : AtW E V A s H locs := hV
      have hl : lv_has ls 10 [(4, .long z4)] := hl
      refine lv_lload hx hb dX10_divisor_31 (lv_at hl 0 rfl) ?_
      have h1 := Option.some.inj h
      subst h1
      subst hQ
      exact r_lret cx hr hlk hV dX10_divisor_33
  rw [hH, hlocs] at goal
  exact goal
theorem k_X10_divisor {p : Program} {l : Launch} {e : Env} {R : Room} {s : State} {m : MethodId} {a : Array Value} {below : List Frame} {meth : Method} {c : Code} {H : Heap} {locs : List Loc} {cells slots : Nat} {Q : State → Prop} {cc : ByteArray} {own : String} {nL pc : Nat} {ls : Array Slot} {rest : List Value} {A : Nat → Prop} {E : EV} {V : va_W} {p1 : Int64} {p2 : Int64} {rv : Int64} (h : x_X10_divisor p1 p2 = some rv) (cx : CallFix p m c cc nL s a TBL own) (hV : AtW E V A s H locs) {idx : Nat} (w1 : Cond.methodLink own idx yX10_divisor ∈ TBL) (hR : (rm_X10_divisor).frames + 1 ≤ R.frames ∧ 8 + (10 + 11) + (rm_X10_divisor).locals ≤ R.locals) (hcs : cells ≤ R.cells ∧ slots ≤ R.slots) (hls : ls.size = nL) (hcat : (rest.map fun v => v.category).sum ≤ 8) (d : decode cc pc = .ok (.invokestatic idx, 3)) (kk : ∀ (H1 : Heap) (locs1 : List Loc), AtW E V A s H1 locs1 → W p l e R s m a below meth c H1 locs1 cells slots Q (F0 m (pc + 3) ls (.long rv :: rest))) : W p l e R s m a below meth c H locs cells slots Q (F0 m pc ls (.long p2 :: .long p1 :: rest)) :=
  r_stl (n := 2) (As := [.long p1, .long p2]) (c_X10_divisor h) rfl mk_8_58 mk_1_11 mk_8_59 (by decide +kernel) rfl ⟨rfl, rfl⟩ cx hV w1 hR hcs hls rfl hcat d kk
def x_X10_fraction (p1 : Int64) (p2 : Int64) (p3 : Int32) : Option Int64 :=
  bd (x_X10_divisor p1 p2) fun v1 =>
  (if p3 = 0 then
  bd (dvJ p1 v1) fun v3 =>
  some v3
  else
  bd (dvJ p2 v1) fun v2 =>
  some v2)
abbrev rm_X10_fraction : Room := { frames := 1, cells := 0, slots := 0, locals := 29 }
set_option maxHeartbeats 4000000 in
set_option maxRecDepth 100000 in
theorem c_X10_fraction {l : Launch} {E : EV} {V : va_W} {p1 : Int64} {p2 : Int64} {p3 : Int32} {rv : Int64} (h : x_X10_fraction p1 p2 p3 = some rv) : CM l yX10_fraction cX10_fraction 7 (some .long) rm_X10_fraction [.long p1, .long p2, .int p3] E V V (qL rv) := by
  refine CM.start (by decide) (Nat.le_of_ble_eq_true rfl) (fun p e s m a below meth c A ls cx hr hlk hV hl => ?_)
  have cx : CallFix p m c cX10_fraction 7 s a TBL RX10 := cx
  have hx := cx.1
  have hb := cx.2.1
  have hl : lv_has ls 7 [(0, .long p1), (2, .long p2), (4, .int p3)] := hl
  generalize hQ : EQ E V (qL rv) A s a below = QQ
  obtain ⟨H, hH⟩ : ∃ H, H = s.heap := ⟨_, rfl⟩
  obtain ⟨locs, hlocs⟩ : ∃ z, z = ([] : List Loc) := ⟨_, rfl⟩
  have hV : AtW E V A s H locs := by rw [hH, hlocs]; exact hV
  have goal : W p l e rm_X10_fraction s m a below meth c H locs 0 0 QQ (F0 m 0 ls []) := by
    unfold x_X10_fraction at h
    refine lv_lload_n hx hb dX10_fraction_0 rfl (lv_at hl 0 rfl) ?_
    refine lv_lload_n hx hb dX10_fraction_1 rfl (lv_at hl 1 rfl) ?_
    refine bd_e h (fun v1 hq h => ?_)
    refine k_X10_divisor hq cx hV mk_8_57 ⟨Nat.le_of_ble_eq_true rfl, Nat.le_of_ble_eq_true rfl⟩ ⟨Nat.zero_le _, Nat.zero_le _⟩ hl.1 (Nat.le_of_ble_eq_true rfl) dX10_fraction_2 (fun H locs hV => ?_)
    refine lv_lstore (lv' := [(5, .long v1), (0, .long p1), (2, .long p2), (4, .int p3)]) hx hb dX10_fraction_5 hl (by decide) rfl (fun ls hl => ?_)
    refine lv_iload hx hb dX10_fraction_7 (lv_at hl 3 rfl) ?_
    refine lv_if_ne (tgt := 19) hx hb dX10_fraction_9 (by decide) (fun hc => ?_) (fun hc => ?_)
    · have h := ifn hc h
      refine lv_lload_n hx hb dX10_fraction_19 rfl (lv_at hl 2 rfl) ?_
      refine lv_lload hx hb dX10_fraction_20 (lv_at hl 0 rfl) ?_
      refine bd_e h (fun v2 hq h => ?_)
      obtain ⟨hne, hq⟩ := dvJ_e hq
      refine lv_ldiv hx hb dX10_fraction_22 hne ?_
      rw [hq]
      have h1 := Option.some.inj h
      subst h1
      subst hQ
      exact r_lret cx hr hlk hV dX10_fraction_23
    · have h := ifp hc h
      refine lv_lload_n hx hb dX10_fraction_12 rfl (lv_at hl 1 rfl) ?_
      refine lv_lload hx hb dX10_fraction_13 (lv_at hl 0 rfl) ?_
      refine bd_e h (fun v3 hq h => ?_)
      obtain ⟨hne, hq⟩ := dvJ_e hq
      refine lv_ldiv hx hb dX10_fraction_15 hne ?_
      rw [hq]
      refine lv_goto (tgt := 23) hx hb dX10_fraction_16 (by decide) ?_
      have h1 := Option.some.inj h
      subst h1
      subst hQ
      exact r_lret cx hr hlk hV dX10_fraction_23
  rw [hH, hlocs] at goal
  exact goal
theorem k_X10_fraction {p : Program} {l : Launch} {e : Env} {R : Room} {s : State} {m : MethodId} {a : Array Value} {below : List Frame} {meth : Method} {c : Code} {H : Heap} {locs : List Loc} {cells slots : Nat} {Q : State → Prop} {cc : ByteArray} {own : String} {nL pc : Nat} {ls : Array Slot} {rest : List Value} {A : Nat → Prop} {E : EV} {V : va_W} {p1 : Int64} {p2 : Int64} {p3 : Int32} {rv : Int64} (h : x_X10_fraction p1 p2 p3 = some rv) (cx : CallFix p m c cc nL s a TBL own) (hV : AtW E V A s H locs) {idx : Nat} (w1 : Cond.methodLink own idx yX10_fraction ∈ TBL) (hR : (rm_X10_fraction).frames + 1 ≤ R.frames ∧ 8 + (7 + 11) + (rm_X10_fraction).locals ≤ R.locals) (hcs : cells ≤ R.cells ∧ slots ≤ R.slots) (hls : ls.size = nL) (hcat : (rest.map fun v => v.category).sum ≤ 8) (d : decode cc pc = .ok (.invokestatic idx, 3)) (kk : ∀ (H1 : Heap) (locs1 : List Loc), AtW E V A s H1 locs1 → W p l e R s m a below meth c H1 locs1 cells slots Q (F0 m (pc + 3) ls (.long rv :: rest))) : W p l e R s m a below meth c H locs cells slots Q (F0 m pc ls (.int p3 :: .long p2 :: .long p1 :: rest)) :=
  r_stl (n := 3) (As := [.long p1, .long p2, .int p3]) (c_X10_fraction h) rfl mk_8_55 mk_1_11 mk_8_56 (by decide +kernel) rfl ⟨rfl, rfl⟩ cx hV w1 hR hcs hls rfl hcat d kk
def x_X10_odds_b72 (w1 : Int32) (w2 : Int32) (w3 : Int32) (w4 : Int32) (w5 : Int32) (σ6 : St) : Option (Int64 × St) :=
  bd2 (x_X10_may w5 4 3 σ6) fun v7 σ8 =>
  (if v7 = 0 then
  some ((0 : Int64), σ8)
  else
  bd (x_X10_findOdds w2 w3 σ8) fun σ9 =>
  bd (ldJ (gJ σ9 0) 8 w1) fun v10 =>
  bd (x_X10_fraction v10 (gL σ9 0) w4) fun v11 =>
  some (v11, σ9))
def x_X10_odds_b48 (w12 : Int32) (w13 : Int32) (w14 : Int32) (w15 : Int32) (w16 : Int32) (σ17 : St) : Option (Int64 × St) :=
  bd2 (x_X10_may w16 3 2 σ17) fun v18 σ19 =>
  (if v18 = 0 then
  some ((0 : Int64), σ19)
  else
  bd (ldI (gA σ19 7) (lenM 7) w13) fun v20 =>
  (if v20 = (-1) then
  x_X10_odds_b72 w12 w13 w14 w15 0 σ19
  else
  x_X10_odds_b72 w12 w13 w14 w15 1 σ19))
def x_X10_odds_b47 (w21 : Int32) (w22 : Int32) (w23 : Int32) (w24 : Int32) (σ25 : St) : Option (Int64 × St) :=
  x_X10_odds_b48 w21 w22 w23 w24 0 σ25
def x_X10_odds (p1 : Int32) (p2 : Int32) (p3 : Int32) (p4 : Int32) (σ : St) : Option (Int64 × St) :=
  bd (some (sI σ 0 0)) fun σ26 =>
  bd2 (x_X10_isCrate p1 1 σ26) fun v27 σ28 =>
  (if v27 = 0 then
  some ((0 : Int64), σ28)
  else
  bd2 (x_X10_isSleeve p2 2 σ28) fun v29 σ30 =>
  (if v29 = 0 then
  some ((0 : Int64), σ30)
  else
  bd (x_X10_within p3 0 4) fun v31 =>
  (if v31 = 0 then
  x_X10_odds_b47 p1 p2 p3 p4 σ30
  else
  bd (x_X10_within p4 0 1) fun v32 =>
  (if v32 = 0 then
  x_X10_odds_b47 p1 p2 p3 p4 σ30
  else
  x_X10_odds_b48 p1 p2 p3 p4 1 σ30))))
abbrev rm_X10_odds : Room := { frames := 3, cells := 0, slots := 0, locals := 73 }
set_option maxHeartbeats 4000000 in
set_option maxRecDepth 100000 in
theorem c_X10_odds {l : Launch} {E : EV} {X : va_W} {σ : St} {p1 : Int32} {p2 : Int32} {p3 : Int32} {p4 : Int32} {rv : Int64} {σf : St} (h : x_X10_odds p1 p2 p3 p4 σ = some (rv, σf)) : CM l yX10_odds cX10_odds 5 (some .long) rm_X10_odds [.ref (eA E 0), .int p1, .int p2, .int p3, .int p4] E (wM E σ ++ X) (wM E σf ++ X) (qL rv) := by
  refine CM.start (by decide) (Nat.le_of_ble_eq_true rfl) (fun p e s m a below meth c A ls cx hr hlk hV hl => ?_)
  have cx : CallFix p m c cX10_odds 5 s a TBL RX10 := cx
  have hx := cx.1
  have hb := cx.2.1
  have hl : lv_has ls 5 [(0, .ref (eA E 0)), (1, .int p1), (2, .int p2), (3, .int p3), (4, .int p4)] := hl
  generalize hQ : EQ E (wM E σf ++ X) (qL rv) A s a below = QQ
  obtain ⟨H, hH⟩ : ∃ H, H = s.heap := ⟨_, rfl⟩
  obtain ⟨locs, hlocs⟩ : ∃ z, z = ([] : List Loc) := ⟨_, rfl⟩
  have hV : AtW E (wM E σ ++ X) A s H locs := by rw [hH, hlocs]; exact hV
  have goal : W p l e rm_X10_odds s m a below meth c H locs 0 0 QQ (F0 m 0 ls []) := by
    unfold x_X10_odds at h
    have hj72 : ∀ (w1 : Int32) (w2 : Int32) (w3 : Int32) (w4 : Int32) (w5 : Int32) (σ6 : St) (H : Heap) (locs : List Loc) (ls : Array Slot), x_X10_odds_b72 w1 w2 w3 w4 w5 σ6 = some (rv, σf) → AtW E (wM E σ6 ++ X) A s H locs → lv_has ls 5 [(0, .ref (eA E 0)), (1, .int w1), (2, .int w2), (3, .int w3), (4, .int w4)] → W p l e rm_X10_odds s m a below meth c H locs 0 0 QQ (F0 m 72 ls [.int w5, .ref (eA E 0)]) := by
      intro w1 w2 w3 w4 w5 σ6 H locs ls h hV hl
      unfold x_X10_odds_b72 at h
      refine lv_iconst (v := 4) hx hb dX10_odds_72 (by decide) ?_
      refine lv_iconst (v := 3) hx hb dX10_odds_73 (by decide) ?_
      refine bd2_e h (fun v7 σ8 hq h => ?_)
      refine k_X10_may hq cx hV mk_7_62 ⟨Nat.le_of_ble_eq_true rfl, Nat.le_of_ble_eq_true rfl⟩ ⟨Nat.zero_le _, Nat.zero_le _⟩ hl.1 (Nat.le_of_ble_eq_true rfl) dX10_odds_74 (fun H locs hV => ?_)
      refine lv_if_ne (tgt := 82) hx hb dX10_odds_77 (by decide) (fun hc => ?_) (fun hc => ?_)
      · have h := ifn hc h
        refine lv_aload_n hx hb dX10_odds_82 rfl (lv_at hl 0 rfl) ?_
        refine lv_iload_n hx hb dX10_odds_83 rfl (lv_at hl 2 rfl) ?_
        refine lv_iload_n hx hb dX10_odds_84 rfl (lv_at hl 3 rfl) ?_
        refine bd_e h (fun σ9 hq h => ?_)
        refine k_X10_findOdds hq cx hV mk_8_49 ⟨Nat.le_of_ble_eq_true rfl, Nat.le_of_ble_eq_true rfl⟩ ⟨Nat.zero_le _, Nat.zero_le _⟩ hl.1 (Nat.le_of_ble_eq_true rfl) dX10_odds_85 (fun H locs hV => ?_)
        refine lv_aload_n hx hb dX10_odds_88 rfl (lv_at hl 0 rfl) ?_
        refine G_X10_part cx hV mk_6_148 dX10_odds_89 ?_
        refine lv_iload_n hx hb dX10_odds_92 rfl (lv_at hl 1 rfl) ?_
        refine bd_e h (fun v10 hq h => ?_)
        refine R_M0_lald cx hV hq dX10_odds_93 ?_
        refine lv_aload_n hx hb dX10_odds_94 rfl (lv_at hl 0 rfl) ?_
        refine G_X10_allParts cx hV mk_6_150 dX10_odds_95 ?_
        refine lv_iload hx hb dX10_odds_98 (lv_at hl 4 rfl) ?_
        refine bd_e h (fun v11 hq h => ?_)
        refine k_X10_fraction hq cx hV mk_8_54 ⟨Nat.le_of_ble_eq_true rfl, Nat.le_of_ble_eq_true rfl⟩ ⟨Nat.zero_le _, Nat.zero_le _⟩ hl.1 (Nat.le_of_ble_eq_true rfl) dX10_odds_100 (fun H locs hV => ?_)
        obtain ⟨h1, h2⟩ := Prod.mk.inj (Option.some.inj h)
        subst h1
        subst h2
        subst hQ
        exact r_lret cx hr hlk hV dX10_odds_103
      · have h := ifp hc h
        refine lv_lconst (v := 0) hx hb dX10_odds_80 (by decide) ?_
        obtain ⟨h1, h2⟩ := Prod.mk.inj (Option.some.inj h)
        subst h1
        subst h2
        subst hQ
        exact r_lret cx hr hlk hV dX10_odds_81
    have hj48 : ∀ (w12 : Int32) (w13 : Int32) (w14 : Int32) (w15 : Int32) (w16 : Int32) (σ17 : St) (H : Heap) (locs : List Loc) (ls : Array Slot), x_X10_odds_b48 w12 w13 w14 w15 w16 σ17 = some (rv, σf) → AtW E (wM E σ17 ++ X) A s H locs → lv_has ls 5 [(0, .ref (eA E 0)), (1, .int w12), (2, .int w13), (3, .int w14), (4, .int w15)] → W p l e rm_X10_odds s m a below meth c H locs 0 0 QQ (F0 m 48 ls [.int w16, .ref (eA E 0)]) := by
      intro w12 w13 w14 w15 w16 σ17 H locs ls h hV hl
      unfold x_X10_odds_b48 at h
      refine lv_iconst (v := 3) hx hb dX10_odds_48 (by decide) ?_
      refine lv_iconst (v := 2) hx hb dX10_odds_49 (by decide) ?_
      refine bd2_e h (fun v18 σ19 hq h => ?_)
      refine k_X10_may hq cx hV mk_7_62 ⟨Nat.le_of_ble_eq_true rfl, Nat.le_of_ble_eq_true rfl⟩ ⟨Nat.zero_le _, Nat.zero_le _⟩ hl.1 (Nat.le_of_ble_eq_true rfl) dX10_odds_50 (fun H locs hV => ?_)
      refine lv_if_eq (tgt := 80) hx hb dX10_odds_53 (by decide) (fun hc => ?_) (fun hc => ?_)
      · have h := ifp hc h
        refine lv_lconst (v := 0) hx hb dX10_odds_80 (by decide) ?_
        obtain ⟨h1, h2⟩ := Prod.mk.inj (Option.some.inj h)
        subst h1
        subst h2
        subst hQ
        exact r_lret cx hr hlk hV dX10_odds_81
      · have h := ifn hc h
        refine lv_aload_n hx hb dX10_odds_56 rfl (lv_at hl 0 rfl) ?_
        refine lv_aload_n hx hb dX10_odds_57 rfl (lv_at hl 0 rfl) ?_
        refine G_X10_liesAt cx hV mk_6_112 dX10_odds_58 ?_
        refine lv_iload_n hx hb dX10_odds_61 rfl (lv_at hl 2 rfl) ?_
        refine bd_e h (fun v20 hq h => ?_)
        refine R_M_iald cx hV (by decide) hq dX10_odds_62 ?_
        refine lv_iconst (v := (-1)) hx hb dX10_odds_63 (by decide) ?_
        refine lv_icmp_eq (tgt := 71) hx hb dX10_odds_64 (by decide) (fun hc => ?_) (fun hc => ?_)
        · have h := ifp hc h
          refine lv_iconst (v := 0) hx hb dX10_odds_71 (by decide) ?_
          exact hj72 w12 w13 w14 w15 0 σ19 _ _ _ h hV (lv_sub hl [0, 1, 2, 3, 4] rfl)
        · have h := ifn hc h
          refine lv_iconst (v := 1) hx hb dX10_odds_67 (by decide) ?_
          refine lv_goto (tgt := 72) hx hb dX10_odds_68 (by decide) ?_
          exact hj72 w12 w13 w14 w15 1 σ19 _ _ _ h hV (lv_sub hl [0, 1, 2, 3, 4] rfl)
    have hj47 : ∀ (w21 : Int32) (w22 : Int32) (w23 : Int32) (w24 : Int32) (σ25 : St) (H : Heap) (locs : List Loc) (ls : Array Slot), x_X10_odds_b47 w21 w22 w23 w24 σ25 = some (rv, σf) → AtW E (wM E σ25 ++ X) A s H locs → lv_has ls 5 [(0, .ref (eA E 0)), (1, .int w21), (2, .int w22), (3, .int w23), (4, .int w24)] → W p l e rm_X10_odds s m a below meth c H locs 0 0 QQ (F0 m 47 ls [.ref (eA E 0)]) := by
      intro w21 w22 w23 w24 σ25 H locs ls h hV hl
      unfold x_X10_odds_b47 at h
      refine lv_iconst (v := 0) hx hb dX10_odds_47 (by decide) ?_
      exact hj48 w21 w22 w23 w24 0 σ25 _ _ _ h hV (lv_sub hl [0, 1, 2, 3, 4] rfl)
    refine lv_aload_n hx hb dX10_odds_0 rfl (lv_at hl 0 rfl) ?_
    refine lv_iconst (v := 0) hx hb dX10_odds_1 (by decide) ?_
    refine bd_e h (fun σ26 hq h => ?_)
    refine P_X10_thrown cx hV hq mk_6_97 dX10_odds_2 (fun H locs hV => ?_)
    refine lv_aload_n hx hb dX10_odds_5 rfl (lv_at hl 0 rfl) ?_
    refine lv_iload_n hx hb dX10_odds_6 rfl (lv_at hl 1 rfl) ?_
    refine lv_iconst (v := 1) hx hb dX10_odds_7 (by decide) ?_
    refine bd2_e h (fun v27 σ28 hq h => ?_)
    refine k_X10_isCrate hq cx hV mk_7_148 ⟨Nat.le_of_ble_eq_true rfl, Nat.le_of_ble_eq_true rfl⟩ ⟨Nat.zero_le _, Nat.zero_le _⟩ hl.1 (Nat.le_of_ble_eq_true rfl) dX10_odds_8 (fun H locs hV => ?_)
    refine lv_if_eq (tgt := 80) hx hb dX10_odds_11 (by decide) (fun hc => ?_) (fun hc => ?_)
    · have h := ifp hc h
      refine lv_lconst (v := 0) hx hb dX10_odds_80 (by decide) ?_
      obtain ⟨h1, h2⟩ := Prod.mk.inj (Option.some.inj h)
      subst h1
      subst h2
      subst hQ
      exact r_lret cx hr hlk hV dX10_odds_81
    · have h := ifn hc h
      refine lv_aload_n hx hb dX10_odds_14 rfl (lv_at hl 0 rfl) ?_
      refine lv_iload_n hx hb dX10_odds_15 rfl (lv_at hl 2 rfl) ?_
      refine lv_iconst (v := 2) hx hb dX10_odds_16 (by decide) ?_
      refine bd2_e h (fun v29 σ30 hq h => ?_)
      refine k_X10_isSleeve hq cx hV mk_7_160 ⟨Nat.le_of_ble_eq_true rfl, Nat.le_of_ble_eq_true rfl⟩ ⟨Nat.zero_le _, Nat.zero_le _⟩ hl.1 (Nat.le_of_ble_eq_true rfl) dX10_odds_17 (fun H locs hV => ?_)
      refine lv_if_eq (tgt := 80) hx hb dX10_odds_20 (by decide) (fun hc => ?_) (fun hc => ?_)
      · have h := ifp hc h
        refine lv_lconst (v := 0) hx hb dX10_odds_80 (by decide) ?_
        obtain ⟨h1, h2⟩ := Prod.mk.inj (Option.some.inj h)
        subst h1
        subst h2
        subst hQ
        exact r_lret cx hr hlk hV dX10_odds_81
      · have h := ifn hc h
        refine lv_aload_n hx hb dX10_odds_23 rfl (lv_at hl 0 rfl) ?_
        refine lv_iload_n hx hb dX10_odds_24 rfl (lv_at hl 3 rfl) ?_
        refine lv_iconst (v := 0) hx hb dX10_odds_25 (by decide) ?_
        refine lv_iconst (v := 4) hx hb dX10_odds_26 (by decide) ?_
        refine bd_e h (fun v31 hq h => ?_)
        refine k_X10_within hq cx hV mk_7_141 ⟨Nat.le_of_ble_eq_true rfl, Nat.le_of_ble_eq_true rfl⟩ ⟨Nat.zero_le _, Nat.zero_le _⟩ hl.1 (Nat.le_of_ble_eq_true rfl) dX10_odds_27 (fun H locs hV => ?_)
        refine lv_if_eq (tgt := 47) hx hb dX10_odds_30 (by decide) (fun hc => ?_) (fun hc => ?_)
        · have h := ifp hc h
          exact hj47 p1 p2 p3 p4 σ30 _ _ _ h hV (lv_sub hl [0, 1, 2, 3, 4] rfl)
        · have h := ifn hc h
          refine lv_iload hx hb dX10_odds_33 (lv_at hl 4 rfl) ?_
          refine lv_iconst (v := 0) hx hb dX10_odds_35 (by decide) ?_
          refine lv_iconst (v := 1) hx hb dX10_odds_36 (by decide) ?_
          refine bd_e h (fun v32 hq h => ?_)
          refine k_X10_within hq cx hV mk_7_141 ⟨Nat.le_of_ble_eq_true rfl, Nat.le_of_ble_eq_true rfl⟩ ⟨Nat.zero_le _, Nat.zero_le _⟩ hl.1 (Nat.le_of_ble_eq_true rfl) dX10_odds_37 (fun H locs hV => ?_)
          refine lv_if_eq (tgt := 47) hx hb dX10_odds_40 (by decide) (fun hc => ?_) (fun hc => ?_)
          · have h := ifp hc h
            exact hj47 p1 p2 p3 p4 σ30 _ _ _ h hV (lv_sub hl [0, 1, 2, 3, 4] rfl)
          · have h := ifn hc h
            refine lv_iconst (v := 1) hx hb dX10_odds_43 (by decide) ?_
            refine lv_goto (tgt := 48) hx hb dX10_odds_44 (by decide) ?_
            exact hj48 p1 p2 p3 p4 1 σ30 _ _ _ h hV (lv_sub hl [0, 1, 2, 3, 4] rfl)
  rw [hH, hlocs] at goal
  exact goal
theorem k_X10_odds {p : Program} {l : Launch} {e : Env} {R : Room} {s : State} {m : MethodId} {a : Array Value} {below : List Frame} {meth : Method} {c : Code} {H : Heap} {locs : List Loc} {cells slots : Nat} {Q : State → Prop} {cc : ByteArray} {own : String} {nL pc : Nat} {ls : Array Slot} {rest : List Value} {A : Nat → Prop} {E : EV} {X : va_W} {σ : St} {p1 : Int32} {p2 : Int32} {p3 : Int32} {p4 : Int32} {rv : Int64} {σf : St} (h : x_X10_odds p1 p2 p3 p4 σ = some (rv, σf)) (cx : CallFix p m c cc nL s a TBL own) (hV : AtW E (wM E σ ++ X) A s H locs) {idx : Nat} (w1 : Cond.methodLink own idx yX10_odds ∈ TBL) (hR : (rm_X10_odds).frames + 1 ≤ R.frames ∧ 8 + (5 + 11) + (rm_X10_odds).locals ≤ R.locals) (hcs : cells ≤ R.cells ∧ slots ≤ R.slots) (hls : ls.size = nL) (hcat : (rest.map fun v => v.category).sum ≤ 8) (d : decode cc pc = .ok (.invokevirtual idx, 3)) (kk : ∀ (H1 : Heap) (locs1 : List Loc), AtW E (wM E σf ++ X) A s H1 locs1 → W p l e R s m a below meth c H1 locs1 cells slots Q (F0 m (pc + 3) ls (.long rv :: rest))) : W p l e R s m a below meth c H locs cells slots Q (F0 m pc ls (.int p4 :: .int p3 :: .int p2 :: .int p1 :: .ref (eA E 0) :: rest)) :=
  r_calll (n := 4) (As := [.int p1, .int p2, .int p3, .int p4]) (q0 := 0) (ci := 10) (qq := (RX10, TX10, 64)) (c_X10_odds h) wM_fst rfl rfl mk_8_46 mk_8_47 mk_1_11 mk_8_48 (by decide +kernel) rfl ⟨rfl, rfl⟩ cx hV w1 hR hcs hls rfl hcat d kk
def x_X10_stepped_b20_108 (w1 : Int32) (w5 : Int32) (w6 : Int32) (σ : St) : Option (Bool × (Int32 × Int32)) :=
  bd (ldI (gA σ 6) (lenM 6) 3) fun v7 =>
  (if v7 ≤ 0 then
  some (true, (w5, (w6 + 1)))
  else
  some (true, ((w5 ||| ((1 <<< ((gI σ 8) &&& 31)) - 1)), (w6 + 1))))
def x_X10_stepped_b20_92 (w1 : Int32) (w8 : Int32) (w9 : Int32) (σ : St) : Option (Bool × (Int32 × Int32)) :=
  bd (ldI (gA σ 6) (lenM 6) 2) fun v10 =>
  (if v10 ≤ 0 then
  x_X10_stepped_b20_108 w1 w8 w9 σ
  else
  x_X10_stepped_b20_108 w1 (w8 ||| (1 <<< (w9 &&& 31))) w9 σ)
def x_X10_stepped_b20_88 (w1 : Int32) (w11 : Int32) (w12 : Int32) (w13 : Int32) (w14 : Int32) (w15 : Int32) (σ : St) : Option (Bool × (Int32 × Int32)) :=
  x_X10_stepped_b20_92 w1 (w12 ||| (w13 ||| (w14 <<< (w15 &&& 31)))) w11 σ
def x_X10_stepped_b20_66 (w1 : Int32) (w16 : Int32) (w17 : Int32) (w18 : Int32) (w19 : Int32) (σ : St) : Option (Bool × (Int32 × Int32)) :=
  (if (gI σ 8) ≤ (w16 + 1) then
  x_X10_stepped_b20_88 w1 w16 w17 (w18 <<< (w19 &&& 31)) 1 w16 σ
  else
  x_X10_stepped_b20_88 w1 w16 w17 (w18 <<< (w19 &&& 31)) 1 (w16 + 1) σ)
def x_X10_stepped_L20 (w1 : Int32) (σ : St) (u3 : Int32) (u4 : Int32) : Option (Bool × (Int32 × Int32)) :=
  (if (gI σ 8) ≤ u4 then
  some (false, (u3, u4))
  else
  (if ((w1 >>> (u4 &&& 31)) &&& 1) = 0 then
  some (true, (u3, (u4 + 1)))
  else
  bd (ldI (gA σ 6) (lenM 6) 1) fun v20 =>
  (if v20 ≤ 0 then
  x_X10_stepped_b20_92 w1 u3 u4 σ
  else
  (if u4 ≤ 0 then
  x_X10_stepped_b20_66 w1 u4 u3 1 u4 σ
  else
  x_X10_stepped_b20_66 w1 u4 u3 1 (u4 - 1) σ))))
def x_X10_stepped_b16 (w1 : Int32) (w2 : Int32) (σ : St) : Option Int32 :=
  bd2 (lp (fun v : (Int32 × Int32) => x_X10_stepped_L20 w1 σ v.1 v.2) FU (w2, 0)) fun z21 z22 =>
  some z21
def x_X10_stepped (p1 : Int32) (p2 : Int32) (σ : St) : Option Int32 :=
  bd (ldI (gA σ 6) (lenM 6) 0) fun v23 =>
  (if v23 ≤ 0 then
  x_X10_stepped_b16 p1 0 σ
  else
  x_X10_stepped_b16 p1 (1 <<< (p2 &&& 31)) σ)
abbrev rm_X10_stepped : Room := { frames := 0, cells := 0, slots := 0, locals := 0 }
set_option maxHeartbeats 4000000 in
set_option maxRecDepth 100000 in
theorem c_X10_stepped {l : Launch} {E : EV} {X : va_W} {σ : St} {p1 : Int32} {p2 : Int32} {rv : Int32} (h : x_X10_stepped p1 p2 σ = some rv) : CM l yX10_stepped cX10_stepped 5 (some .int) rm_X10_stepped [.ref (eA E 0), .int p1, .int p2] E (wM E σ ++ X) (wM E σ ++ X) (qI rv) := by
  refine CM.start (by decide) (Nat.le_of_ble_eq_true rfl) (fun p e s m a below meth c A ls cx hr hlk hV hl => ?_)
  have cx : CallFix p m c cX10_stepped 5 s a TBL RX10 := cx
  have hx := cx.1
  have hb := cx.2.1
  have hl : lv_has ls 5 [(0, .ref (eA E 0)), (1, .int p1), (2, .int p2)] := hl
  generalize hQ : EQ E (wM E σ ++ X) (qI rv) A s a below = QQ
  obtain ⟨H, hH⟩ : ∃ H, H = s.heap := ⟨_, rfl⟩
  obtain ⟨locs, hlocs⟩ : ∃ z, z = ([] : List Loc) := ⟨_, rfl⟩
  have hV : AtW E (wM E σ ++ X) A s H locs := by rw [hH, hlocs]; exact hV
  have goal : W p l e rm_X10_stepped s m a below meth c H locs 0 0 QQ (F0 m 0 ls []) := by
    unfold x_X10_stepped at h
    have hj16 : ∀ (w1 : Int32) (w2 : Int32) (H : Heap) (locs : List Loc) (ls : Array Slot), x_X10_stepped_b16 w1 w2 σ = some rv → AtW E (wM E σ ++ X) A s H locs → lv_has ls 5 [(0, .ref (eA E 0)), (1, .int w1)] → W p l e rm_X10_stepped s m a below meth c H locs 0 0 QQ (F0 m 16 ls [.int w2]) := by
      intro w1 w2 H locs ls h hV hl
      unfold x_X10_stepped_b16 at h
      refine lv_istore_n (lv' := [(3, .int w2), (0, .ref (eA E 0)), (1, .int w1)]) hx hb dX10_stepped_16 rfl hl (by decide) rfl (fun ls hl => ?_)
      refine lv_iconst (v := 0) hx hb dX10_stepped_17 (by decide) ?_
      refine lv_istore (lv' := [(4, .int 0), (3, .int w2), (0, .ref (eA E 0)), (1, .int w1)]) hx hb dX10_stepped_18 hl (by decide) rfl (fun ls hl => ?_)
      refine bd2_e h (fun z21 z22 ho h => ?_)
      refine (lp_rule (G := (fun v : (Int32 × Int32) => ∀ (H : Heap) (locs : List Loc) (ls : Array Slot), AtW E (wM E σ ++ X) A s H locs → lv_has ls 5 [(0, .ref (eA E 0)), (1, .int w1), (3, .int v.1), (4, .int v.2)] → W p l e rm_X10_stepped s m a below meth c H locs 0 0 QQ (F0 m 20 ls []))) (K := (fun v : (Int32 × Int32) => ∀ (H : Heap) (locs : List Loc) (ls : Array Slot), AtW E (wM E σ ++ X) A s H locs → lv_has ls 5 [(3, .int v.1)] → W p l e rm_X10_stepped s m a below meth c H locs 0 0 QQ (F0 m 134 ls []))) (fun v b1 y1 h hT1 hF1 => ?_) ho (fun H locs ls hV hl => ?_)) _ _ _ hV (lv_sub hl [2, 3, 1, 0] rfl)
      · have hj20_108 : ∀ (w5 : Int32) (w6 : Int32) (H : Heap) (locs : List Loc) (ls : Array Slot), x_X10_stepped_b20_108 w1 w5 w6 σ = some (b1, y1) → AtW E (wM E σ ++ X) A s H locs → lv_has ls 5 [(0, .ref (eA E 0)), (1, .int w1), (3, .int w5), (4, .int w6)] → W p l e rm_X10_stepped s m a below meth c H locs 0 0 QQ (F0 m 108 ls []) := by
          intro w5 w6 H locs ls h hV hl
          unfold x_X10_stepped_b20_108 at h
          refine lv_aload_n hx hb dX10_stepped_108 rfl (lv_at hl 0 rfl) ?_
          refine G_X10_weight cx hV mk_6_111 dX10_stepped_109 ?_
          refine lv_iconst (v := 3) hx hb dX10_stepped_112 (by decide) ?_
          refine bd_e h (fun v7 hq h => ?_)
          refine R_M_iald cx hV (by decide) hq dX10_stepped_113 ?_
          refine lv_if_le (tgt := 128) hx hb dX10_stepped_114 (by decide) (fun hc => ?_) (fun hc => ?_)
          · have h := ifp hc h
            refine lv_iinc (v := (w6 + 1)) (lv' := [(4, .int (w6 + 1)), (0, .ref (eA E 0)), (1, .int w1), (3, .int w5)]) hx hb dX10_stepped_128 hl (k := 3) rfl rfl (by decide) rfl (fun ls hl => ?_)
            refine lv_goto (tgt := 20) hx hb dX10_stepped_131 (by decide) ?_
            cases h
            exact hT1 rfl _ _ _ hV (lv_sub hl [1, 2, 3, 0] rfl)
          · have h := ifn hc h
            refine lv_iload_n hx hb dX10_stepped_117 rfl (lv_at hl 2 rfl) ?_
            refine lv_iconst (v := 1) hx hb dX10_stepped_118 (by decide) ?_
            refine lv_aload_n hx hb dX10_stepped_119 rfl (lv_at hl 0 rfl) ?_
            refine G_X10_crates cx hV mk_6_121 dX10_stepped_120 ?_
            refine lv_ishl hx hb dX10_stepped_123 ?_
            refine lv_iconst (v := 1) hx hb dX10_stepped_124 (by decide) ?_
            refine lv_isub hx hb dX10_stepped_125 ?_
            refine lv_ior hx hb dX10_stepped_126 ?_
            refine lv_istore_n (lv' := [(3, .int (w5 ||| ((1 <<< ((gI σ 8) &&& 31)) - 1))), (0, .ref (eA E 0)), (1, .int w1), (4, .int w6)]) hx hb dX10_stepped_127 rfl hl (by decide) rfl (fun ls hl => ?_)
            refine lv_iinc (v := (w6 + 1)) (lv' := [(4, .int (w6 + 1)), (3, .int (w5 ||| ((1 <<< ((gI σ 8) &&& 31)) - 1))), (0, .ref (eA E 0)), (1, .int w1)]) hx hb dX10_stepped_128 hl (k := 3) rfl rfl (by decide) rfl (fun ls hl => ?_)
            refine lv_goto (tgt := 20) hx hb dX10_stepped_131 (by decide) ?_
            cases h
            exact hT1 rfl _ _ _ hV (lv_sub hl [2, 3, 1, 0] rfl)
        have hj20_92 : ∀ (w8 : Int32) (w9 : Int32) (H : Heap) (locs : List Loc) (ls : Array Slot), x_X10_stepped_b20_92 w1 w8 w9 σ = some (b1, y1) → AtW E (wM E σ ++ X) A s H locs → lv_has ls 5 [(0, .ref (eA E 0)), (1, .int w1), (3, .int w8), (4, .int w9)] → W p l e rm_X10_stepped s m a below meth c H locs 0 0 QQ (F0 m 92 ls []) := by
          intro w8 w9 H locs ls h hV hl
          unfold x_X10_stepped_b20_92 at h
          refine lv_aload_n hx hb dX10_stepped_92 rfl (lv_at hl 0 rfl) ?_
          refine G_X10_weight cx hV mk_6_111 dX10_stepped_93 ?_
          refine lv_iconst (v := 2) hx hb dX10_stepped_96 (by decide) ?_
          refine bd_e h (fun v10 hq h => ?_)
          refine R_M_iald cx hV (by decide) hq dX10_stepped_97 ?_
          refine lv_if_le (tgt := 108) hx hb dX10_stepped_98 (by decide) (fun hc => ?_) (fun hc => ?_)
          · have h := ifp hc h
            exact hj20_108 w8 w9 _ _ _ h hV (lv_sub hl [0, 1, 2, 3] rfl)
          · have h := ifn hc h
            refine lv_iload_n hx hb dX10_stepped_101 rfl (lv_at hl 2 rfl) ?_
            refine lv_iconst (v := 1) hx hb dX10_stepped_102 (by decide) ?_
            refine lv_iload hx hb dX10_stepped_103 (lv_at hl 3 rfl) ?_
            refine lv_ishl hx hb dX10_stepped_105 ?_
            refine lv_ior hx hb dX10_stepped_106 ?_
            refine lv_istore_n (lv' := [(3, .int (w8 ||| (1 <<< (w9 &&& 31)))), (0, .ref (eA E 0)), (1, .int w1), (4, .int w9)]) hx hb dX10_stepped_107 rfl hl (by decide) rfl (fun ls hl => ?_)
            exact hj20_108 (w8 ||| (1 <<< (w9 &&& 31))) w9 _ _ _ h hV (lv_sub hl [1, 2, 0, 3] rfl)
        have hj20_88 : ∀ (w11 : Int32) (w12 : Int32) (w13 : Int32) (w14 : Int32) (w15 : Int32) (H : Heap) (locs : List Loc) (ls : Array Slot), x_X10_stepped_b20_88 w1 w11 w12 w13 w14 w15 σ = some (b1, y1) → AtW E (wM E σ ++ X) A s H locs → lv_has ls 5 [(0, .ref (eA E 0)), (1, .int w1), (4, .int w11)] → W p l e rm_X10_stepped s m a below meth c H locs 0 0 QQ (F0 m 88 ls [.int w15, .int w14, .int w13, .int w12]) := by
          intro w11 w12 w13 w14 w15 H locs ls h hV hl
          unfold x_X10_stepped_b20_88 at h
          refine lv_ishl hx hb dX10_stepped_88 ?_
          refine lv_ior hx hb dX10_stepped_89 ?_
          refine lv_ior hx hb dX10_stepped_90 ?_
          refine lv_istore_n (lv' := [(3, .int (w12 ||| (w13 ||| (w14 <<< (w15 &&& 31))))), (0, .ref (eA E 0)), (1, .int w1), (4, .int w11)]) hx hb dX10_stepped_91 rfl hl (by decide) rfl (fun ls hl => ?_)
          exact hj20_92 (w12 ||| (w13 ||| (w14 <<< (w15 &&& 31)))) w11 _ _ _ h hV (lv_sub hl [1, 2, 0, 3] rfl)
        have hj20_66 : ∀ (w16 : Int32) (w17 : Int32) (w18 : Int32) (w19 : Int32) (H : Heap) (locs : List Loc) (ls : Array Slot), x_X10_stepped_b20_66 w1 w16 w17 w18 w19 σ = some (b1, y1) → AtW E (wM E σ ++ X) A s H locs → lv_has ls 5 [(0, .ref (eA E 0)), (1, .int w1), (4, .int w16)] → W p l e rm_X10_stepped s m a below meth c H locs 0 0 QQ (F0 m 66 ls [.int w19, .int w18, .int w17]) := by
          intro w16 w17 w18 w19 H locs ls h hV hl
          unfold x_X10_stepped_b20_66 at h
          refine lv_ishl hx hb dX10_stepped_66 ?_
          refine lv_iconst (v := 1) hx hb dX10_stepped_67 (by decide) ?_
          refine lv_iload hx hb dX10_stepped_68 (lv_at hl 2 rfl) ?_
          refine lv_iconst (v := 1) hx hb dX10_stepped_70 (by decide) ?_
          refine lv_iadd hx hb dX10_stepped_71 ?_
          refine lv_aload_n hx hb dX10_stepped_72 rfl (lv_at hl 0 rfl) ?_
          refine G_X10_crates cx hV mk_6_121 dX10_stepped_73 ?_
          refine lv_icmp_ge (tgt := 86) hx hb dX10_stepped_76 (by decide) (fun hc => ?_) (fun hc => ?_)
          · have h := ifp hc h
            refine lv_iload hx hb dX10_stepped_86 (lv_at hl 2 rfl) ?_
            exact hj20_88 w16 w17 (w18 <<< (w19 &&& 31)) 1 w16 _ _ _ h hV (lv_sub hl [0, 1, 2] rfl)
          · have h := ifn hc h
            refine lv_iload hx hb dX10_stepped_79 (lv_at hl 2 rfl) ?_
            refine lv_iconst (v := 1) hx hb dX10_stepped_81 (by decide) ?_
            refine lv_iadd hx hb dX10_stepped_82 ?_
            refine lv_goto (tgt := 88) hx hb dX10_stepped_83 (by decide) ?_
            exact hj20_88 w16 w17 (w18 <<< (w19 &&& 31)) 1 (w16 + 1) _ _ _ h hV (lv_sub hl [0, 1, 2] rfl)
        obtain ⟨u3, u4⟩ := v
        have h : x_X10_stepped_L20 w1 σ u3 u4 = some (b1, y1) := h
        intro H locs ls hV hl
        have hV : AtW E (wM E σ ++ X) A s H locs := hV
        have hl : lv_has ls 5 [(0, .ref (eA E 0)), (1, .int w1), (3, .int u3), (4, .int u4)] := hl
        unfold x_X10_stepped_L20 at h
        refine lv_iload hx hb dX10_stepped_20 (lv_at hl 3 rfl) ?_
        refine lv_aload_n hx hb dX10_stepped_22 rfl (lv_at hl 0 rfl) ?_
        refine G_X10_crates cx hV mk_6_121 dX10_stepped_23 ?_
        refine lv_icmp_ge (tgt := 134) hx hb dX10_stepped_26 (by decide) (fun hc => ?_) (fun hc => ?_)
        · have h := ifp hc h
          cases h
          exact hF1 rfl _ _ _ hV (lv_sub hl [2] rfl)
        · have h := ifn hc h
          refine lv_iload_n hx hb dX10_stepped_29 rfl (lv_at hl 1 rfl) ?_
          refine lv_iload hx hb dX10_stepped_30 (lv_at hl 3 rfl) ?_
          refine lv_ishr hx hb dX10_stepped_32 ?_
          refine lv_iconst (v := 1) hx hb dX10_stepped_33 (by decide) ?_
          refine lv_iand hx hb dX10_stepped_34 ?_
          refine lv_if_ne (tgt := 41) hx hb dX10_stepped_35 (by decide) (fun hc => ?_) (fun hc => ?_)
          · have h := ifn hc h
            refine lv_aload_n hx hb dX10_stepped_41 rfl (lv_at hl 0 rfl) ?_
            refine G_X10_weight cx hV mk_6_111 dX10_stepped_42 ?_
            refine lv_iconst (v := 1) hx hb dX10_stepped_45 (by decide) ?_
            refine bd_e h (fun v20 hq h => ?_)
            refine R_M_iald cx hV (by decide) hq dX10_stepped_46 ?_
            refine lv_if_le (tgt := 92) hx hb dX10_stepped_47 (by decide) (fun hc => ?_) (fun hc => ?_)
            · have h := ifp hc h
              exact hj20_92 u3 u4 _ _ _ h hV (lv_sub hl [0, 1, 2, 3] rfl)
            · have h := ifn hc h
              refine lv_iload_n hx hb dX10_stepped_50 rfl (lv_at hl 2 rfl) ?_
              refine lv_iconst (v := 1) hx hb dX10_stepped_51 (by decide) ?_
              refine lv_iload hx hb dX10_stepped_52 (lv_at hl 3 rfl) ?_
              refine lv_if_le (tgt := 64) hx hb dX10_stepped_54 (by decide) (fun hc => ?_) (fun hc => ?_)
              · have h := ifp hc h
                refine lv_iload hx hb dX10_stepped_64 (lv_at hl 3 rfl) ?_
                exact hj20_66 u4 u3 1 u4 _ _ _ h hV (lv_sub hl [0, 1, 3] rfl)
              · have h := ifn hc h
                refine lv_iload hx hb dX10_stepped_57 (lv_at hl 3 rfl) ?_
                refine lv_iconst (v := 1) hx hb dX10_stepped_59 (by decide) ?_
                refine lv_isub hx hb dX10_stepped_60 ?_
                refine lv_goto (tgt := 66) hx hb dX10_stepped_61 (by decide) ?_
                exact hj20_66 u4 u3 1 (u4 - 1) _ _ _ h hV (lv_sub hl [0, 1, 3] rfl)
          · have h := ifp hc h
            refine lv_goto (tgt := 128) hx hb dX10_stepped_38 (by decide) ?_
            refine lv_iinc (v := (u4 + 1)) (lv' := [(4, .int (u4 + 1)), (0, .ref (eA E 0)), (1, .int w1), (3, .int u3)]) hx hb dX10_stepped_128 hl (k := 3) rfl rfl (by decide) rfl (fun ls hl => ?_)
            refine lv_goto (tgt := 20) hx hb dX10_stepped_131 (by decide) ?_
            cases h
            exact hT1 rfl _ _ _ hV (lv_sub hl [1, 2, 3, 0] rfl)
      · have hV : AtW E (wM E σ ++ X) A s H locs := hV
        have hl : lv_has ls 5 [(3, .int z21)] := hl
        refine lv_iload_n hx hb dX10_stepped_134 rfl (lv_at hl 0 rfl) ?_
        have h1 := Option.some.inj h
        subst h1
        subst hQ
        exact r_ireti cx hr hlk hV dX10_stepped_135
    refine lv_aload_n hx hb dX10_stepped_0 rfl (lv_at hl 0 rfl) ?_
    refine G_X10_weight cx hV mk_6_111 dX10_stepped_1 ?_
    refine lv_iconst (v := 0) hx hb dX10_stepped_4 (by decide) ?_
    refine bd_e h (fun v23 hq h => ?_)
    refine R_M_iald cx hV (by decide) hq dX10_stepped_5 ?_
    refine lv_if_le (tgt := 15) hx hb dX10_stepped_6 (by decide) (fun hc => ?_) (fun hc => ?_)
    · have h := ifp hc h
      refine lv_iconst (v := 0) hx hb dX10_stepped_15 (by decide) ?_
      exact hj16 p1 0 _ _ _ h hV (lv_sub hl [0, 1] rfl)
    · have h := ifn hc h
      refine lv_iconst (v := 1) hx hb dX10_stepped_9 (by decide) ?_
      refine lv_iload_n hx hb dX10_stepped_10 rfl (lv_at hl 2 rfl) ?_
      refine lv_ishl hx hb dX10_stepped_11 ?_
      refine lv_goto (tgt := 16) hx hb dX10_stepped_12 (by decide) ?_
      exact hj16 p1 (1 <<< (p2 &&& 31)) _ _ _ h hV (lv_sub hl [0, 1] rfl)
  rw [hH, hlocs] at goal
  exact goal
theorem k_X10_stepped {p : Program} {l : Launch} {e : Env} {R : Room} {s : State} {m : MethodId} {a : Array Value} {below : List Frame} {meth : Method} {c : Code} {H : Heap} {locs : List Loc} {cells slots : Nat} {Q : State → Prop} {cc : ByteArray} {own : String} {nL pc : Nat} {ls : Array Slot} {rest : List Value} {A : Nat → Prop} {E : EV} {X : va_W} {σ : St} {p1 : Int32} {p2 : Int32} {rv : Int32} (h : x_X10_stepped p1 p2 σ = some rv) (cx : CallFix p m c cc nL s a TBL own) (hV : AtW E (wM E σ ++ X) A s H locs) {idx : Nat} (w1 : Cond.methodLink own idx yX10_stepped ∈ TBL) (hR : (rm_X10_stepped).frames + 1 ≤ R.frames ∧ 8 + (5 + 11) + (rm_X10_stepped).locals ≤ R.locals) (hcs : cells ≤ R.cells ∧ slots ≤ R.slots) (hls : ls.size = nL) (hcat : (rest.map fun v => v.category).sum ≤ 8) (d : decode cc pc = .ok (.invokevirtual idx, 3)) (kk : ∀ (H1 : Heap) (locs1 : List Loc), AtW E (wM E σ ++ X) A s H1 locs1 → W p l e R s m a below meth c H1 locs1 cells slots Q (F0 m (pc + 3) ls (.int rv :: rest))) : W p l e R s m a below meth c H locs cells slots Q (F0 m pc ls (.int p2 :: .int p1 :: .ref (eA E 0) :: rest)) :=
  r_calli (n := 2) (As := [.int p1, .int p2]) (q0 := 0) (ci := 10) (qq := (RX10, TX10, 64)) (c_X10_stepped h) rfl rfl rfl mk_8_66 mk_P_99 mk_1_11 mk_8_67 (by decide +kernel) rfl ⟨rfl, rfl⟩ cx hV w1 hR hcs hls rfl hcat d kk
def x_X10_hidden_L60 (p1 : Int32) (u5 : Int32) (u6 : Int32) (σ4 : St) (u9 : Int32) (u10 : Int32) : Option (Bool × (Int32 × Int32)) :=
  (if p1 ≤ u10 then
  some (false, (u9, u10))
  else
  bd (x_X10_own u6 σ4) fun v11 =>
  bd (x_X10_stepped u9 v11 σ4) fun v12 =>
  some (true, ((u9 ||| v12), (u10 + 1))))
def x_X10_hidden_L27 (p1 : Int32) (σ4 : St) (u5 : Int32) (u6 : Int32) : Option (Bool × (Int32 × Int32)) :=
  (if (gI σ4 9) ≤ u6 then
  some (false, (u5, u6))
  else
  bd (ldI (gA σ4 7) (lenM 7) u6) fun v7 =>
  (if v7 = (-1) then
  some (true, (u5, (u6 + 1)))
  else
  bd (x_X10_own u6 σ4) fun v8 =>
  bd2 (lp (fun v : (Int32 × Int32) => x_X10_hidden_L60 p1 u5 u6 σ4 v.1 v.2) FU ((1 <<< (v8 &&& 31)), 0)) fun z13 z14 =>
  bd (ldI (gA σ4 7) (lenM 7) u6) fun v15 =>
  (if ((z13 >>> (v15 &&& 31)) &&& 1) = 0 then
  some (true, ((u5 ||| (1 <<< (u6 &&& 31))), (u6 + 1)))
  else
  some (true, (u5, (u6 + 1))))))
def x_X10_hidden (p1 : Int32) (σ : St) : Option (Int32 × St) :=
  bd (some (sI σ 0 0)) fun σ1 =>
  bd (x_X10_within p1 0 8) fun v2 =>
  bd2 (x_X10_may v2 1 2 σ1) fun v3 σ4 =>
  (if v3 = 0 then
  some (0, σ4)
  else
  bd2 (lp (fun v : (Int32 × Int32) => x_X10_hidden_L27 p1 σ4 v.1 v.2) FU (0, 0)) fun z16 z17 =>
  some (z16, σ4))
abbrev rm_X10_hidden : Room := { frames := 2, cells := 0, slots := 0, locals := 46 }
set_option maxHeartbeats 4000000 in
set_option maxRecDepth 100000 in
theorem c_X10_hidden {l : Launch} {E : EV} {X : va_W} {σ : St} {p1 : Int32} {rv : Int32} {σf : St} (h : x_X10_hidden p1 σ = some (rv, σf)) : CM l yX10_hidden cX10_hidden 6 (some .int) rm_X10_hidden [.ref (eA E 0), .int p1] E (wM E σ ++ X) (wM E σf ++ X) (qI rv) := by
  refine CM.start (by decide) (Nat.le_of_ble_eq_true rfl) (fun p e s m a below meth c A ls cx hr hlk hV hl => ?_)
  have cx : CallFix p m c cX10_hidden 6 s a TBL RX10 := cx
  have hx := cx.1
  have hb := cx.2.1
  have hl : lv_has ls 6 [(0, .ref (eA E 0)), (1, .int p1)] := hl
  generalize hQ : EQ E (wM E σf ++ X) (qI rv) A s a below = QQ
  obtain ⟨H, hH⟩ : ∃ H, H = s.heap := ⟨_, rfl⟩
  obtain ⟨locs, hlocs⟩ : ∃ z, z = ([] : List Loc) := ⟨_, rfl⟩
  have hV : AtW E (wM E σ ++ X) A s H locs := by rw [hH, hlocs]; exact hV
  have goal : W p l e rm_X10_hidden s m a below meth c H locs 0 0 QQ (F0 m 0 ls []) := by
    unfold x_X10_hidden at h
    refine lv_aload_n hx hb dX10_hidden_0 rfl (lv_at hl 0 rfl) ?_
    refine lv_iconst (v := 0) hx hb dX10_hidden_1 (by decide) ?_
    refine bd_e h (fun σ1 hq h => ?_)
    refine P_X10_thrown cx hV hq mk_6_97 dX10_hidden_2 (fun H locs hV => ?_)
    refine lv_aload_n hx hb dX10_hidden_5 rfl (lv_at hl 0 rfl) ?_
    refine lv_iload_n hx hb dX10_hidden_6 rfl (lv_at hl 1 rfl) ?_
    refine lv_iconst (v := 0) hx hb dX10_hidden_7 (by decide) ?_
    refine lv_bipush (v := 8) hx hb dX10_hidden_8 (by decide) ?_
    refine bd_e h (fun v2 hq h => ?_)
    refine k_X10_within hq cx hV mk_7_141 ⟨Nat.le_of_ble_eq_true rfl, Nat.le_of_ble_eq_true rfl⟩ ⟨Nat.zero_le _, Nat.zero_le _⟩ hl.1 (Nat.le_of_ble_eq_true rfl) dX10_hidden_10 (fun H locs hV => ?_)
    refine lv_iconst (v := 1) hx hb dX10_hidden_13 (by decide) ?_
    refine lv_iconst (v := 2) hx hb dX10_hidden_14 (by decide) ?_
    refine bd2_e h (fun v3 σ4 hq h => ?_)
    refine k_X10_may hq cx hV mk_7_62 ⟨Nat.le_of_ble_eq_true rfl, Nat.le_of_ble_eq_true rfl⟩ ⟨Nat.zero_le _, Nat.zero_le _⟩ hl.1 (Nat.le_of_ble_eq_true rfl) dX10_hidden_15 (fun H locs hV => ?_)
    refine lv_if_ne (tgt := 23) hx hb dX10_hidden_18 (by decide) (fun hc => ?_) (fun hc => ?_)
    · have h := ifn hc h
      refine lv_iconst (v := 0) hx hb dX10_hidden_23 (by decide) ?_
      refine lv_istore_n (lv' := [(2, .int 0), (0, .ref (eA E 0)), (1, .int p1)]) hx hb dX10_hidden_24 rfl hl (by decide) rfl (fun ls hl => ?_)
      refine lv_iconst (v := 0) hx hb dX10_hidden_25 (by decide) ?_
      refine lv_istore_n (lv' := [(3, .int 0), (2, .int 0), (0, .ref (eA E 0)), (1, .int p1)]) hx hb dX10_hidden_26 rfl hl (by decide) rfl (fun ls hl => ?_)
      refine bd2_e h (fun z16 z17 ho h => ?_)
      refine (lp_rule (G := (fun v : (Int32 × Int32) => ∀ (H : Heap) (locs : List Loc) (ls : Array Slot), AtW E (wM E σ4 ++ X) A s H locs → lv_has ls 6 [(0, .ref (eA E 0)), (1, .int p1), (2, .int v.1), (3, .int v.2)] → W p l e rm_X10_hidden s m a below meth c H locs 0 0 QQ (F0 m 27 ls []))) (K := (fun v : (Int32 × Int32) => ∀ (H : Heap) (locs : List Loc) (ls : Array Slot), AtW E (wM E σ4 ++ X) A s H locs → lv_has ls 6 [(2, .int v.1)] → W p l e rm_X10_hidden s m a below meth c H locs 0 0 QQ (F0 m 114 ls []))) (fun v b1 y1 h hT1 hF1 => ?_) ho (fun H locs ls hV hl => ?_)) _ _ _ hV (lv_sub hl [2, 3, 1, 0] rfl)
      · obtain ⟨u5, u6⟩ := v
        have h : x_X10_hidden_L27 p1 σ4 u5 u6 = some (b1, y1) := h
        intro H locs ls hV hl
        have hV : AtW E (wM E σ4 ++ X) A s H locs := hV
        have hl : lv_has ls 6 [(0, .ref (eA E 0)), (1, .int p1), (2, .int u5), (3, .int u6)] := hl
        unfold x_X10_hidden_L27 at h
        refine lv_iload_n hx hb dX10_hidden_27 rfl (lv_at hl 3 rfl) ?_
        refine lv_aload_n hx hb dX10_hidden_28 rfl (lv_at hl 0 rfl) ?_
        refine G_X10_sleeves cx hV mk_6_122 dX10_hidden_29 ?_
        refine lv_icmp_ge (tgt := 114) hx hb dX10_hidden_32 (by decide) (fun hc => ?_) (fun hc => ?_)
        · have h := ifp hc h
          cases h
          exact hF1 rfl _ _ _ hV (lv_sub hl [2] rfl)
        · have h := ifn hc h
          refine lv_aload_n hx hb dX10_hidden_35 rfl (lv_at hl 0 rfl) ?_
          refine G_X10_liesAt cx hV mk_6_112 dX10_hidden_36 ?_
          refine lv_iload_n hx hb dX10_hidden_39 rfl (lv_at hl 3 rfl) ?_
          refine bd_e h (fun v7 hq h => ?_)
          refine R_M_iald cx hV (by decide) hq dX10_hidden_40 ?_
          refine lv_iconst (v := (-1)) hx hb dX10_hidden_41 (by decide) ?_
          refine lv_icmp_ne (tgt := 48) hx hb dX10_hidden_42 (by decide) (fun hc => ?_) (fun hc => ?_)
          · have h := ifn hc h
            refine lv_iconst (v := 1) hx hb dX10_hidden_48 (by decide) ?_
            refine lv_aload_n hx hb dX10_hidden_49 rfl (lv_at hl 0 rfl) ?_
            refine lv_iload_n hx hb dX10_hidden_50 rfl (lv_at hl 3 rfl) ?_
            refine bd_e h (fun v8 hq h => ?_)
            refine k_X10_own hq cx hV mk_7_164 ⟨Nat.le_of_ble_eq_true rfl, Nat.le_of_ble_eq_true rfl⟩ ⟨Nat.zero_le _, Nat.zero_le _⟩ hl.1 (Nat.le_of_ble_eq_true rfl) dX10_hidden_51 (fun H locs hV => ?_)
            refine lv_ishl hx hb dX10_hidden_54 ?_
            refine lv_istore (lv' := [(4, .int (1 <<< (v8 &&& 31))), (0, .ref (eA E 0)), (1, .int p1), (2, .int u5), (3, .int u6)]) hx hb dX10_hidden_55 hl (by decide) rfl (fun ls hl => ?_)
            refine lv_iconst (v := 0) hx hb dX10_hidden_57 (by decide) ?_
            refine lv_istore (lv' := [(5, .int 0), (4, .int (1 <<< (v8 &&& 31))), (0, .ref (eA E 0)), (1, .int p1), (2, .int u5), (3, .int u6)]) hx hb dX10_hidden_58 hl (by decide) rfl (fun ls hl => ?_)
            refine bd2_e h (fun z13 z14 ho h => ?_)
            refine (lp_rule (G := (fun v : (Int32 × Int32) => ∀ (H : Heap) (locs : List Loc) (ls : Array Slot), AtW E (wM E σ4 ++ X) A s H locs → lv_has ls 6 [(0, .ref (eA E 0)), (1, .int p1), (2, .int u5), (3, .int u6), (4, .int v.1), (5, .int v.2)] → W p l e rm_X10_hidden s m a below meth c H locs 0 0 QQ (F0 m 60 ls []))) (K := (fun v : (Int32 × Int32) => ∀ (H : Heap) (locs : List Loc) (ls : Array Slot), AtW E (wM E σ4 ++ X) A s H locs → lv_has ls 6 [(0, .ref (eA E 0)), (1, .int p1), (2, .int u5), (3, .int u6), (4, .int v.1)] → W p l e rm_X10_hidden s m a below meth c H locs 0 0 QQ (F0 m 88 ls []))) (fun v b2 y2 h hT2 hF2 => ?_) ho (fun H locs ls hV hl => ?_)) _ _ _ hV (lv_sub hl [2, 3, 4, 5, 1, 0] rfl)
            · obtain ⟨u9, u10⟩ := v
              have h : x_X10_hidden_L60 p1 u5 u6 σ4 u9 u10 = some (b2, y2) := h
              intro H locs ls hV hl
              have hV : AtW E (wM E σ4 ++ X) A s H locs := hV
              have hl : lv_has ls 6 [(0, .ref (eA E 0)), (1, .int p1), (2, .int u5), (3, .int u6), (4, .int u9), (5, .int u10)] := hl
              unfold x_X10_hidden_L60 at h
              refine lv_iload hx hb dX10_hidden_60 (lv_at hl 5 rfl) ?_
              refine lv_iload_n hx hb dX10_hidden_62 rfl (lv_at hl 1 rfl) ?_
              refine lv_icmp_ge (tgt := 88) hx hb dX10_hidden_63 (by decide) (fun hc => ?_) (fun hc => ?_)
              · have h := ifp hc h
                cases h
                exact hF2 rfl _ _ _ hV (lv_sub hl [0, 1, 2, 3, 4] rfl)
              · have h := ifn hc h
                refine lv_iload hx hb dX10_hidden_66 (lv_at hl 4 rfl) ?_
                refine lv_aload_n hx hb dX10_hidden_68 rfl (lv_at hl 0 rfl) ?_
                refine lv_iload hx hb dX10_hidden_69 (lv_at hl 4 rfl) ?_
                refine lv_aload_n hx hb dX10_hidden_71 rfl (lv_at hl 0 rfl) ?_
                refine lv_iload_n hx hb dX10_hidden_72 rfl (lv_at hl 3 rfl) ?_
                refine bd_e h (fun v11 hq h => ?_)
                refine k_X10_own hq cx hV mk_7_164 ⟨Nat.le_of_ble_eq_true rfl, Nat.le_of_ble_eq_true rfl⟩ ⟨Nat.zero_le _, Nat.zero_le _⟩ hl.1 (Nat.le_of_ble_eq_true rfl) dX10_hidden_73 (fun H locs hV => ?_)
                refine bd_e h (fun v12 hq h => ?_)
                refine k_X10_stepped hq cx hV mk_8_64 ⟨Nat.le_of_ble_eq_true rfl, Nat.le_of_ble_eq_true rfl⟩ ⟨Nat.zero_le _, Nat.zero_le _⟩ hl.1 (Nat.le_of_ble_eq_true rfl) dX10_hidden_76 (fun H locs hV => ?_)
                refine lv_ior hx hb dX10_hidden_79 ?_
                refine lv_istore (lv' := [(4, .int (u9 ||| v12)), (0, .ref (eA E 0)), (1, .int p1), (2, .int u5), (3, .int u6), (5, .int u10)]) hx hb dX10_hidden_80 hl (by decide) rfl (fun ls hl => ?_)
                refine lv_iinc (v := (u10 + 1)) (lv' := [(5, .int (u10 + 1)), (4, .int (u9 ||| v12)), (0, .ref (eA E 0)), (1, .int p1), (2, .int u5), (3, .int u6)]) hx hb dX10_hidden_82 hl (k := 5) rfl rfl (by decide) rfl (fun ls hl => ?_)
                refine lv_goto (tgt := 60) hx hb dX10_hidden_85 (by decide) ?_
                cases h
                exact hT2 rfl _ _ _ hV (lv_sub hl [2, 3, 4, 5, 1, 0] rfl)
            · have hV : AtW E (wM E σ4 ++ X) A s H locs := hV
              have hl : lv_has ls 6 [(0, .ref (eA E 0)), (1, .int p1), (2, .int u5), (3, .int u6), (4, .int z13)] := hl
              refine lv_iload hx hb dX10_hidden_88 (lv_at hl 4 rfl) ?_
              refine lv_aload_n hx hb dX10_hidden_90 rfl (lv_at hl 0 rfl) ?_
              refine G_X10_liesAt cx hV mk_6_112 dX10_hidden_91 ?_
              refine lv_iload_n hx hb dX10_hidden_94 rfl (lv_at hl 3 rfl) ?_
              refine bd_e h (fun v15 hq h => ?_)
              refine R_M_iald cx hV (by decide) hq dX10_hidden_95 ?_
              refine lv_ishr hx hb dX10_hidden_96 ?_
              refine lv_iconst (v := 1) hx hb dX10_hidden_97 (by decide) ?_
              refine lv_iand hx hb dX10_hidden_98 ?_
              refine lv_if_ne (tgt := 108) hx hb dX10_hidden_99 (by decide) (fun hc => ?_) (fun hc => ?_)
              · have h := ifn hc h
                refine lv_iinc (v := (u6 + 1)) (lv' := [(3, .int (u6 + 1)), (0, .ref (eA E 0)), (1, .int p1), (2, .int u5), (4, .int z13)]) hx hb dX10_hidden_108 hl (k := 3) rfl rfl (by decide) rfl (fun ls hl => ?_)
                refine lv_goto (tgt := 27) hx hb dX10_hidden_111 (by decide) ?_
                cases h
                exact hT1 rfl _ _ _ hV (lv_sub hl [1, 2, 3, 0] rfl)
              · have h := ifp hc h
                refine lv_iload_n hx hb dX10_hidden_102 rfl (lv_at hl 2 rfl) ?_
                refine lv_iconst (v := 1) hx hb dX10_hidden_103 (by decide) ?_
                refine lv_iload_n hx hb dX10_hidden_104 rfl (lv_at hl 3 rfl) ?_
                refine lv_ishl hx hb dX10_hidden_105 ?_
                refine lv_ior hx hb dX10_hidden_106 ?_
                refine lv_istore_n (lv' := [(2, .int (u5 ||| (1 <<< (u6 &&& 31)))), (0, .ref (eA E 0)), (1, .int p1), (3, .int u6), (4, .int z13)]) hx hb dX10_hidden_107 rfl hl (by decide) rfl (fun ls hl => ?_)
                refine lv_iinc (v := (u6 + 1)) (lv' := [(3, .int (u6 + 1)), (2, .int (u5 ||| (1 <<< (u6 &&& 31)))), (0, .ref (eA E 0)), (1, .int p1), (4, .int z13)]) hx hb dX10_hidden_108 hl (k := 3) rfl rfl (by decide) rfl (fun ls hl => ?_)
                refine lv_goto (tgt := 27) hx hb dX10_hidden_111 (by decide) ?_
                cases h
                exact hT1 rfl _ _ _ hV (lv_sub hl [2, 3, 1, 0] rfl)
          · have h := ifp hc h
            refine lv_goto (tgt := 108) hx hb dX10_hidden_45 (by decide) ?_
            refine lv_iinc (v := (u6 + 1)) (lv' := [(3, .int (u6 + 1)), (0, .ref (eA E 0)), (1, .int p1), (2, .int u5)]) hx hb dX10_hidden_108 hl (k := 3) rfl rfl (by decide) rfl (fun ls hl => ?_)
            refine lv_goto (tgt := 27) hx hb dX10_hidden_111 (by decide) ?_
            cases h
            exact hT1 rfl _ _ _ hV (lv_sub hl [1, 2, 3, 0] rfl)
      · have hV : AtW E (wM E σ4 ++ X) A s H locs := hV
        have hl : lv_has ls 6 [(2, .int z16)] := hl
        refine lv_iload_n hx hb dX10_hidden_114 rfl (lv_at hl 0 rfl) ?_
        obtain ⟨h1, h2⟩ := Prod.mk.inj (Option.some.inj h)
        subst h1
        subst h2
        subst hQ
        exact r_ireti cx hr hlk hV dX10_hidden_115
    · have h := ifp hc h
      refine lv_iconst (v := 0) hx hb dX10_hidden_21 (by decide) ?_
      obtain ⟨h1, h2⟩ := Prod.mk.inj (Option.some.inj h)
      subst h1
      subst h2
      subst hQ
      exact r_ireti cx hr hlk hV dX10_hidden_22
  rw [hH, hlocs] at goal
  exact goal
theorem k_X10_hidden {p : Program} {l : Launch} {e : Env} {R : Room} {s : State} {m : MethodId} {a : Array Value} {below : List Frame} {meth : Method} {c : Code} {H : Heap} {locs : List Loc} {cells slots : Nat} {Q : State → Prop} {cc : ByteArray} {own : String} {nL pc : Nat} {ls : Array Slot} {rest : List Value} {A : Nat → Prop} {E : EV} {X : va_W} {σ : St} {p1 : Int32} {rv : Int32} {σf : St} (h : x_X10_hidden p1 σ = some (rv, σf)) (cx : CallFix p m c cc nL s a TBL own) (hV : AtW E (wM E σ ++ X) A s H locs) {idx : Nat} (w1 : Cond.methodLink own idx yX10_hidden ∈ TBL) (hR : (rm_X10_hidden).frames + 1 ≤ R.frames ∧ 8 + (6 + 11) + (rm_X10_hidden).locals ≤ R.locals) (hcs : cells ≤ R.cells ∧ slots ≤ R.slots) (hls : ls.size = nL) (hcat : (rest.map fun v => v.category).sum ≤ 8) (d : decode cc pc = .ok (.invokevirtual idx, 3)) (kk : ∀ (H1 : Heap) (locs1 : List Loc), AtW E (wM E σf ++ X) A s H1 locs1 → W p l e R s m a below meth c H1 locs1 cells slots Q (F0 m (pc + 3) ls (.int rv :: rest))) : W p l e R s m a below meth c H locs cells slots Q (F0 m pc ls (.int p1 :: .ref (eA E 0) :: rest)) :=
  r_calli (n := 1) (As := [.int p1]) (q0 := 0) (ci := 10) (qq := (RX10, TX10, 64)) (c_X10_hidden h) wM_fst rfl rfl mk_8_61 mk_8_62 mk_1_11 mk_8_63 (by decide +kernel) rfl ⟨rfl, rfl⟩ cx hV w1 hR hcs hls rfl hcat d kk
def x_X10_seconds (p1 : Int32) (p2 : Int32) (σ : St) : Option Int32 :=
  bd (ldI (gA σ 16) (lenM 16) p1) fun v1 =>
  bd (dvI (v1 + p2) p2) fun v2 =>
  some v2
abbrev rm_X10_seconds : Room := { frames := 0, cells := 0, slots := 0, locals := 0 }
set_option maxHeartbeats 4000000 in
set_option maxRecDepth 100000 in
theorem c_X10_seconds {l : Launch} {E : EV} {X : va_W} {σ : St} {p1 : Int32} {p2 : Int32} {rv : Int32} (h : x_X10_seconds p1 p2 σ = some rv) : CM l yX10_seconds cX10_seconds 3 (some .int) rm_X10_seconds [.ref (eA E 0), .int p1, .int p2] E (wM E σ ++ X) (wM E σ ++ X) (qI rv) := by
  refine CM.start (by decide) (Nat.le_of_ble_eq_true rfl) (fun p e s m a below meth c A ls cx hr hlk hV hl => ?_)
  have cx : CallFix p m c cX10_seconds 3 s a TBL RX10 := cx
  have hx := cx.1
  have hb := cx.2.1
  have hl : lv_has ls 3 [(0, .ref (eA E 0)), (1, .int p1), (2, .int p2)] := hl
  generalize hQ : EQ E (wM E σ ++ X) (qI rv) A s a below = QQ
  obtain ⟨H, hH⟩ : ∃ H, H = s.heap := ⟨_, rfl⟩
  obtain ⟨locs, hlocs⟩ : ∃ z, z = ([] : List Loc) := ⟨_, rfl⟩
  have hV : AtW E (wM E σ ++ X) A s H locs := by rw [hH, hlocs]; exact hV
  have goal : W p l e rm_X10_seconds s m a below meth c H locs 0 0 QQ (F0 m 0 ls []) := by
    unfold x_X10_seconds at h
    refine lv_aload_n hx hb dX10_seconds_0 rfl (lv_at hl 0 rfl) ?_
    refine G_X10_many cx hV mk_6_129 dX10_seconds_1 ?_
    refine lv_iload_n hx hb dX10_seconds_4 rfl (lv_at hl 1 rfl) ?_
    refine bd_e h (fun v1 hq h => ?_)
    refine R_M_iald cx hV (by decide) hq dX10_seconds_5 ?_
    refine lv_iload_n hx hb dX10_seconds_6 rfl (lv_at hl 2 rfl) ?_
    refine lv_iadd hx hb dX10_seconds_7 ?_
    refine lv_iload_n hx hb dX10_seconds_8 rfl (lv_at hl 2 rfl) ?_
    refine bd_e h (fun v2 hq h => ?_)
    obtain ⟨hne, hq⟩ := dvI_e hq
    refine lv_idiv hx hb dX10_seconds_9 hne ?_
    rw [hq]
    have h1 := Option.some.inj h
    subst h1
    subst hQ
    exact r_ireti cx hr hlk hV dX10_seconds_10
  rw [hH, hlocs] at goal
  exact goal
theorem k_X10_seconds {p : Program} {l : Launch} {e : Env} {R : Room} {s : State} {m : MethodId} {a : Array Value} {below : List Frame} {meth : Method} {c : Code} {H : Heap} {locs : List Loc} {cells slots : Nat} {Q : State → Prop} {cc : ByteArray} {own : String} {nL pc : Nat} {ls : Array Slot} {rest : List Value} {A : Nat → Prop} {E : EV} {X : va_W} {σ : St} {p1 : Int32} {p2 : Int32} {rv : Int32} (h : x_X10_seconds p1 p2 σ = some rv) (cx : CallFix p m c cc nL s a TBL own) (hV : AtW E (wM E σ ++ X) A s H locs) {idx : Nat} (w1 : Cond.methodLink own idx yX10_seconds ∈ TBL) (hR : (rm_X10_seconds).frames + 1 ≤ R.frames ∧ 8 + (3 + 11) + (rm_X10_seconds).locals ≤ R.locals) (hcs : cells ≤ R.cells ∧ slots ≤ R.slots) (hls : ls.size = nL) (hcat : (rest.map fun v => v.category).sum ≤ 8) (d : decode cc pc = .ok (.invokevirtual idx, 3)) (kk : ∀ (H1 : Heap) (locs1 : List Loc), AtW E (wM E σ ++ X) A s H1 locs1 → W p l e R s m a below meth c H1 locs1 cells slots Q (F0 m (pc + 3) ls (.int rv :: rest))) : W p l e R s m a below meth c H locs cells slots Q (F0 m pc ls (.int p2 :: .int p1 :: .ref (eA E 0) :: rest)) :=
  r_calli (n := 2) (As := [.int p1, .int p2]) (q0 := 0) (ci := 10) (qq := (RX10, TX10, 64)) (c_X10_seconds h) rfl rfl rfl mk_8_78 mk_P_101 mk_1_11 mk_8_79 (by decide +kernel) rfl ⟨rfl, rfl⟩ cx hV w1 hR hcs hls rfl hcat d kk
def x_X10_findOrder_L22 (p3 : Int32) (u2 : Int32) (u4 : Int32) (σ5 : St) : Option (Bool × (Int32 × St)) :=
  (if u4 ≤ 0 then
  some (false, (u4, σ5))
  else
  bd (ldJ (gJ σ5 0) 8 u2) fun v6 =>
  bd (ldI (gA σ5 31) (lenM 31) (u4 - 1)) fun v7 =>
  bd (x_X10_seconds v7 p3 σ5) fun v8 =>
  bd (ldI (gA σ5 31) (lenM 31) (u4 - 1)) fun v9 =>
  bd (ldJ (gJ σ5 0) 8 v9) fun v10 =>
  bd (x_X10_seconds u2 p3 σ5) fun v11 =>
  (if (lg_cmp (v6 * (Int32.toInt64 v8)) (v10 * (Int32.toInt64 v11))) ≤ 0 then
  some (false, (u4, σ5))
  else
  bd (ldI (gA σ5 31) (lenM 31) (u4 - 1)) fun v12 =>
  bd (stI σ5 31 (lenM 31) u4 v12) fun σ13 =>
  some (true, ((u4 + (-1)), σ13))))
def x_X10_findOrder_L9 (p3 : Int32) (u2 : Int32) (σ3 : St) : Option (Bool × (Int32 × St)) :=
  (if (gI σ3 8) ≤ u2 then
  some (false, (u2, σ3))
  else
  bd2 (lp (fun v : (Int32 × St) => x_X10_findOrder_L22 p3 u2 v.1 v.2) FU (u2, σ3)) fun z14 σ15 =>
  bd (stI σ15 31 (lenM 31) z14 u2) fun σ16 =>
  some (true, ((u2 + 1), σ16)))
def x_X10_findOrder (p1 : Int32) (p2 : Int32) (p3 : Int32) (σ : St) : Option St :=
  bd (x_X10_findOdds p1 p2 σ) fun σ1 =>
  bd2 (lp (fun v : (Int32 × St) => x_X10_findOrder_L9 p3 v.1 v.2) FU (0, σ1)) fun z17 σ18 =>
  some σ18
abbrev rm_X10_findOrder : Room := { frames := 3, cells := 0, slots := 0, locals := 73 }
set_option maxHeartbeats 4000000 in
set_option maxRecDepth 100000 in
theorem c_X10_findOrder {l : Launch} {E : EV} {X : va_W} {σ : St} {p1 : Int32} {p2 : Int32} {p3 : Int32} {σf : St} (h : x_X10_findOrder p1 p2 p3 σ = some σf) : CM l yX10_findOrder cX10_findOrder 6 none rm_X10_findOrder [.ref (eA E 0), .int p1, .int p2, .int p3] E (wM E σ ++ X) (wM E σf ++ X) qV := by
  refine CM.start (by decide) (Nat.le_of_ble_eq_true rfl) (fun p e s m a below meth c A ls cx hr hlk hV hl => ?_)
  have cx : CallFix p m c cX10_findOrder 6 s a TBL RX10 := cx
  have hx := cx.1
  have hb := cx.2.1
  have hl : lv_has ls 6 [(0, .ref (eA E 0)), (1, .int p1), (2, .int p2), (3, .int p3)] := hl
  generalize hQ : EQ E (wM E σf ++ X) qV A s a below = QQ
  obtain ⟨H, hH⟩ : ∃ H, H = s.heap := ⟨_, rfl⟩
  obtain ⟨locs, hlocs⟩ : ∃ z, z = ([] : List Loc) := ⟨_, rfl⟩
  have hV : AtW E (wM E σ ++ X) A s H locs := by rw [hH, hlocs]; exact hV
  have goal : W p l e rm_X10_findOrder s m a below meth c H locs 0 0 QQ (F0 m 0 ls []) := by
    unfold x_X10_findOrder at h
    refine lv_aload_n hx hb dX10_findOrder_0 rfl (lv_at hl 0 rfl) ?_
    refine lv_iload_n hx hb dX10_findOrder_1 rfl (lv_at hl 1 rfl) ?_
    refine lv_iload_n hx hb dX10_findOrder_2 rfl (lv_at hl 2 rfl) ?_
    refine bd_e h (fun σ1 hq h => ?_)
    refine k_X10_findOdds hq cx hV mk_8_49 ⟨Nat.le_of_ble_eq_true rfl, Nat.le_of_ble_eq_true rfl⟩ ⟨Nat.zero_le _, Nat.zero_le _⟩ hl.1 (Nat.le_of_ble_eq_true rfl) dX10_findOrder_3 (fun H locs hV => ?_)
    refine lv_iconst (v := 0) hx hb dX10_findOrder_6 (by decide) ?_
    refine lv_istore (lv' := [(4, .int 0), (0, .ref (eA E 0)), (1, .int p1), (2, .int p2), (3, .int p3)]) hx hb dX10_findOrder_7 hl (by decide) rfl (fun ls hl => ?_)
    refine bd2_e h (fun z17 σ18 ho h => ?_)
    refine (lp_rule (G := (fun v : (Int32 × St) => ∀ (H : Heap) (locs : List Loc) (ls : Array Slot), AtW E (wM E v.2 ++ X) A s H locs → lv_has ls 6 [(0, .ref (eA E 0)), (3, .int p3), (4, .int v.1)] → W p l e rm_X10_findOrder s m a below meth c H locs 0 0 QQ (F0 m 9 ls []))) (K := (fun v : (Int32 × St) => ∀ (H : Heap) (locs : List Loc) (ls : Array Slot), AtW E (wM E v.2 ++ X) A s H locs → lv_has ls 6 [] → W p l e rm_X10_findOrder s m a below meth c H locs 0 0 QQ (F0 m 114 ls []))) (fun v b1 y1 h hT1 hF1 => ?_) ho (fun H locs ls hV hl => ?_)) _ _ _ hV (lv_sub hl [1, 4, 0] rfl)
    · obtain ⟨u2, σ3⟩ := v
      have h : x_X10_findOrder_L9 p3 u2 σ3 = some (b1, y1) := h
      intro H locs ls hV hl
      have hV : AtW E (wM E σ3 ++ X) A s H locs := hV
      have hl : lv_has ls 6 [(0, .ref (eA E 0)), (3, .int p3), (4, .int u2)] := hl
      unfold x_X10_findOrder_L9 at h
      refine lv_iload hx hb dX10_findOrder_9 (lv_at hl 2 rfl) ?_
      refine lv_aload_n hx hb dX10_findOrder_11 rfl (lv_at hl 0 rfl) ?_
      refine G_X10_crates cx hV mk_6_121 dX10_findOrder_12 ?_
      refine lv_icmp_ge (tgt := 114) hx hb dX10_findOrder_15 (by decide) (fun hc => ?_) (fun hc => ?_)
      · have h := ifp hc h
        cases h
        exact hF1 rfl _ _ _ hV (lv_sub hl [] rfl)
      · have h := ifn hc h
        refine lv_iload hx hb dX10_findOrder_18 (lv_at hl 2 rfl) ?_
        refine lv_istore (lv' := [(5, .int u2), (0, .ref (eA E 0)), (3, .int p3), (4, .int u2)]) hx hb dX10_findOrder_20 hl (by decide) rfl (fun ls hl => ?_)
        refine bd2_e h (fun z14 σ15 ho h => ?_)
        refine (lp_rule (G := (fun v : (Int32 × St) => ∀ (H : Heap) (locs : List Loc) (ls : Array Slot), AtW E (wM E v.2 ++ X) A s H locs → lv_has ls 6 [(0, .ref (eA E 0)), (3, .int p3), (4, .int u2), (5, .int v.1)] → W p l e rm_X10_findOrder s m a below meth c H locs 0 0 QQ (F0 m 22 ls []))) (K := (fun v : (Int32 × St) => ∀ (H : Heap) (locs : List Loc) (ls : Array Slot), AtW E (wM E v.2 ++ X) A s H locs → lv_has ls 6 [(0, .ref (eA E 0)), (3, .int p3), (4, .int u2), (5, .int v.1)] → W p l e rm_X10_findOrder s m a below meth c H locs 0 0 QQ (F0 m 99 ls []))) (fun v b2 y2 h hT2 hF2 => ?_) ho (fun H locs ls hV hl => ?_)) _ _ _ hV (lv_sub hl [1, 2, 3, 0] rfl)
        · obtain ⟨u4, σ5⟩ := v
          have h : x_X10_findOrder_L22 p3 u2 u4 σ5 = some (b2, y2) := h
          intro H locs ls hV hl
          have hV : AtW E (wM E σ5 ++ X) A s H locs := hV
          have hl : lv_has ls 6 [(0, .ref (eA E 0)), (3, .int p3), (4, .int u2), (5, .int u4)] := hl
          unfold x_X10_findOrder_L22 at h
          refine lv_iload hx hb dX10_findOrder_22 (lv_at hl 3 rfl) ?_
          refine lv_if_le (tgt := 99) hx hb dX10_findOrder_24 (by decide) (fun hc => ?_) (fun hc => ?_)
          · have h := ifp hc h
            cases h
            exact hF2 rfl _ _ _ hV (lv_sub hl [0, 1, 2, 3] rfl)
          · have h := ifn hc h
            refine lv_aload_n hx hb dX10_findOrder_27 rfl (lv_at hl 0 rfl) ?_
            refine G_X10_part cx hV mk_6_148 dX10_findOrder_28 ?_
            refine lv_iload hx hb dX10_findOrder_31 (lv_at hl 2 rfl) ?_
            refine bd_e h (fun v6 hq h => ?_)
            refine R_M0_lald cx hV hq dX10_findOrder_33 ?_
            refine lv_aload_n hx hb dX10_findOrder_34 rfl (lv_at hl 0 rfl) ?_
            refine lv_aload_n hx hb dX10_findOrder_35 rfl (lv_at hl 0 rfl) ?_
            refine G_X10_ordered cx hV mk_6_151 dX10_findOrder_36 ?_
            refine lv_iload hx hb dX10_findOrder_39 (lv_at hl 3 rfl) ?_
            refine lv_iconst (v := 1) hx hb dX10_findOrder_41 (by decide) ?_
            refine lv_isub hx hb dX10_findOrder_42 ?_
            refine bd_e h (fun v7 hq h => ?_)
            refine R_M_iald cx hV (by decide) hq dX10_findOrder_43 ?_
            refine lv_iload_n hx hb dX10_findOrder_44 rfl (lv_at hl 1 rfl) ?_
            refine bd_e h (fun v8 hq h => ?_)
            refine k_X10_seconds hq cx hV mk_8_76 ⟨Nat.le_of_ble_eq_true rfl, Nat.le_of_ble_eq_true rfl⟩ ⟨Nat.zero_le _, Nat.zero_le _⟩ hl.1 (Nat.le_of_ble_eq_true rfl) dX10_findOrder_45 (fun H locs hV => ?_)
            refine lv_i2l (v := (Int32.toInt64 v8)) hx hb dX10_findOrder_48 rfl ?_
            refine lv_lmul hx hb dX10_findOrder_49 ?_
            refine lv_aload_n hx hb dX10_findOrder_50 rfl (lv_at hl 0 rfl) ?_
            refine G_X10_part cx hV mk_6_148 dX10_findOrder_51 ?_
            refine lv_aload_n hx hb dX10_findOrder_54 rfl (lv_at hl 0 rfl) ?_
            refine G_X10_ordered cx hV mk_6_151 dX10_findOrder_55 ?_
            refine lv_iload hx hb dX10_findOrder_58 (lv_at hl 3 rfl) ?_
            refine lv_iconst (v := 1) hx hb dX10_findOrder_60 (by decide) ?_
            refine lv_isub hx hb dX10_findOrder_61 ?_
            refine bd_e h (fun v9 hq h => ?_)
            refine R_M_iald cx hV (by decide) hq dX10_findOrder_62 ?_
            refine bd_e h (fun v10 hq h => ?_)
            refine R_M0_lald cx hV hq dX10_findOrder_63 ?_
            refine lv_aload_n hx hb dX10_findOrder_64 rfl (lv_at hl 0 rfl) ?_
            refine lv_iload hx hb dX10_findOrder_65 (lv_at hl 2 rfl) ?_
            refine lv_iload_n hx hb dX10_findOrder_67 rfl (lv_at hl 1 rfl) ?_
            refine bd_e h (fun v11 hq h => ?_)
            refine k_X10_seconds hq cx hV mk_8_76 ⟨Nat.le_of_ble_eq_true rfl, Nat.le_of_ble_eq_true rfl⟩ ⟨Nat.zero_le _, Nat.zero_le _⟩ hl.1 (Nat.le_of_ble_eq_true rfl) dX10_findOrder_68 (fun H locs hV => ?_)
            refine lv_i2l (v := (Int32.toInt64 v11)) hx hb dX10_findOrder_71 rfl ?_
            refine lv_lmul hx hb dX10_findOrder_72 ?_
            refine W.lcmp hx hb dX10_findOrder_73 ?_
            refine lv_if_le (tgt := 99) hx hb dX10_findOrder_74 (by decide) (fun hc => ?_) (fun hc => ?_)
            · have h := ifp hc h
              cases h
              exact hF2 rfl _ _ _ hV (lv_sub hl [0, 1, 2, 3] rfl)
            · have h := ifn hc h
              refine lv_aload_n hx hb dX10_findOrder_77 rfl (lv_at hl 0 rfl) ?_
              refine G_X10_ordered cx hV mk_6_151 dX10_findOrder_78 ?_
              refine lv_iload hx hb dX10_findOrder_81 (lv_at hl 3 rfl) ?_
              refine lv_aload_n hx hb dX10_findOrder_83 rfl (lv_at hl 0 rfl) ?_
              refine G_X10_ordered cx hV mk_6_151 dX10_findOrder_84 ?_
              refine lv_iload hx hb dX10_findOrder_87 (lv_at hl 3 rfl) ?_
              refine lv_iconst (v := 1) hx hb dX10_findOrder_89 (by decide) ?_
              refine lv_isub hx hb dX10_findOrder_90 ?_
              refine bd_e h (fun v12 hq h => ?_)
              refine R_M_iald cx hV (by decide) hq dX10_findOrder_91 ?_
              refine bd_e h (fun σ13 hq h => ?_)
              refine R_M_iast cx hV (by decide) hq dX10_findOrder_92 (fun H locs hV => ?_)
              refine lv_iinc (v := (u4 + (-1))) (lv' := [(5, .int (u4 + (-1))), (0, .ref (eA E 0)), (3, .int p3), (4, .int u2)]) hx hb dX10_findOrder_93 hl (k := 3) rfl rfl (by decide) rfl (fun ls hl => ?_)
              refine lv_goto (tgt := 22) hx hb dX10_findOrder_96 (by decide) ?_
              cases h
              exact hT2 rfl _ _ _ hV (lv_sub hl [1, 2, 3, 0] rfl)
        · have hV : AtW E (wM E σ15 ++ X) A s H locs := hV
          have hl : lv_has ls 6 [(0, .ref (eA E 0)), (3, .int p3), (4, .int u2), (5, .int z14)] := hl
          refine lv_aload_n hx hb dX10_findOrder_99 rfl (lv_at hl 0 rfl) ?_
          refine G_X10_ordered cx hV mk_6_151 dX10_findOrder_100 ?_
          refine lv_iload hx hb dX10_findOrder_103 (lv_at hl 3 rfl) ?_
          refine lv_iload hx hb dX10_findOrder_105 (lv_at hl 2 rfl) ?_
          refine bd_e h (fun σ16 hq h => ?_)
          refine R_M_iast cx hV (by decide) hq dX10_findOrder_107 (fun H locs hV => ?_)
          refine lv_iinc (v := (u2 + 1)) (lv' := [(4, .int (u2 + 1)), (0, .ref (eA E 0)), (3, .int p3), (5, .int z14)]) hx hb dX10_findOrder_108 hl (k := 2) rfl rfl (by decide) rfl (fun ls hl => ?_)
          refine lv_goto (tgt := 9) hx hb dX10_findOrder_111 (by decide) ?_
          cases h
          exact hT1 rfl _ _ _ hV (lv_sub hl [1, 2, 0] rfl)
    · have hV : AtW E (wM E σ18 ++ X) A s H locs := hV
      have hl : lv_has ls 6 [] := hl
      have h1 := Option.some.inj h
      subst h1
      subst hQ
      exact r_vret cx hr hlk hV dX10_findOrder_114
  rw [hH, hlocs] at goal
  exact goal
theorem k_X10_findOrder {p : Program} {l : Launch} {e : Env} {R : Room} {s : State} {m : MethodId} {a : Array Value} {below : List Frame} {meth : Method} {c : Code} {H : Heap} {locs : List Loc} {cells slots : Nat} {Q : State → Prop} {cc : ByteArray} {own : String} {nL pc : Nat} {ls : Array Slot} {rest : List Value} {A : Nat → Prop} {E : EV} {X : va_W} {σ : St} {p1 : Int32} {p2 : Int32} {p3 : Int32} {σf : St} (h : x_X10_findOrder p1 p2 p3 σ = some σf) (cx : CallFix p m c cc nL s a TBL own) (hV : AtW E (wM E σ ++ X) A s H locs) {idx : Nat} (w1 : Cond.methodLink own idx yX10_findOrder ∈ TBL) (hR : (rm_X10_findOrder).frames + 1 ≤ R.frames ∧ 8 + (6 + 11) + (rm_X10_findOrder).locals ≤ R.locals) (hcs : cells ≤ R.cells ∧ slots ≤ R.slots) (hls : ls.size = nL) (hcat : (rest.map fun v => v.category).sum ≤ 8) (d : decode cc pc = .ok (.invokevirtual idx, 3)) (kk : ∀ (H1 : Heap) (locs1 : List Loc), AtW E (wM E σf ++ X) A s H1 locs1 → W p l e R s m a below meth c H1 locs1 cells slots Q (F0 m (pc + 3) ls (rest))) : W p l e R s m a below meth c H locs cells slots Q (F0 m pc ls (.int p3 :: .int p2 :: .int p1 :: .ref (eA E 0) :: rest)) :=
  r_callv (n := 3) (As := [.int p1, .int p2, .int p3]) (q0 := 0) (ci := 10) (qq := (RX10, TX10, 64)) (c_X10_findOrder h) wM_fst rfl rfl mk_8_74 mk_P_100 mk_1_11 mk_8_75 (by decide +kernel) rfl ⟨rfl, rfl⟩ cx hV w1 hR hcs hls rfl hcat d kk
def x_X10_order_b63 (w1 : Int32) (w2 : Int32) (w3 : Int32) (w4 : Int32) (w5 : Int32) (σ6 : St) : Option (Int32 × St) :=
  bd2 (x_X10_may w5 3 3 σ6) fun v7 σ8 =>
  (if v7 = 0 then
  some (0, σ8)
  else
  bd (x_X10_findOrder w1 w2 w3 σ8) fun σ9 =>
  bd (x_X10_within w4 0 ((gI σ9 8) - 1)) fun v10 =>
  (if v10 = 0 then
  some ((-1), σ9)
  else
  bd (ldI (gA σ9 31) (lenM 31) w4) fun v11 =>
  some (v11, σ9)))
def x_X10_order_b39 (w12 : Int32) (w13 : Int32) (w14 : Int32) (w15 : Int32) (w16 : Int32) (σ17 : St) : Option (Int32 × St) :=
  bd2 (x_X10_may w16 2 2 σ17) fun v18 σ19 =>
  (if v18 = 0 then
  some (0, σ19)
  else
  bd (ldI (gA σ19 7) (lenM 7) w12) fun v20 =>
  (if v20 = (-1) then
  x_X10_order_b63 w12 w13 w14 w15 0 σ19
  else
  x_X10_order_b63 w12 w13 w14 w15 1 σ19))
def x_X10_order_b38 (w21 : Int32) (w22 : Int32) (w23 : Int32) (w24 : Int32) (σ25 : St) : Option (Int32 × St) :=
  x_X10_order_b39 w21 w22 w23 w24 0 σ25
def x_X10_order (p1 : Int32) (p2 : Int32) (p3 : Int32) (p4 : Int32) (σ : St) : Option (Int32 × St) :=
  bd (some (sI σ 0 0)) fun σ26 =>
  bd2 (x_X10_isSleeve p1 1 σ26) fun v27 σ28 =>
  (if v27 = 0 then
  some (0, σ28)
  else
  bd (x_X10_within p2 0 4) fun v29 =>
  (if v29 = 0 then
  x_X10_order_b38 p1 p2 p3 p4 σ28
  else
  bd (x_X10_within p3 1 8) fun v30 =>
  (if v30 = 0 then
  x_X10_order_b38 p1 p2 p3 p4 σ28
  else
  x_X10_order_b39 p1 p2 p3 p4 1 σ28)))
abbrev rm_X10_order : Room := { frames := 4, cells := 0, slots := 0, locals := 98 }
set_option maxHeartbeats 4000000 in
set_option maxRecDepth 100000 in
theorem c_X10_order {l : Launch} {E : EV} {X : va_W} {σ : St} {p1 : Int32} {p2 : Int32} {p3 : Int32} {p4 : Int32} {rv : Int32} {σf : St} (h : x_X10_order p1 p2 p3 p4 σ = some (rv, σf)) : CM l yX10_order cX10_order 5 (some .int) rm_X10_order [.ref (eA E 0), .int p1, .int p2, .int p3, .int p4] E (wM E σ ++ X) (wM E σf ++ X) (qI rv) := by
  refine CM.start (by decide) (Nat.le_of_ble_eq_true rfl) (fun p e s m a below meth c A ls cx hr hlk hV hl => ?_)
  have cx : CallFix p m c cX10_order 5 s a TBL RX10 := cx
  have hx := cx.1
  have hb := cx.2.1
  have hl : lv_has ls 5 [(0, .ref (eA E 0)), (1, .int p1), (2, .int p2), (3, .int p3), (4, .int p4)] := hl
  generalize hQ : EQ E (wM E σf ++ X) (qI rv) A s a below = QQ
  obtain ⟨H, hH⟩ : ∃ H, H = s.heap := ⟨_, rfl⟩
  obtain ⟨locs, hlocs⟩ : ∃ z, z = ([] : List Loc) := ⟨_, rfl⟩
  have hV : AtW E (wM E σ ++ X) A s H locs := by rw [hH, hlocs]; exact hV
  have goal : W p l e rm_X10_order s m a below meth c H locs 0 0 QQ (F0 m 0 ls []) := by
    unfold x_X10_order at h
    have hj63 : ∀ (w1 : Int32) (w2 : Int32) (w3 : Int32) (w4 : Int32) (w5 : Int32) (σ6 : St) (H : Heap) (locs : List Loc) (ls : Array Slot), x_X10_order_b63 w1 w2 w3 w4 w5 σ6 = some (rv, σf) → AtW E (wM E σ6 ++ X) A s H locs → lv_has ls 5 [(0, .ref (eA E 0)), (1, .int w1), (2, .int w2), (3, .int w3), (4, .int w4)] → W p l e rm_X10_order s m a below meth c H locs 0 0 QQ (F0 m 63 ls [.int w5, .ref (eA E 0)]) := by
      intro w1 w2 w3 w4 w5 σ6 H locs ls h hV hl
      unfold x_X10_order_b63 at h
      refine lv_iconst (v := 3) hx hb dX10_order_63 (by decide) ?_
      refine lv_iconst (v := 3) hx hb dX10_order_64 (by decide) ?_
      refine bd2_e h (fun v7 σ8 hq h => ?_)
      refine k_X10_may hq cx hV mk_7_62 ⟨Nat.le_of_ble_eq_true rfl, Nat.le_of_ble_eq_true rfl⟩ ⟨Nat.zero_le _, Nat.zero_le _⟩ hl.1 (Nat.le_of_ble_eq_true rfl) dX10_order_65 (fun H locs hV => ?_)
      refine lv_if_ne (tgt := 73) hx hb dX10_order_68 (by decide) (fun hc => ?_) (fun hc => ?_)
      · have h := ifn hc h
        refine lv_aload_n hx hb dX10_order_73 rfl (lv_at hl 0 rfl) ?_
        refine lv_iload_n hx hb dX10_order_74 rfl (lv_at hl 1 rfl) ?_
        refine lv_iload_n hx hb dX10_order_75 rfl (lv_at hl 2 rfl) ?_
        refine lv_iload_n hx hb dX10_order_76 rfl (lv_at hl 3 rfl) ?_
        refine bd_e h (fun σ9 hq h => ?_)
        refine k_X10_findOrder hq cx hV mk_8_72 ⟨Nat.le_of_ble_eq_true rfl, Nat.le_of_ble_eq_true rfl⟩ ⟨Nat.zero_le _, Nat.zero_le _⟩ hl.1 (Nat.le_of_ble_eq_true rfl) dX10_order_77 (fun H locs hV => ?_)
        refine lv_iload hx hb dX10_order_80 (lv_at hl 4 rfl) ?_
        refine lv_iconst (v := 0) hx hb dX10_order_82 (by decide) ?_
        refine lv_aload_n hx hb dX10_order_83 rfl (lv_at hl 0 rfl) ?_
        refine G_X10_crates cx hV mk_6_121 dX10_order_84 ?_
        refine lv_iconst (v := 1) hx hb dX10_order_87 (by decide) ?_
        refine lv_isub hx hb dX10_order_88 ?_
        refine bd_e h (fun v10 hq h => ?_)
        refine k_X10_within hq cx hV mk_7_141 ⟨Nat.le_of_ble_eq_true rfl, Nat.le_of_ble_eq_true rfl⟩ ⟨Nat.zero_le _, Nat.zero_le _⟩ hl.1 (Nat.le_of_ble_eq_true rfl) dX10_order_89 (fun H locs hV => ?_)
        refine lv_if_eq (tgt := 105) hx hb dX10_order_92 (by decide) (fun hc => ?_) (fun hc => ?_)
        · have h := ifp hc h
          refine lv_iconst (v := (-1)) hx hb dX10_order_105 (by decide) ?_
          obtain ⟨h1, h2⟩ := Prod.mk.inj (Option.some.inj h)
          subst h1
          subst h2
          subst hQ
          exact r_ireti cx hr hlk hV dX10_order_106
        · have h := ifn hc h
          refine lv_aload_n hx hb dX10_order_95 rfl (lv_at hl 0 rfl) ?_
          refine G_X10_ordered cx hV mk_6_151 dX10_order_96 ?_
          refine lv_iload hx hb dX10_order_99 (lv_at hl 4 rfl) ?_
          refine bd_e h (fun v11 hq h => ?_)
          refine R_M_iald cx hV (by decide) hq dX10_order_101 ?_
          refine lv_goto (tgt := 106) hx hb dX10_order_102 (by decide) ?_
          obtain ⟨h1, h2⟩ := Prod.mk.inj (Option.some.inj h)
          subst h1
          subst h2
          subst hQ
          exact r_ireti cx hr hlk hV dX10_order_106
      · have h := ifp hc h
        refine lv_iconst (v := 0) hx hb dX10_order_71 (by decide) ?_
        obtain ⟨h1, h2⟩ := Prod.mk.inj (Option.some.inj h)
        subst h1
        subst h2
        subst hQ
        exact r_ireti cx hr hlk hV dX10_order_72
    have hj39 : ∀ (w12 : Int32) (w13 : Int32) (w14 : Int32) (w15 : Int32) (w16 : Int32) (σ17 : St) (H : Heap) (locs : List Loc) (ls : Array Slot), x_X10_order_b39 w12 w13 w14 w15 w16 σ17 = some (rv, σf) → AtW E (wM E σ17 ++ X) A s H locs → lv_has ls 5 [(0, .ref (eA E 0)), (1, .int w12), (2, .int w13), (3, .int w14), (4, .int w15)] → W p l e rm_X10_order s m a below meth c H locs 0 0 QQ (F0 m 39 ls [.int w16, .ref (eA E 0)]) := by
      intro w12 w13 w14 w15 w16 σ17 H locs ls h hV hl
      unfold x_X10_order_b39 at h
      refine lv_iconst (v := 2) hx hb dX10_order_39 (by decide) ?_
      refine lv_iconst (v := 2) hx hb dX10_order_40 (by decide) ?_
      refine bd2_e h (fun v18 σ19 hq h => ?_)
      refine k_X10_may hq cx hV mk_7_62 ⟨Nat.le_of_ble_eq_true rfl, Nat.le_of_ble_eq_true rfl⟩ ⟨Nat.zero_le _, Nat.zero_le _⟩ hl.1 (Nat.le_of_ble_eq_true rfl) dX10_order_41 (fun H locs hV => ?_)
      refine lv_if_eq (tgt := 71) hx hb dX10_order_44 (by decide) (fun hc => ?_) (fun hc => ?_)
      · have h := ifp hc h
        refine lv_iconst (v := 0) hx hb dX10_order_71 (by decide) ?_
        obtain ⟨h1, h2⟩ := Prod.mk.inj (Option.some.inj h)
        subst h1
        subst h2
        subst hQ
        exact r_ireti cx hr hlk hV dX10_order_72
      · have h := ifn hc h
        refine lv_aload_n hx hb dX10_order_47 rfl (lv_at hl 0 rfl) ?_
        refine lv_aload_n hx hb dX10_order_48 rfl (lv_at hl 0 rfl) ?_
        refine G_X10_liesAt cx hV mk_6_112 dX10_order_49 ?_
        refine lv_iload_n hx hb dX10_order_52 rfl (lv_at hl 1 rfl) ?_
        refine bd_e h (fun v20 hq h => ?_)
        refine R_M_iald cx hV (by decide) hq dX10_order_53 ?_
        refine lv_iconst (v := (-1)) hx hb dX10_order_54 (by decide) ?_
        refine lv_icmp_eq (tgt := 62) hx hb dX10_order_55 (by decide) (fun hc => ?_) (fun hc => ?_)
        · have h := ifp hc h
          refine lv_iconst (v := 0) hx hb dX10_order_62 (by decide) ?_
          exact hj63 w12 w13 w14 w15 0 σ19 _ _ _ h hV (lv_sub hl [0, 1, 2, 3, 4] rfl)
        · have h := ifn hc h
          refine lv_iconst (v := 1) hx hb dX10_order_58 (by decide) ?_
          refine lv_goto (tgt := 63) hx hb dX10_order_59 (by decide) ?_
          exact hj63 w12 w13 w14 w15 1 σ19 _ _ _ h hV (lv_sub hl [0, 1, 2, 3, 4] rfl)
    have hj38 : ∀ (w21 : Int32) (w22 : Int32) (w23 : Int32) (w24 : Int32) (σ25 : St) (H : Heap) (locs : List Loc) (ls : Array Slot), x_X10_order_b38 w21 w22 w23 w24 σ25 = some (rv, σf) → AtW E (wM E σ25 ++ X) A s H locs → lv_has ls 5 [(0, .ref (eA E 0)), (1, .int w21), (2, .int w22), (3, .int w23), (4, .int w24)] → W p l e rm_X10_order s m a below meth c H locs 0 0 QQ (F0 m 38 ls [.ref (eA E 0)]) := by
      intro w21 w22 w23 w24 σ25 H locs ls h hV hl
      unfold x_X10_order_b38 at h
      refine lv_iconst (v := 0) hx hb dX10_order_38 (by decide) ?_
      exact hj39 w21 w22 w23 w24 0 σ25 _ _ _ h hV (lv_sub hl [0, 1, 2, 3, 4] rfl)
    refine lv_aload_n hx hb dX10_order_0 rfl (lv_at hl 0 rfl) ?_
    refine lv_iconst (v := 0) hx hb dX10_order_1 (by decide) ?_
    refine bd_e h (fun σ26 hq h => ?_)
    refine P_X10_thrown cx hV hq mk_6_97 dX10_order_2 (fun H locs hV => ?_)
    refine lv_aload_n hx hb dX10_order_5 rfl (lv_at hl 0 rfl) ?_
    refine lv_iload_n hx hb dX10_order_6 rfl (lv_at hl 1 rfl) ?_
    refine lv_iconst (v := 1) hx hb dX10_order_7 (by decide) ?_
    refine bd2_e h (fun v27 σ28 hq h => ?_)
    refine k_X10_isSleeve hq cx hV mk_7_160 ⟨Nat.le_of_ble_eq_true rfl, Nat.le_of_ble_eq_true rfl⟩ ⟨Nat.zero_le _, Nat.zero_le _⟩ hl.1 (Nat.le_of_ble_eq_true rfl) dX10_order_8 (fun H locs hV => ?_)
    refine lv_if_eq (tgt := 71) hx hb dX10_order_11 (by decide) (fun hc => ?_) (fun hc => ?_)
    · have h := ifp hc h
      refine lv_iconst (v := 0) hx hb dX10_order_71 (by decide) ?_
      obtain ⟨h1, h2⟩ := Prod.mk.inj (Option.some.inj h)
      subst h1
      subst h2
      subst hQ
      exact r_ireti cx hr hlk hV dX10_order_72
    · have h := ifn hc h
      refine lv_aload_n hx hb dX10_order_14 rfl (lv_at hl 0 rfl) ?_
      refine lv_iload_n hx hb dX10_order_15 rfl (lv_at hl 2 rfl) ?_
      refine lv_iconst (v := 0) hx hb dX10_order_16 (by decide) ?_
      refine lv_iconst (v := 4) hx hb dX10_order_17 (by decide) ?_
      refine bd_e h (fun v29 hq h => ?_)
      refine k_X10_within hq cx hV mk_7_141 ⟨Nat.le_of_ble_eq_true rfl, Nat.le_of_ble_eq_true rfl⟩ ⟨Nat.zero_le _, Nat.zero_le _⟩ hl.1 (Nat.le_of_ble_eq_true rfl) dX10_order_18 (fun H locs hV => ?_)
      refine lv_if_eq (tgt := 38) hx hb dX10_order_21 (by decide) (fun hc => ?_) (fun hc => ?_)
      · have h := ifp hc h
        exact hj38 p1 p2 p3 p4 σ28 _ _ _ h hV (lv_sub hl [0, 1, 2, 3, 4] rfl)
      · have h := ifn hc h
        refine lv_iload_n hx hb dX10_order_24 rfl (lv_at hl 3 rfl) ?_
        refine lv_iconst (v := 1) hx hb dX10_order_25 (by decide) ?_
        refine lv_bipush (v := 8) hx hb dX10_order_26 (by decide) ?_
        refine bd_e h (fun v30 hq h => ?_)
        refine k_X10_within hq cx hV mk_7_141 ⟨Nat.le_of_ble_eq_true rfl, Nat.le_of_ble_eq_true rfl⟩ ⟨Nat.zero_le _, Nat.zero_le _⟩ hl.1 (Nat.le_of_ble_eq_true rfl) dX10_order_28 (fun H locs hV => ?_)
        refine lv_if_eq (tgt := 38) hx hb dX10_order_31 (by decide) (fun hc => ?_) (fun hc => ?_)
        · have h := ifp hc h
          exact hj38 p1 p2 p3 p4 σ28 _ _ _ h hV (lv_sub hl [0, 1, 2, 3, 4] rfl)
        · have h := ifn hc h
          refine lv_iconst (v := 1) hx hb dX10_order_34 (by decide) ?_
          refine lv_goto (tgt := 39) hx hb dX10_order_35 (by decide) ?_
          exact hj39 p1 p2 p3 p4 1 σ28 _ _ _ h hV (lv_sub hl [0, 1, 2, 3, 4] rfl)
  rw [hH, hlocs] at goal
  exact goal
theorem k_X10_order {p : Program} {l : Launch} {e : Env} {R : Room} {s : State} {m : MethodId} {a : Array Value} {below : List Frame} {meth : Method} {c : Code} {H : Heap} {locs : List Loc} {cells slots : Nat} {Q : State → Prop} {cc : ByteArray} {own : String} {nL pc : Nat} {ls : Array Slot} {rest : List Value} {A : Nat → Prop} {E : EV} {X : va_W} {σ : St} {p1 : Int32} {p2 : Int32} {p3 : Int32} {p4 : Int32} {rv : Int32} {σf : St} (h : x_X10_order p1 p2 p3 p4 σ = some (rv, σf)) (cx : CallFix p m c cc nL s a TBL own) (hV : AtW E (wM E σ ++ X) A s H locs) {idx : Nat} (w1 : Cond.methodLink own idx yX10_order ∈ TBL) (hR : (rm_X10_order).frames + 1 ≤ R.frames ∧ 8 + (5 + 11) + (rm_X10_order).locals ≤ R.locals) (hcs : cells ≤ R.cells ∧ slots ≤ R.slots) (hls : ls.size = nL) (hcat : (rest.map fun v => v.category).sum ≤ 8) (d : decode cc pc = .ok (.invokevirtual idx, 3)) (kk : ∀ (H1 : Heap) (locs1 : List Loc), AtW E (wM E σf ++ X) A s H1 locs1 → W p l e R s m a below meth c H1 locs1 cells slots Q (F0 m (pc + 3) ls (.int rv :: rest))) : W p l e R s m a below meth c H locs cells slots Q (F0 m pc ls (.int p4 :: .int p3 :: .int p2 :: .int p1 :: .ref (eA E 0) :: rest)) :=
  r_calli (n := 4) (As := [.int p1, .int p2, .int p3, .int p4]) (q0 := 0) (ci := 10) (qq := (RX10, TX10, 64)) (c_X10_order h) wM_fst rfl rfl mk_8_69 mk_8_70 mk_1_11 mk_8_71 (by decide +kernel) rfl ⟨rfl, rfl⟩ cx hV w1 hR hcs hls rfl hcat d kk
def x_X10_mean_L99 (w3 : Int32) (w4 : Int32) (σ9 : St) (u10 : Int64) (u11 : Int32) (u12 : Int32) : Option (Bool × (Int64 × Int32 × Int32)) :=
  (if (gI σ9 8) ≤ u12 then
  some (false, (u10, u11, u12))
  else
  bd (ldI (gA σ9 31) (lenM 31) u12) fun v13 =>
  bd (x_X10_seconds v13 w3 σ9) fun v14 =>
  bd (ldI (gA σ9 31) (lenM 31) u12) fun v15 =>
  bd (ldJ (gJ σ9 0) 8 v15) fun v16 =>
  some (true, ((u10 + (v16 * (Int32.toInt64 (u11 + v14)))), (u11 + v14), (u12 + 1))))
def x_X10_mean_b73 (w1 : Int32) (w2 : Int32) (w3 : Int32) (w4 : Int32) (w5 : Int32) (σ6 : St) : Option (Int64 × St) :=
  bd2 (x_X10_may w5 3 3 σ6) fun v7 σ8 =>
  (if v7 = 0 then
  some ((0 : Int64), σ8)
  else
  bd (x_X10_findOrder w1 w2 w3 σ8) fun σ9 =>
  bd3 (lp (fun v : (Int64 × Int32 × Int32) => x_X10_mean_L99 w3 w4 σ9 v.1 v.2.1 v.2.2) FU ((0 : Int64), 0, 0)) fun z17 z18 z19 =>
  bd (x_X10_fraction z17 (gL σ9 0) w4) fun v20 =>
  some (v20, σ9))
def x_X10_mean_b49 (w21 : Int32) (w22 : Int32) (w23 : Int32) (w24 : Int32) (w25 : Int32) (σ26 : St) : Option (Int64 × St) :=
  bd2 (x_X10_may w25 2 2 σ26) fun v27 σ28 =>
  (if v27 = 0 then
  some ((0 : Int64), σ28)
  else
  bd (ldI (gA σ28 7) (lenM 7) w21) fun v29 =>
  (if v29 = (-1) then
  x_X10_mean_b73 w21 w22 w23 w24 0 σ28
  else
  x_X10_mean_b73 w21 w22 w23 w24 1 σ28))
def x_X10_mean_b48 (w30 : Int32) (w31 : Int32) (w32 : Int32) (w33 : Int32) (σ34 : St) : Option (Int64 × St) :=
  x_X10_mean_b49 w30 w31 w32 w33 0 σ34
def x_X10_mean (p1 : Int32) (p2 : Int32) (p3 : Int32) (p4 : Int32) (σ : St) : Option (Int64 × St) :=
  bd (some (sI σ 0 0)) fun σ35 =>
  bd2 (x_X10_isSleeve p1 1 σ35) fun v36 σ37 =>
  (if v36 = 0 then
  some ((0 : Int64), σ37)
  else
  bd (x_X10_within p2 0 4) fun v38 =>
  (if v38 = 0 then
  x_X10_mean_b48 p1 p2 p3 p4 σ37
  else
  bd (x_X10_within p3 1 8) fun v39 =>
  (if v39 = 0 then
  x_X10_mean_b48 p1 p2 p3 p4 σ37
  else
  bd (x_X10_within p4 0 1) fun v40 =>
  (if v40 = 0 then
  x_X10_mean_b48 p1 p2 p3 p4 σ37
  else
  x_X10_mean_b49 p1 p2 p3 p4 1 σ37))))
abbrev rm_X10_mean : Room := { frames := 4, cells := 0, slots := 0, locals := 98 }
set_option maxHeartbeats 4000000 in
set_option maxRecDepth 100000 in
theorem c_X10_mean {l : Launch} {E : EV} {X : va_W} {σ : St} {p1 : Int32} {p2 : Int32} {p3 : Int32} {p4 : Int32} {rv : Int64} {σf : St} (h : x_X10_mean p1 p2 p3 p4 σ = some (rv, σf)) : CM l yX10_mean cX10_mean 9 (some .long) rm_X10_mean [.ref (eA E 0), .int p1, .int p2, .int p3, .int p4] E (wM E σ ++ X) (wM E σf ++ X) (qL rv) := by
  refine CM.start (by decide) (Nat.le_of_ble_eq_true rfl) (fun p e s m a below meth c A ls cx hr hlk hV hl => ?_)
  have cx : CallFix p m c cX10_mean 9 s a TBL RX10 := cx
  have hx := cx.1
  have hb := cx.2.1
  have hl : lv_has ls 9 [(0, .ref (eA E 0)), (1, .int p1), (2, .int p2), (3, .int p3), (4, .int p4)] := hl
  generalize hQ : EQ E (wM E σf ++ X) (qL rv) A s a below = QQ
  obtain ⟨H, hH⟩ : ∃ H, H = s.heap := ⟨_, rfl⟩
  obtain ⟨locs, hlocs⟩ : ∃ z, z = ([] : List Loc) := ⟨_, rfl⟩
  have hV : AtW E (wM E σ ++ X) A s H locs := by rw [hH, hlocs]; exact hV
  have goal : W p l e rm_X10_mean s m a below meth c H locs 0 0 QQ (F0 m 0 ls []) := by
    unfold x_X10_mean at h
    have hj73 : ∀ (w1 : Int32) (w2 : Int32) (w3 : Int32) (w4 : Int32) (w5 : Int32) (σ6 : St) (H : Heap) (locs : List Loc) (ls : Array Slot), x_X10_mean_b73 w1 w2 w3 w4 w5 σ6 = some (rv, σf) → AtW E (wM E σ6 ++ X) A s H locs → lv_has ls 9 [(0, .ref (eA E 0)), (1, .int w1), (2, .int w2), (3, .int w3), (4, .int w4)] → W p l e rm_X10_mean s m a below meth c H locs 0 0 QQ (F0 m 73 ls [.int w5, .ref (eA E 0)]) := by
      intro w1 w2 w3 w4 w5 σ6 H locs ls h hV hl
      unfold x_X10_mean_b73 at h
      refine lv_iconst (v := 3) hx hb dX10_mean_73 (by decide) ?_
      refine lv_iconst (v := 3) hx hb dX10_mean_74 (by decide) ?_
      refine bd2_e h (fun v7 σ8 hq h => ?_)
      refine k_X10_may hq cx hV mk_7_62 ⟨Nat.le_of_ble_eq_true rfl, Nat.le_of_ble_eq_true rfl⟩ ⟨Nat.zero_le _, Nat.zero_le _⟩ hl.1 (Nat.le_of_ble_eq_true rfl) dX10_mean_75 (fun H locs hV => ?_)
      refine lv_if_ne (tgt := 83) hx hb dX10_mean_78 (by decide) (fun hc => ?_) (fun hc => ?_)
      · have h := ifn hc h
        refine lv_aload_n hx hb dX10_mean_83 rfl (lv_at hl 0 rfl) ?_
        refine lv_iload_n hx hb dX10_mean_84 rfl (lv_at hl 1 rfl) ?_
        refine lv_iload_n hx hb dX10_mean_85 rfl (lv_at hl 2 rfl) ?_
        refine lv_iload_n hx hb dX10_mean_86 rfl (lv_at hl 3 rfl) ?_
        refine bd_e h (fun σ9 hq h => ?_)
        refine k_X10_findOrder hq cx hV mk_8_72 ⟨Nat.le_of_ble_eq_true rfl, Nat.le_of_ble_eq_true rfl⟩ ⟨Nat.zero_le _, Nat.zero_le _⟩ hl.1 (Nat.le_of_ble_eq_true rfl) dX10_mean_87 (fun H locs hV => ?_)
        refine lv_lconst (v := 0) hx hb dX10_mean_90 (by decide) ?_
        refine lv_lstore (lv' := [(5, .long (0 : Int64)), (0, .ref (eA E 0)), (1, .int w1), (2, .int w2), (3, .int w3), (4, .int w4)]) hx hb dX10_mean_91 hl (by decide) rfl (fun ls hl => ?_)
        refine lv_iconst (v := 0) hx hb dX10_mean_93 (by decide) ?_
        refine lv_istore (lv' := [(7, .int 0), (5, .long (0 : Int64)), (0, .ref (eA E 0)), (1, .int w1), (2, .int w2), (3, .int w3), (4, .int w4)]) hx hb dX10_mean_94 hl (by decide) rfl (fun ls hl => ?_)
        refine lv_iconst (v := 0) hx hb dX10_mean_96 (by decide) ?_
        refine lv_istore (lv' := [(8, .int 0), (7, .int 0), (5, .long (0 : Int64)), (0, .ref (eA E 0)), (1, .int w1), (2, .int w2), (3, .int w3), (4, .int w4)]) hx hb dX10_mean_97 hl (by decide) rfl (fun ls hl => ?_)
        refine bd3_e h (fun z17 z18 z19 ho h => ?_)
        refine (lp_rule (G := (fun v : (Int64 × Int32 × Int32) => ∀ (H : Heap) (locs : List Loc) (ls : Array Slot), AtW E (wM E σ9 ++ X) A s H locs → lv_has ls 9 [(0, .ref (eA E 0)), (3, .int w3), (4, .int w4), (5, .long v.1), (7, .int v.2.1), (8, .int v.2.2)] → W p l e rm_X10_mean s m a below meth c H locs 0 0 QQ (F0 m 99 ls []))) (K := (fun v : (Int64 × Int32 × Int32) => ∀ (H : Heap) (locs : List Loc) (ls : Array Slot), AtW E (wM E σ9 ++ X) A s H locs → lv_has ls 9 [(0, .ref (eA E 0)), (4, .int w4), (5, .long v.1)] → W p l e rm_X10_mean s m a below meth c H locs 0 0 QQ (F0 m 152 ls []))) (fun v b1 y1 h hT1 hF1 => ?_) ho (fun H locs ls hV hl => ?_)) _ _ _ hV (lv_sub hl [3, 6, 7, 2, 1, 0] rfl)
        · obtain ⟨u10, u11, u12⟩ := v
          have h : x_X10_mean_L99 w3 w4 σ9 u10 u11 u12 = some (b1, y1) := h
          intro H locs ls hV hl
          have hV : AtW E (wM E σ9 ++ X) A s H locs := hV
          have hl : lv_has ls 9 [(0, .ref (eA E 0)), (3, .int w3), (4, .int w4), (5, .long u10), (7, .int u11), (8, .int u12)] := hl
          unfold x_X10_mean_L99 at h
          refine lv_iload hx hb dX10_mean_99 (lv_at hl 5 rfl) ?_
          refine lv_aload_n hx hb dX10_mean_101 rfl (lv_at hl 0 rfl) ?_
          refine G_X10_crates cx hV mk_6_121 dX10_mean_102 ?_
          refine lv_icmp_ge (tgt := 152) hx hb dX10_mean_105 (by decide) (fun hc => ?_) (fun hc => ?_)
          · have h := ifp hc h
            cases h
            exact hF1 rfl _ _ _ hV (lv_sub hl [0, 2, 3] rfl)
          · have h := ifn hc h
            refine lv_iload hx hb dX10_mean_108 (lv_at hl 4 rfl) ?_
            refine lv_aload_n hx hb dX10_mean_110 rfl (lv_at hl 0 rfl) ?_
            refine lv_aload_n hx hb dX10_mean_111 rfl (lv_at hl 0 rfl) ?_
            refine G_X10_ordered cx hV mk_6_151 dX10_mean_112 ?_
            refine lv_iload hx hb dX10_mean_115 (lv_at hl 5 rfl) ?_
            refine bd_e h (fun v13 hq h => ?_)
            refine R_M_iald cx hV (by decide) hq dX10_mean_117 ?_
            refine lv_iload_n hx hb dX10_mean_118 rfl (lv_at hl 1 rfl) ?_
            refine bd_e h (fun v14 hq h => ?_)
            refine k_X10_seconds hq cx hV mk_8_76 ⟨Nat.le_of_ble_eq_true rfl, Nat.le_of_ble_eq_true rfl⟩ ⟨Nat.zero_le _, Nat.zero_le _⟩ hl.1 (Nat.le_of_ble_eq_true rfl) dX10_mean_119 (fun H locs hV => ?_)
            refine lv_iadd hx hb dX10_mean_122 ?_
            refine lv_istore (lv' := [(7, .int (u11 + v14)), (0, .ref (eA E 0)), (3, .int w3), (4, .int w4), (5, .long u10), (8, .int u12)]) hx hb dX10_mean_123 hl (by decide) rfl (fun ls hl => ?_)
            refine lv_lload hx hb dX10_mean_125 (lv_at hl 4 rfl) ?_
            refine lv_aload_n hx hb dX10_mean_127 rfl (lv_at hl 1 rfl) ?_
            refine G_X10_part cx hV mk_6_148 dX10_mean_128 ?_
            refine lv_aload_n hx hb dX10_mean_131 rfl (lv_at hl 1 rfl) ?_
            refine G_X10_ordered cx hV mk_6_151 dX10_mean_132 ?_
            refine lv_iload hx hb dX10_mean_135 (lv_at hl 5 rfl) ?_
            refine bd_e h (fun v15 hq h => ?_)
            refine R_M_iald cx hV (by decide) hq dX10_mean_137 ?_
            refine bd_e h (fun v16 hq h => ?_)
            refine R_M0_lald cx hV hq dX10_mean_138 ?_
            refine lv_iload hx hb dX10_mean_139 (lv_at hl 0 rfl) ?_
            refine lv_i2l (v := (Int32.toInt64 (u11 + v14))) hx hb dX10_mean_141 rfl ?_
            refine lv_lmul hx hb dX10_mean_142 ?_
            refine lv_ladd hx hb dX10_mean_143 ?_
            refine lv_lstore (lv' := [(5, .long (u10 + (v16 * (Int32.toInt64 (u11 + v14))))), (7, .int (u11 + v14)), (0, .ref (eA E 0)), (3, .int w3), (4, .int w4), (8, .int u12)]) hx hb dX10_mean_144 hl (by decide) rfl (fun ls hl => ?_)
            refine lv_iinc (v := (u12 + 1)) (lv' := [(8, .int (u12 + 1)), (5, .long (u10 + (v16 * (Int32.toInt64 (u11 + v14))))), (7, .int (u11 + v14)), (0, .ref (eA E 0)), (3, .int w3), (4, .int w4)]) hx hb dX10_mean_146 hl (k := 5) rfl rfl (by decide) rfl (fun ls hl => ?_)
            refine lv_goto (tgt := 99) hx hb dX10_mean_149 (by decide) ?_
            cases h
            exact hT1 rfl _ _ _ hV (lv_sub hl [3, 4, 5, 1, 2, 0] rfl)
        · have hV : AtW E (wM E σ9 ++ X) A s H locs := hV
          have hl : lv_has ls 9 [(0, .ref (eA E 0)), (4, .int w4), (5, .long z17)] := hl
          refine lv_lload hx hb dX10_mean_152 (lv_at hl 2 rfl) ?_
          refine lv_aload_n hx hb dX10_mean_154 rfl (lv_at hl 0 rfl) ?_
          refine G_X10_allParts cx hV mk_6_150 dX10_mean_155 ?_
          refine lv_iload hx hb dX10_mean_158 (lv_at hl 1 rfl) ?_
          refine bd_e h (fun v20 hq h => ?_)
          refine k_X10_fraction hq cx hV mk_8_54 ⟨Nat.le_of_ble_eq_true rfl, Nat.le_of_ble_eq_true rfl⟩ ⟨Nat.zero_le _, Nat.zero_le _⟩ hl.1 (Nat.le_of_ble_eq_true rfl) dX10_mean_160 (fun H locs hV => ?_)
          obtain ⟨h1, h2⟩ := Prod.mk.inj (Option.some.inj h)
          subst h1
          subst h2
          subst hQ
          exact r_lret cx hr hlk hV dX10_mean_163
      · have h := ifp hc h
        refine lv_lconst (v := 0) hx hb dX10_mean_81 (by decide) ?_
        obtain ⟨h1, h2⟩ := Prod.mk.inj (Option.some.inj h)
        subst h1
        subst h2
        subst hQ
        exact r_lret cx hr hlk hV dX10_mean_82
    have hj49 : ∀ (w21 : Int32) (w22 : Int32) (w23 : Int32) (w24 : Int32) (w25 : Int32) (σ26 : St) (H : Heap) (locs : List Loc) (ls : Array Slot), x_X10_mean_b49 w21 w22 w23 w24 w25 σ26 = some (rv, σf) → AtW E (wM E σ26 ++ X) A s H locs → lv_has ls 9 [(0, .ref (eA E 0)), (1, .int w21), (2, .int w22), (3, .int w23), (4, .int w24)] → W p l e rm_X10_mean s m a below meth c H locs 0 0 QQ (F0 m 49 ls [.int w25, .ref (eA E 0)]) := by
      intro w21 w22 w23 w24 w25 σ26 H locs ls h hV hl
      unfold x_X10_mean_b49 at h
      refine lv_iconst (v := 2) hx hb dX10_mean_49 (by decide) ?_
      refine lv_iconst (v := 2) hx hb dX10_mean_50 (by decide) ?_
      refine bd2_e h (fun v27 σ28 hq h => ?_)
      refine k_X10_may hq cx hV mk_7_62 ⟨Nat.le_of_ble_eq_true rfl, Nat.le_of_ble_eq_true rfl⟩ ⟨Nat.zero_le _, Nat.zero_le _⟩ hl.1 (Nat.le_of_ble_eq_true rfl) dX10_mean_51 (fun H locs hV => ?_)
      refine lv_if_eq (tgt := 81) hx hb dX10_mean_54 (by decide) (fun hc => ?_) (fun hc => ?_)
      · have h := ifp hc h
        refine lv_lconst (v := 0) hx hb dX10_mean_81 (by decide) ?_
        obtain ⟨h1, h2⟩ := Prod.mk.inj (Option.some.inj h)
        subst h1
        subst h2
        subst hQ
        exact r_lret cx hr hlk hV dX10_mean_82
      · have h := ifn hc h
        refine lv_aload_n hx hb dX10_mean_57 rfl (lv_at hl 0 rfl) ?_
        refine lv_aload_n hx hb dX10_mean_58 rfl (lv_at hl 0 rfl) ?_
        refine G_X10_liesAt cx hV mk_6_112 dX10_mean_59 ?_
        refine lv_iload_n hx hb dX10_mean_62 rfl (lv_at hl 1 rfl) ?_
        refine bd_e h (fun v29 hq h => ?_)
        refine R_M_iald cx hV (by decide) hq dX10_mean_63 ?_
        refine lv_iconst (v := (-1)) hx hb dX10_mean_64 (by decide) ?_
        refine lv_icmp_eq (tgt := 72) hx hb dX10_mean_65 (by decide) (fun hc => ?_) (fun hc => ?_)
        · have h := ifp hc h
          refine lv_iconst (v := 0) hx hb dX10_mean_72 (by decide) ?_
          exact hj73 w21 w22 w23 w24 0 σ28 _ _ _ h hV (lv_sub hl [0, 1, 2, 3, 4] rfl)
        · have h := ifn hc h
          refine lv_iconst (v := 1) hx hb dX10_mean_68 (by decide) ?_
          refine lv_goto (tgt := 73) hx hb dX10_mean_69 (by decide) ?_
          exact hj73 w21 w22 w23 w24 1 σ28 _ _ _ h hV (lv_sub hl [0, 1, 2, 3, 4] rfl)
    have hj48 : ∀ (w30 : Int32) (w31 : Int32) (w32 : Int32) (w33 : Int32) (σ34 : St) (H : Heap) (locs : List Loc) (ls : Array Slot), x_X10_mean_b48 w30 w31 w32 w33 σ34 = some (rv, σf) → AtW E (wM E σ34 ++ X) A s H locs → lv_has ls 9 [(0, .ref (eA E 0)), (1, .int w30), (2, .int w31), (3, .int w32), (4, .int w33)] → W p l e rm_X10_mean s m a below meth c H locs 0 0 QQ (F0 m 48 ls [.ref (eA E 0)]) := by
      intro w30 w31 w32 w33 σ34 H locs ls h hV hl
      unfold x_X10_mean_b48 at h
      refine lv_iconst (v := 0) hx hb dX10_mean_48 (by decide) ?_
      exact hj49 w30 w31 w32 w33 0 σ34 _ _ _ h hV (lv_sub hl [0, 1, 2, 3, 4] rfl)
    refine lv_aload_n hx hb dX10_mean_0 rfl (lv_at hl 0 rfl) ?_
    refine lv_iconst (v := 0) hx hb dX10_mean_1 (by decide) ?_
    refine bd_e h (fun σ35 hq h => ?_)
    refine P_X10_thrown cx hV hq mk_6_97 dX10_mean_2 (fun H locs hV => ?_)
    refine lv_aload_n hx hb dX10_mean_5 rfl (lv_at hl 0 rfl) ?_
    refine lv_iload_n hx hb dX10_mean_6 rfl (lv_at hl 1 rfl) ?_
    refine lv_iconst (v := 1) hx hb dX10_mean_7 (by decide) ?_
    refine bd2_e h (fun v36 σ37 hq h => ?_)
    refine k_X10_isSleeve hq cx hV mk_7_160 ⟨Nat.le_of_ble_eq_true rfl, Nat.le_of_ble_eq_true rfl⟩ ⟨Nat.zero_le _, Nat.zero_le _⟩ hl.1 (Nat.le_of_ble_eq_true rfl) dX10_mean_8 (fun H locs hV => ?_)
    refine lv_if_eq (tgt := 81) hx hb dX10_mean_11 (by decide) (fun hc => ?_) (fun hc => ?_)
    · have h := ifp hc h
      refine lv_lconst (v := 0) hx hb dX10_mean_81 (by decide) ?_
      obtain ⟨h1, h2⟩ := Prod.mk.inj (Option.some.inj h)
      subst h1
      subst h2
      subst hQ
      exact r_lret cx hr hlk hV dX10_mean_82
    · have h := ifn hc h
      refine lv_aload_n hx hb dX10_mean_14 rfl (lv_at hl 0 rfl) ?_
      refine lv_iload_n hx hb dX10_mean_15 rfl (lv_at hl 2 rfl) ?_
      refine lv_iconst (v := 0) hx hb dX10_mean_16 (by decide) ?_
      refine lv_iconst (v := 4) hx hb dX10_mean_17 (by decide) ?_
      refine bd_e h (fun v38 hq h => ?_)
      refine k_X10_within hq cx hV mk_7_141 ⟨Nat.le_of_ble_eq_true rfl, Nat.le_of_ble_eq_true rfl⟩ ⟨Nat.zero_le _, Nat.zero_le _⟩ hl.1 (Nat.le_of_ble_eq_true rfl) dX10_mean_18 (fun H locs hV => ?_)
      refine lv_if_eq (tgt := 48) hx hb dX10_mean_21 (by decide) (fun hc => ?_) (fun hc => ?_)
      · have h := ifp hc h
        exact hj48 p1 p2 p3 p4 σ37 _ _ _ h hV (lv_sub hl [0, 1, 2, 3, 4] rfl)
      · have h := ifn hc h
        refine lv_iload_n hx hb dX10_mean_24 rfl (lv_at hl 3 rfl) ?_
        refine lv_iconst (v := 1) hx hb dX10_mean_25 (by decide) ?_
        refine lv_bipush (v := 8) hx hb dX10_mean_26 (by decide) ?_
        refine bd_e h (fun v39 hq h => ?_)
        refine k_X10_within hq cx hV mk_7_141 ⟨Nat.le_of_ble_eq_true rfl, Nat.le_of_ble_eq_true rfl⟩ ⟨Nat.zero_le _, Nat.zero_le _⟩ hl.1 (Nat.le_of_ble_eq_true rfl) dX10_mean_28 (fun H locs hV => ?_)
        refine lv_if_eq (tgt := 48) hx hb dX10_mean_31 (by decide) (fun hc => ?_) (fun hc => ?_)
        · have h := ifp hc h
          exact hj48 p1 p2 p3 p4 σ37 _ _ _ h hV (lv_sub hl [0, 1, 2, 3, 4] rfl)
        · have h := ifn hc h
          refine lv_iload hx hb dX10_mean_34 (lv_at hl 4 rfl) ?_
          refine lv_iconst (v := 0) hx hb dX10_mean_36 (by decide) ?_
          refine lv_iconst (v := 1) hx hb dX10_mean_37 (by decide) ?_
          refine bd_e h (fun v40 hq h => ?_)
          refine k_X10_within hq cx hV mk_7_141 ⟨Nat.le_of_ble_eq_true rfl, Nat.le_of_ble_eq_true rfl⟩ ⟨Nat.zero_le _, Nat.zero_le _⟩ hl.1 (Nat.le_of_ble_eq_true rfl) dX10_mean_38 (fun H locs hV => ?_)
          refine lv_if_eq (tgt := 48) hx hb dX10_mean_41 (by decide) (fun hc => ?_) (fun hc => ?_)
          · have h := ifp hc h
            exact hj48 p1 p2 p3 p4 σ37 _ _ _ h hV (lv_sub hl [0, 1, 2, 3, 4] rfl)
          · have h := ifn hc h
            refine lv_iconst (v := 1) hx hb dX10_mean_44 (by decide) ?_
            refine lv_goto (tgt := 49) hx hb dX10_mean_45 (by decide) ?_
            exact hj49 p1 p2 p3 p4 1 σ37 _ _ _ h hV (lv_sub hl [0, 1, 2, 3, 4] rfl)
  rw [hH, hlocs] at goal
  exact goal
theorem k_X10_mean {p : Program} {l : Launch} {e : Env} {R : Room} {s : State} {m : MethodId} {a : Array Value} {below : List Frame} {meth : Method} {c : Code} {H : Heap} {locs : List Loc} {cells slots : Nat} {Q : State → Prop} {cc : ByteArray} {own : String} {nL pc : Nat} {ls : Array Slot} {rest : List Value} {A : Nat → Prop} {E : EV} {X : va_W} {σ : St} {p1 : Int32} {p2 : Int32} {p3 : Int32} {p4 : Int32} {rv : Int64} {σf : St} (h : x_X10_mean p1 p2 p3 p4 σ = some (rv, σf)) (cx : CallFix p m c cc nL s a TBL own) (hV : AtW E (wM E σ ++ X) A s H locs) {idx : Nat} (w1 : Cond.methodLink own idx yX10_mean ∈ TBL) (hR : (rm_X10_mean).frames + 1 ≤ R.frames ∧ 8 + (9 + 11) + (rm_X10_mean).locals ≤ R.locals) (hcs : cells ≤ R.cells ∧ slots ≤ R.slots) (hls : ls.size = nL) (hcat : (rest.map fun v => v.category).sum ≤ 8) (d : decode cc pc = .ok (.invokevirtual idx, 3)) (kk : ∀ (H1 : Heap) (locs1 : List Loc), AtW E (wM E σf ++ X) A s H1 locs1 → W p l e R s m a below meth c H1 locs1 cells slots Q (F0 m (pc + 3) ls (.long rv :: rest))) : W p l e R s m a below meth c H locs cells slots Q (F0 m pc ls (.int p4 :: .int p3 :: .int p2 :: .int p1 :: .ref (eA E 0) :: rest)) :=
  r_calll (n := 4) (As := [.int p1, .int p2, .int p3, .int p4]) (q0 := 0) (ci := 10) (qq := (RX10, TX10, 64)) (c_X10_mean h) wM_fst rfl rfl mk_8_81 mk_8_82 mk_1_11 mk_8_83 (by decide +kernel) rfl ⟨rfl, rfl⟩ cx hV w1 hR hcs hls rfl hcat d kk
def x_X10_pace_L9 (σ1 : St) (u2 : Int32) (u3 : Int32) : Option (Bool × (Int32 × Int32)) :=
  (if 8 < u3 then
  some (false, (u2, u3))
  else
  bd (ldI (gA σ1 5) (lenM 5) u3) fun v4 =>
  bd (ldI (gA σ1 5) (lenM 5) u2) fun v5 =>
  (if (u3 * (8 - v4)) ≤ (u2 * (8 - v5)) then
  some (true, (u2, (u3 + 1)))
  else
  some (true, (u3, (u3 + 1)))))
def x_X10_pace (σ : St) : Option (Int32 × St) :=
  bd (some (sI σ 0 0)) fun σ1 =>
  bd2 (lp (fun v : (Int32 × Int32) => x_X10_pace_L9 σ1 v.1 v.2) FU (1, 2)) fun z6 z7 =>
  some (z6, σ1)
abbrev rm_X10_pace : Room := { frames := 0, cells := 0, slots := 0, locals := 0 }
set_option maxHeartbeats 4000000 in
set_option maxRecDepth 100000 in
theorem c_X10_pace {l : Launch} {E : EV} {X : va_W} {σ : St} {rv : Int32} {σf : St} (h : x_X10_pace σ = some (rv, σf)) : CM l yX10_pace cX10_pace 3 (some .int) rm_X10_pace [.ref (eA E 0)] E (wM E σ ++ X) (wM E σf ++ X) (qI rv) := by
  refine CM.start (by decide) (Nat.le_of_ble_eq_true rfl) (fun p e s m a below meth c A ls cx hr hlk hV hl => ?_)
  have cx : CallFix p m c cX10_pace 3 s a TBL RX10 := cx
  have hx := cx.1
  have hb := cx.2.1
  have hl : lv_has ls 3 [(0, .ref (eA E 0))] := hl
  generalize hQ : EQ E (wM E σf ++ X) (qI rv) A s a below = QQ
  obtain ⟨H, hH⟩ : ∃ H, H = s.heap := ⟨_, rfl⟩
  obtain ⟨locs, hlocs⟩ : ∃ z, z = ([] : List Loc) := ⟨_, rfl⟩
  have hV : AtW E (wM E σ ++ X) A s H locs := by rw [hH, hlocs]; exact hV
  have goal : W p l e rm_X10_pace s m a below meth c H locs 0 0 QQ (F0 m 0 ls []) := by
    unfold x_X10_pace at h
    refine lv_aload_n hx hb dX10_pace_0 rfl (lv_at hl 0 rfl) ?_
    refine lv_iconst (v := 0) hx hb dX10_pace_1 (by decide) ?_
    refine bd_e h (fun σ1 hq h => ?_)
    refine P_X10_thrown cx hV hq mk_6_97 dX10_pace_2 (fun H locs hV => ?_)
    refine lv_iconst (v := 1) hx hb dX10_pace_5 (by decide) ?_
    refine lv_istore_n (lv' := [(1, .int 1), (0, .ref (eA E 0))]) hx hb dX10_pace_6 rfl hl (by decide) rfl (fun ls hl => ?_)
    refine lv_iconst (v := 2) hx hb dX10_pace_7 (by decide) ?_
    refine lv_istore_n (lv' := [(2, .int 2), (1, .int 1), (0, .ref (eA E 0))]) hx hb dX10_pace_8 rfl hl (by decide) rfl (fun ls hl => ?_)
    refine bd2_e h (fun z6 z7 ho h => ?_)
    refine (lp_rule (G := (fun v : (Int32 × Int32) => ∀ (H : Heap) (locs : List Loc) (ls : Array Slot), AtW E (wM E σ1 ++ X) A s H locs → lv_has ls 3 [(0, .ref (eA E 0)), (1, .int v.1), (2, .int v.2)] → W p l e rm_X10_pace s m a below meth c H locs 0 0 QQ (F0 m 9 ls []))) (K := (fun v : (Int32 × Int32) => ∀ (H : Heap) (locs : List Loc) (ls : Array Slot), AtW E (wM E σ1 ++ X) A s H locs → lv_has ls 3 [(1, .int v.1)] → W p l e rm_X10_pace s m a below meth c H locs 0 0 QQ (F0 m 48 ls []))) (fun v b1 y1 h hT1 hF1 => ?_) ho (fun H locs ls hV hl => ?_)) _ _ _ hV (lv_sub hl [2, 1, 0] rfl)
    · obtain ⟨u2, u3⟩ := v
      have h : x_X10_pace_L9 σ1 u2 u3 = some (b1, y1) := h
      intro H locs ls hV hl
      have hV : AtW E (wM E σ1 ++ X) A s H locs := hV
      have hl : lv_has ls 3 [(0, .ref (eA E 0)), (1, .int u2), (2, .int u3)] := hl
      unfold x_X10_pace_L9 at h
      refine lv_iload_n hx hb dX10_pace_9 rfl (lv_at hl 2 rfl) ?_
      refine lv_bipush (v := 8) hx hb dX10_pace_10 (by decide) ?_
      refine lv_icmp_gt (tgt := 48) hx hb dX10_pace_12 (by decide) (fun hc => ?_) (fun hc => ?_)
      · have h := ifp hc h
        cases h
        exact hF1 rfl _ _ _ hV (lv_sub hl [1] rfl)
      · have h := ifn hc h
        refine lv_iload_n hx hb dX10_pace_15 rfl (lv_at hl 2 rfl) ?_
        refine lv_bipush (v := 8) hx hb dX10_pace_16 (by decide) ?_
        refine lv_aload_n hx hb dX10_pace_18 rfl (lv_at hl 0 rfl) ?_
        refine G_X10_missed cx hV mk_6_110 dX10_pace_19 ?_
        refine lv_iload_n hx hb dX10_pace_22 rfl (lv_at hl 2 rfl) ?_
        refine bd_e h (fun v4 hq h => ?_)
        refine R_M_iald cx hV (by decide) hq dX10_pace_23 ?_
        refine lv_isub hx hb dX10_pace_24 ?_
        refine lv_imul hx hb dX10_pace_25 ?_
        refine lv_iload_n hx hb dX10_pace_26 rfl (lv_at hl 1 rfl) ?_
        refine lv_bipush (v := 8) hx hb dX10_pace_27 (by decide) ?_
        refine lv_aload_n hx hb dX10_pace_29 rfl (lv_at hl 0 rfl) ?_
        refine G_X10_missed cx hV mk_6_110 dX10_pace_30 ?_
        refine lv_iload_n hx hb dX10_pace_33 rfl (lv_at hl 1 rfl) ?_
        refine bd_e h (fun v5 hq h => ?_)
        refine R_M_iald cx hV (by decide) hq dX10_pace_34 ?_
        refine lv_isub hx hb dX10_pace_35 ?_
        refine lv_imul hx hb dX10_pace_36 ?_
        refine lv_icmp_le (tgt := 42) hx hb dX10_pace_37 (by decide) (fun hc => ?_) (fun hc => ?_)
        · have h := ifp hc h
          refine lv_iinc (v := (u3 + 1)) (lv' := [(2, .int (u3 + 1)), (0, .ref (eA E 0)), (1, .int u2)]) hx hb dX10_pace_42 hl (k := 2) rfl rfl (by decide) rfl (fun ls hl => ?_)
          refine lv_goto (tgt := 9) hx hb dX10_pace_45 (by decide) ?_
          cases h
          exact hT1 rfl _ _ _ hV (lv_sub hl [1, 2, 0] rfl)
        · have h := ifn hc h
          refine lv_iload_n hx hb dX10_pace_40 rfl (lv_at hl 2 rfl) ?_
          refine lv_istore_n (lv' := [(1, .int u3), (0, .ref (eA E 0)), (2, .int u3)]) hx hb dX10_pace_41 rfl hl (by decide) rfl (fun ls hl => ?_)
          refine lv_iinc (v := (u3 + 1)) (lv' := [(2, .int (u3 + 1)), (1, .int u3), (0, .ref (eA E 0))]) hx hb dX10_pace_42 hl (k := 2) rfl rfl (by decide) rfl (fun ls hl => ?_)
          refine lv_goto (tgt := 9) hx hb dX10_pace_45 (by decide) ?_
          cases h
          exact hT1 rfl _ _ _ hV (lv_sub hl [2, 1, 0] rfl)
    · have hV : AtW E (wM E σ1 ++ X) A s H locs := hV
      have hl : lv_has ls 3 [(1, .int z6)] := hl
      refine lv_iload_n hx hb dX10_pace_48 rfl (lv_at hl 0 rfl) ?_
      obtain ⟨h1, h2⟩ := Prod.mk.inj (Option.some.inj h)
      subst h1
      subst h2
      subst hQ
      exact r_ireti cx hr hlk hV dX10_pace_49
  rw [hH, hlocs] at goal
  exact goal
theorem k_X10_pace {p : Program} {l : Launch} {e : Env} {R : Room} {s : State} {m : MethodId} {a : Array Value} {below : List Frame} {meth : Method} {c : Code} {H : Heap} {locs : List Loc} {cells slots : Nat} {Q : State → Prop} {cc : ByteArray} {own : String} {nL pc : Nat} {ls : Array Slot} {rest : List Value} {A : Nat → Prop} {E : EV} {X : va_W} {σ : St} {rv : Int32} {σf : St} (h : x_X10_pace σ = some (rv, σf)) (cx : CallFix p m c cc nL s a TBL own) (hV : AtW E (wM E σ ++ X) A s H locs) {idx : Nat} (w1 : Cond.methodLink own idx yX10_pace ∈ TBL) (hR : (rm_X10_pace).frames + 1 ≤ R.frames ∧ 8 + (3 + 11) + (rm_X10_pace).locals ≤ R.locals) (hcs : cells ≤ R.cells ∧ slots ≤ R.slots) (hls : ls.size = nL) (hcat : (rest.map fun v => v.category).sum ≤ 8) (d : decode cc pc = .ok (.invokevirtual idx, 3)) (kk : ∀ (H1 : Heap) (locs1 : List Loc), AtW E (wM E σf ++ X) A s H1 locs1 → W p l e R s m a below meth c H1 locs1 cells slots Q (F0 m (pc + 3) ls (.int rv :: rest))) : W p l e R s m a below meth c H locs cells slots Q (F0 m pc ls (.ref (eA E 0) :: rest)) :=
  r_calli (n := 0) (As := []) (q0 := 0) (ci := 10) (qq := (RX10, TX10, 64)) (c_X10_pace h) wM_fst rfl rfl mk_8_85 mk_8_86 mk_1_11 mk_8_87 (by decide +kernel) rfl ⟨rfl, rfl⟩ cx hV w1 hR hcs hls rfl hcat d kk
def x_X10_round_b34_102 (p1 : Int32) (w9 : Int32) (σ10 : St) : Option (Bool × (Int32 × St)) :=
  bd (some (sI σ10 20 w9)) fun σ11 =>
  bd (x_X10_total 24 σ11) fun v12 =>
  bd (some (sI σ11 21 v12)) fun σ13 =>
  some (true, ((w9 + 1), σ13))
def x_X10_round_L46 (p1 : Int32) (u7 : Int32) (u14 : Int32) (σ15 : St) : Option (Bool × (Int32 × St)) :=
  (if (gI σ15 10) ≤ u14 then
  some (false, (u14, σ15))
  else
  bd (stI σ15 26 (lenM 26) u14 ((u7 >>> (u14 &&& 31)) &&& 1)) fun σ16 =>
  some (true, ((u14 + 1), σ16)))
def x_X10_round_L34 (p1 : Int32) (u7 : Int32) (σ8 : St) : Option (Bool × (Int32 × St)) :=
  (if (1 <<< ((gI σ8 10) &&& 31)) ≤ u7 then
  some (false, (u7, σ8))
  else
  bd2 (lp (fun v : (Int32 × St) => x_X10_round_L46 p1 u7 v.1 v.2) FU (0, σ8)) fun z17 σ18 =>
  bd (x_X10_goes 0 σ18) fun σ19 =>
  (if (gI σ19 20) = (-1) then
  x_X10_round_b34_102 p1 u7 σ19
  else
  bd (x_X10_total 24 σ19) fun v20 =>
  (if v20 < (gI σ19 21) then
  x_X10_round_b34_102 p1 u7 σ19
  else
  some (true, ((u7 + 1), σ19)))))
def x_X10_round (p1 : Int32) (σ : St) : Option (Int32 × St) :=
  bd (some (sI σ 0 0)) fun σ1 =>
  bd (x_X10_within p1 0 1) fun v2 =>
  bd2 (x_X10_may v2 1 2 σ1) fun v3 σ4 =>
  (if v3 = 0 then
  some (0, σ4)
  else
  bd (some (sI σ4 19 1)) fun σ5 =>
  bd (some (sI σ5 20 (-1))) fun σ6 =>
  bd2 (lp (fun v : (Int32 × St) => x_X10_round_L34 p1 v.1 v.2) FU (0, σ6)) fun z21 σ22 =>
  bd (some (sI σ22 19 0)) fun σ23 =>
  (if p1 = 0 then
  some ((gI σ23 20), σ23)
  else
  some ((gI σ23 21), σ23)))
abbrev rm_X10_round : Room := { frames := 6, cells := 0, slots := 0, locals := 148 }
set_option maxHeartbeats 4000000 in
set_option maxRecDepth 100000 in
theorem c_X10_round {l : Launch} {E : EV} {X : va_W} {σ : St} {p1 : Int32} {rv : Int32} {σf : St} (h : x_X10_round p1 σ = some (rv, σf)) : CM l yX10_round cX10_round 4 (some .int) rm_X10_round [.ref (eA E 0), .int p1] E (wM E σ ++ X) (wM E σf ++ X) (qI rv) := by
  refine CM.start (by decide) (Nat.le_of_ble_eq_true rfl) (fun p e s m a below meth c A ls cx hr hlk hV hl => ?_)
  have cx : CallFix p m c cX10_round 4 s a TBL RX10 := cx
  have hx := cx.1
  have hb := cx.2.1
  have hl : lv_has ls 4 [(0, .ref (eA E 0)), (1, .int p1)] := hl
  generalize hQ : EQ E (wM E σf ++ X) (qI rv) A s a below = QQ
  obtain ⟨H, hH⟩ : ∃ H, H = s.heap := ⟨_, rfl⟩
  obtain ⟨locs, hlocs⟩ : ∃ z, z = ([] : List Loc) := ⟨_, rfl⟩
  have hV : AtW E (wM E σ ++ X) A s H locs := by rw [hH, hlocs]; exact hV
  have goal : W p l e rm_X10_round s m a below meth c H locs 0 0 QQ (F0 m 0 ls []) := by
    unfold x_X10_round at h
    refine lv_aload_n hx hb dX10_round_0 rfl (lv_at hl 0 rfl) ?_
    refine lv_iconst (v := 0) hx hb dX10_round_1 (by decide) ?_
    refine bd_e h (fun σ1 hq h => ?_)
    refine P_X10_thrown cx hV hq mk_6_97 dX10_round_2 (fun H locs hV => ?_)
    refine lv_aload_n hx hb dX10_round_5 rfl (lv_at hl 0 rfl) ?_
    refine lv_iload_n hx hb dX10_round_6 rfl (lv_at hl 1 rfl) ?_
    refine lv_iconst (v := 0) hx hb dX10_round_7 (by decide) ?_
    refine lv_iconst (v := 1) hx hb dX10_round_8 (by decide) ?_
    refine bd_e h (fun v2 hq h => ?_)
    refine k_X10_within hq cx hV mk_7_141 ⟨Nat.le_of_ble_eq_true rfl, Nat.le_of_ble_eq_true rfl⟩ ⟨Nat.zero_le _, Nat.zero_le _⟩ hl.1 (Nat.le_of_ble_eq_true rfl) dX10_round_9 (fun H locs hV => ?_)
    refine lv_iconst (v := 1) hx hb dX10_round_12 (by decide) ?_
    refine lv_iconst (v := 2) hx hb dX10_round_13 (by decide) ?_
    refine bd2_e h (fun v3 σ4 hq h => ?_)
    refine k_X10_may hq cx hV mk_7_62 ⟨Nat.le_of_ble_eq_true rfl, Nat.le_of_ble_eq_true rfl⟩ ⟨Nat.zero_le _, Nat.zero_le _⟩ hl.1 (Nat.le_of_ble_eq_true rfl) dX10_round_14 (fun H locs hV => ?_)
    refine lv_if_ne (tgt := 22) hx hb dX10_round_17 (by decide) (fun hc => ?_) (fun hc => ?_)
    · have h := ifn hc h
      refine lv_aload_n hx hb dX10_round_22 rfl (lv_at hl 0 rfl) ?_
      refine lv_iconst (v := 1) hx hb dX10_round_23 (by decide) ?_
      refine bd_e h (fun σ5 hq h => ?_)
      refine P_X10_blind cx hV (Or.inr rfl) hq mk_6_147 dX10_round_24 (fun H locs hV => ?_)
      refine lv_aload_n hx hb dX10_round_27 rfl (lv_at hl 0 rfl) ?_
      refine lv_iconst (v := (-1)) hx hb dX10_round_28 (by decide) ?_
      refine bd_e h (fun σ6 hq h => ?_)
      refine P_X10_bestRound cx hV hq mk_6_152 dX10_round_29 (fun H locs hV => ?_)
      refine lv_iconst (v := 0) hx hb dX10_round_32 (by decide) ?_
      refine lv_istore_n (lv' := [(2, .int 0), (0, .ref (eA E 0)), (1, .int p1)]) hx hb dX10_round_33 rfl hl (by decide) rfl (fun ls hl => ?_)
      refine bd2_e h (fun z21 σ22 ho h => ?_)
      refine (lp_rule (G := (fun v : (Int32 × St) => ∀ (H : Heap) (locs : List Loc) (ls : Array Slot), AtW E (wM E v.2 ++ X) A s H locs → lv_has ls 4 [(0, .ref (eA E 0)), (1, .int p1), (2, .int v.1)] → W p l e rm_X10_round s m a below meth c H locs 0 0 QQ (F0 m 34 ls []))) (K := (fun v : (Int32 × St) => ∀ (H : Heap) (locs : List Loc) (ls : Array Slot), AtW E (wM E v.2 ++ X) A s H locs → lv_has ls 4 [(0, .ref (eA E 0)), (1, .int p1)] → W p l e rm_X10_round s m a below meth c H locs 0 0 QQ (F0 m 125 ls []))) (fun v b1 y1 h hT1 hF1 => ?_) ho (fun H locs ls hV hl => ?_)) _ _ _ hV (lv_sub hl [1, 2, 0] rfl)
      · have hj34_102 : ∀ (w9 : Int32) (σ10 : St) (H : Heap) (locs : List Loc) (ls : Array Slot), x_X10_round_b34_102 p1 w9 σ10 = some (b1, y1) → AtW E (wM E σ10 ++ X) A s H locs → lv_has ls 4 [(0, .ref (eA E 0)), (1, .int p1), (2, .int w9)] → W p l e rm_X10_round s m a below meth c H locs 0 0 QQ (F0 m 102 ls []) := by
          intro w9 σ10 H locs ls h hV hl
          unfold x_X10_round_b34_102 at h
          refine lv_aload_n hx hb dX10_round_102 rfl (lv_at hl 0 rfl) ?_
          refine lv_iload_n hx hb dX10_round_103 rfl (lv_at hl 2 rfl) ?_
          refine bd_e h (fun σ11 hq h => ?_)
          refine P_X10_bestRound cx hV hq mk_6_152 dX10_round_104 (fun H locs hV => ?_)
          refine lv_aload_n hx hb dX10_round_107 rfl (lv_at hl 0 rfl) ?_
          refine lv_aload_n hx hb dX10_round_108 rfl (lv_at hl 0 rfl) ?_
          refine lv_aload_n hx hb dX10_round_109 rfl (lv_at hl 0 rfl) ?_
          refine G_X10_waited cx hV mk_6_137 dX10_round_110 ?_
          refine bd_e h (fun v12 hq h => ?_)
          refine k_X10_total (by decide) hq cx hV mk_8_29 ⟨Nat.le_of_ble_eq_true rfl, Nat.le_of_ble_eq_true rfl⟩ ⟨Nat.zero_le _, Nat.zero_le _⟩ hl.1 (Nat.le_of_ble_eq_true rfl) dX10_round_113 (fun H locs hV => ?_)
          refine bd_e h (fun σ13 hq h => ?_)
          refine P_X10_bestWaited cx hV hq mk_6_153 dX10_round_116 (fun H locs hV => ?_)
          refine lv_iinc (v := (w9 + 1)) (lv' := [(2, .int (w9 + 1)), (0, .ref (eA E 0)), (1, .int p1)]) hx hb dX10_round_119 hl (k := 2) rfl rfl (by decide) rfl (fun ls hl => ?_)
          refine lv_goto (tgt := 34) hx hb dX10_round_122 (by decide) ?_
          cases h
          exact hT1 rfl _ _ _ hV (lv_sub hl [1, 2, 0] rfl)
        obtain ⟨u7, σ8⟩ := v
        have h : x_X10_round_L34 p1 u7 σ8 = some (b1, y1) := h
        intro H locs ls hV hl
        have hV : AtW E (wM E σ8 ++ X) A s H locs := hV
        have hl : lv_has ls 4 [(0, .ref (eA E 0)), (1, .int p1), (2, .int u7)] := hl
        unfold x_X10_round_L34 at h
        refine lv_iload_n hx hb dX10_round_34 rfl (lv_at hl 2 rfl) ?_
        refine lv_iconst (v := 1) hx hb dX10_round_35 (by decide) ?_
        refine lv_aload_n hx hb dX10_round_36 rfl (lv_at hl 0 rfl) ?_
        refine G_X10_lookers cx hV mk_6_123 dX10_round_37 ?_
        refine lv_ishl hx hb dX10_round_40 ?_
        refine lv_icmp_ge (tgt := 125) hx hb dX10_round_41 (by decide) (fun hc => ?_) (fun hc => ?_)
        · have h := ifp hc h
          cases h
          exact hF1 rfl _ _ _ hV (lv_sub hl [0, 1] rfl)
        · have h := ifn hc h
          refine lv_iconst (v := 0) hx hb dX10_round_44 (by decide) ?_
          refine lv_istore_n (lv' := [(3, .int 0), (0, .ref (eA E 0)), (1, .int p1), (2, .int u7)]) hx hb dX10_round_45 rfl hl (by decide) rfl (fun ls hl => ?_)
          refine bd2_e h (fun z17 σ18 ho h => ?_)
          refine (lp_rule (G := (fun v : (Int32 × St) => ∀ (H : Heap) (locs : List Loc) (ls : Array Slot), AtW E (wM E v.2 ++ X) A s H locs → lv_has ls 4 [(0, .ref (eA E 0)), (1, .int p1), (2, .int u7), (3, .int v.1)] → W p l e rm_X10_round s m a below meth c H locs 0 0 QQ (F0 m 46 ls []))) (K := (fun v : (Int32 × St) => ∀ (H : Heap) (locs : List Loc) (ls : Array Slot), AtW E (wM E v.2 ++ X) A s H locs → lv_has ls 4 [(0, .ref (eA E 0)), (1, .int p1), (2, .int u7)] → W p l e rm_X10_round s m a below meth c H locs 0 0 QQ (F0 m 71 ls []))) (fun v b2 y2 h hT2 hF2 => ?_) ho (fun H locs ls hV hl => ?_)) _ _ _ hV (lv_sub hl [1, 2, 3, 0] rfl)
          · obtain ⟨u14, σ15⟩ := v
            have h : x_X10_round_L46 p1 u7 u14 σ15 = some (b2, y2) := h
            intro H locs ls hV hl
            have hV : AtW E (wM E σ15 ++ X) A s H locs := hV
            have hl : lv_has ls 4 [(0, .ref (eA E 0)), (1, .int p1), (2, .int u7), (3, .int u14)] := hl
            unfold x_X10_round_L46 at h
            refine lv_iload_n hx hb dX10_round_46 rfl (lv_at hl 3 rfl) ?_
            refine lv_aload_n hx hb dX10_round_47 rfl (lv_at hl 0 rfl) ?_
            refine G_X10_lookers cx hV mk_6_123 dX10_round_48 ?_
            refine lv_icmp_ge (tgt := 71) hx hb dX10_round_51 (by decide) (fun hc => ?_) (fun hc => ?_)
            · have h := ifp hc h
              cases h
              exact hF2 rfl _ _ _ hV (lv_sub hl [0, 1, 2] rfl)
            · have h := ifn hc h
              refine lv_aload_n hx hb dX10_round_54 rfl (lv_at hl 0 rfl) ?_
              refine G_X10_toLeft cx hV mk_6_139 dX10_round_55 ?_
              refine lv_iload_n hx hb dX10_round_58 rfl (lv_at hl 3 rfl) ?_
              refine lv_iload_n hx hb dX10_round_59 rfl (lv_at hl 2 rfl) ?_
              refine lv_iload_n hx hb dX10_round_60 rfl (lv_at hl 3 rfl) ?_
              refine lv_ishr hx hb dX10_round_61 ?_
              refine lv_iconst (v := 1) hx hb dX10_round_62 (by decide) ?_
              refine lv_iand hx hb dX10_round_63 ?_
              refine bd_e h (fun σ16 hq h => ?_)
              refine R_M_iast cx hV (by decide) hq dX10_round_64 (fun H locs hV => ?_)
              refine lv_iinc (v := (u14 + 1)) (lv' := [(3, .int (u14 + 1)), (0, .ref (eA E 0)), (1, .int p1), (2, .int u7)]) hx hb dX10_round_65 hl (k := 3) rfl rfl (by decide) rfl (fun ls hl => ?_)
              refine lv_goto (tgt := 46) hx hb dX10_round_68 (by decide) ?_
              cases h
              exact hT2 rfl _ _ _ hV (lv_sub hl [1, 2, 3, 0] rfl)
          · have hV : AtW E (wM E σ18 ++ X) A s H locs := hV
            have hl : lv_has ls 4 [(0, .ref (eA E 0)), (1, .int p1), (2, .int u7)] := hl
            refine lv_aload_n hx hb dX10_round_71 rfl (lv_at hl 0 rfl) ?_
            refine lv_iconst (v := 0) hx hb dX10_round_72 (by decide) ?_
            refine bd_e h (fun σ19 hq h => ?_)
            refine k_X10_goes hq cx hV mk_7_220 ⟨Nat.le_of_ble_eq_true rfl, Nat.le_of_ble_eq_true rfl⟩ ⟨Nat.zero_le _, Nat.zero_le _⟩ hl.1 (Nat.le_of_ble_eq_true rfl) dX10_round_73 (fun H locs hV => ?_)
            refine lv_aload_n hx hb dX10_round_76 rfl (lv_at hl 0 rfl) ?_
            refine G_X10_bestRound cx hV mk_6_152 dX10_round_77 ?_
            refine lv_iconst (v := (-1)) hx hb dX10_round_80 (by decide) ?_
            refine lv_icmp_eq (tgt := 102) hx hb dX10_round_81 (by decide) (fun hc => ?_) (fun hc => ?_)
            · have h := ifp hc h
              exact hj34_102 u7 σ19 _ _ _ h hV (lv_sub hl [0, 1, 2] rfl)
            · have h := ifn hc h
              refine lv_aload_n hx hb dX10_round_84 rfl (lv_at hl 0 rfl) ?_
              refine lv_aload_n hx hb dX10_round_85 rfl (lv_at hl 0 rfl) ?_
              refine G_X10_waited cx hV mk_6_137 dX10_round_86 ?_
              refine bd_e h (fun v20 hq h => ?_)
              refine k_X10_total (by decide) hq cx hV mk_8_29 ⟨Nat.le_of_ble_eq_true rfl, Nat.le_of_ble_eq_true rfl⟩ ⟨Nat.zero_le _, Nat.zero_le _⟩ hl.1 (Nat.le_of_ble_eq_true rfl) dX10_round_89 (fun H locs hV => ?_)
              refine lv_aload_n hx hb dX10_round_92 rfl (lv_at hl 0 rfl) ?_
              refine G_X10_bestWaited cx hV mk_6_153 dX10_round_93 ?_
              refine lv_icmp_lt (tgt := 102) hx hb dX10_round_96 (by decide) (fun hc => ?_) (fun hc => ?_)
              · have h := ifp hc h
                exact hj34_102 u7 σ19 _ _ _ h hV (lv_sub hl [0, 1, 2] rfl)
              · have h := ifn hc h
                refine lv_goto (tgt := 119) hx hb dX10_round_99 (by decide) ?_
                refine lv_iinc (v := (u7 + 1)) (lv' := [(2, .int (u7 + 1)), (0, .ref (eA E 0)), (1, .int p1)]) hx hb dX10_round_119 hl (k := 2) rfl rfl (by decide) rfl (fun ls hl => ?_)
                refine lv_goto (tgt := 34) hx hb dX10_round_122 (by decide) ?_
                cases h
                exact hT1 rfl _ _ _ hV (lv_sub hl [1, 2, 0] rfl)
      · have hV : AtW E (wM E σ22 ++ X) A s H locs := hV
        have hl : lv_has ls 4 [(0, .ref (eA E 0)), (1, .int p1)] := hl
        refine lv_aload_n hx hb dX10_round_125 rfl (lv_at hl 0 rfl) ?_
        refine lv_iconst (v := 0) hx hb dX10_round_126 (by decide) ?_
        refine bd_e h (fun σ23 hq h => ?_)
        refine P_X10_blind cx hV (Or.inl rfl) hq mk_6_147 dX10_round_127 (fun H locs hV => ?_)
        refine lv_iload_n hx hb dX10_round_130 rfl (lv_at hl 1 rfl) ?_
        refine lv_if_ne (tgt := 141) hx hb dX10_round_131 (by decide) (fun hc => ?_) (fun hc => ?_)
        · have h := ifn hc h
          refine lv_aload_n hx hb dX10_round_141 rfl (lv_at hl 0 rfl) ?_
          refine G_X10_bestWaited cx hV mk_6_153 dX10_round_142 ?_
          obtain ⟨h1, h2⟩ := Prod.mk.inj (Option.some.inj h)
          subst h1
          subst h2
          subst hQ
          exact r_ireti cx hr hlk hV dX10_round_145
        · have h := ifp hc h
          refine lv_aload_n hx hb dX10_round_134 rfl (lv_at hl 0 rfl) ?_
          refine G_X10_bestRound cx hV mk_6_152 dX10_round_135 ?_
          refine lv_goto (tgt := 145) hx hb dX10_round_138 (by decide) ?_
          obtain ⟨h1, h2⟩ := Prod.mk.inj (Option.some.inj h)
          subst h1
          subst h2
          subst hQ
          exact r_ireti cx hr hlk hV dX10_round_145
    · have h := ifp hc h
      refine lv_iconst (v := 0) hx hb dX10_round_20 (by decide) ?_
      obtain ⟨h1, h2⟩ := Prod.mk.inj (Option.some.inj h)
      subst h1
      subst h2
      subst hQ
      exact r_ireti cx hr hlk hV dX10_round_21
  rw [hH, hlocs] at goal
  exact goal
theorem k_X10_round {p : Program} {l : Launch} {e : Env} {R : Room} {s : State} {m : MethodId} {a : Array Value} {below : List Frame} {meth : Method} {c : Code} {H : Heap} {locs : List Loc} {cells slots : Nat} {Q : State → Prop} {cc : ByteArray} {own : String} {nL pc : Nat} {ls : Array Slot} {rest : List Value} {A : Nat → Prop} {E : EV} {X : va_W} {σ : St} {p1 : Int32} {rv : Int32} {σf : St} (h : x_X10_round p1 σ = some (rv, σf)) (cx : CallFix p m c cc nL s a TBL own) (hV : AtW E (wM E σ ++ X) A s H locs) {idx : Nat} (w1 : Cond.methodLink own idx yX10_round ∈ TBL) (hR : (rm_X10_round).frames + 1 ≤ R.frames ∧ 8 + (4 + 11) + (rm_X10_round).locals ≤ R.locals) (hcs : cells ≤ R.cells ∧ slots ≤ R.slots) (hls : ls.size = nL) (hcat : (rest.map fun v => v.category).sum ≤ 8) (d : decode cc pc = .ok (.invokevirtual idx, 3)) (kk : ∀ (H1 : Heap) (locs1 : List Loc), AtW E (wM E σf ++ X) A s H1 locs1 → W p l e R s m a below meth c H1 locs1 cells slots Q (F0 m (pc + 3) ls (.int rv :: rest))) : W p l e R s m a below meth c H locs cells slots Q (F0 m pc ls (.int p1 :: .ref (eA E 0) :: rest)) :=
  r_calli (n := 1) (As := [.int p1]) (q0 := 0) (ci := 10) (qq := (RX10, TX10, 64)) (c_X10_round h) wM_fst rfl rfl mk_8_89 mk_8_90 mk_1_11 mk_8_91 (by decide +kernel) rfl ⟨rfl, rfl⟩ cx hV w1 hR hcs hls rfl hcat d kk
def x_X10_basket_L43 (w1 : Int32) (w2 : Int32) (u7 : Int32) (σ8 : St) : Option (Bool × (Int32 × St)) :=
  (if w1 < u7 then
  some (false, (u7, σ8))
  else
  bd (stJ σ8 2 1000 u7 (0 : Int64)) fun σ9 =>
  some (true, ((u7 + 1), σ9)))
def x_X10_basket_L126 (w1 : Int32) (w2 : Int32) (u12 : Int32) (v15 : Int32) (w17 : Int64) (u18 : Int32) (σ19 : St) : Option (Bool × (Int32 × St)) :=
  (if u18 < v15 then
  some (false, (u18, σ19))
  else
  bd (ldJ (gJ σ19 2) 1000 (u18 - v15)) fun v20 =>
  bd (ldJ (gJ σ19 2) 1000 u18) fun v21 =>
  (if (lg_cmp (v20 + w17) v21) ≤ 0 then
  some (true, ((u18 + (-1)), σ19))
  else
  bd (ldJ (gJ σ19 2) 1000 (u18 - v15)) fun v22 =>
  bd (stJ σ19 2 1000 u18 (v22 + w17)) fun σ23 =>
  some (true, ((u18 + (-1)), σ23))))
def x_X10_basket_L63 (w1 : Int32) (w2 : Int32) (u12 : Int32) (σ13 : St) : Option (Bool × (Int32 × St)) :=
  (if (gI σ13 9) ≤ u12 then
  some (false, (u12, σ13))
  else
  bd (ldI (gA σ13 7) (lenM 7) u12) fun v14 =>
  (if v14 = (-1) then
  some (true, ((u12 + 1), σ13))
  else
  bd (ldI (gA σ13 3) (lenM 3) ((3 * u12) + 1)) fun v15 =>
  bd (ldI (gA σ13 3) (lenM 3) ((3 * u12) + 2)) fun v16 =>
  bd (some ((((Int32.toInt64 v16) <<< ((Int32.toInt64 40) &&& 63)) - ((Int32.toInt64 v15) <<< ((Int32.toInt64 26) &&& 63))) - ((1 : Int64) <<< ((Int32.toInt64 u12) &&& 63)))) fun w17 =>
  bd2 (lp (fun v : (Int32 × St) => x_X10_basket_L126 w1 w2 u12 v15 w17 v.1 v.2) FU (w1, σ13)) fun z24 σ25 =>
  some (true, ((u12 + 1), σ25))))
def x_X10_basket_b31 (w1 : Int32) (w2 : Int32) (w3 : Int32) (σ4 : St) : Option (Int32 × St) :=
  bd2 (x_X10_may w3 1 2 σ4) fun v5 σ6 =>
  (if v5 = 0 then
  some (0, σ6)
  else
  bd2 (lp (fun v : (Int32 × St) => x_X10_basket_L43 w1 w2 v.1 v.2) FU (0, σ6)) fun z10 σ11 =>
  bd2 (lp (fun v : (Int32 × St) => x_X10_basket_L63 w1 w2 v.1 v.2) FU (0, σ11)) fun z26 σ27 =>
  bd (ldJ (gJ σ27 2) 1000 w1) fun v28 =>
  (if w2 = 0 then
  some ((Int64.toInt32 ((v28 + (549755813888 : Int64)) >>> ((Int32.toInt64 40) &&& 63))), σ27)
  else
  (if w2 = 1 then
  some ((Int64.toInt32 (((((v28 + (549755813888 : Int64)) >>> ((Int32.toInt64 40) &&& 63)) <<< ((Int32.toInt64 40) &&& 63)) - v28) >>> ((Int32.toInt64 26) &&& 63))), σ27)
  else
  some ((Int64.toInt32 (((((v28 + (549755813888 : Int64)) >>> ((Int32.toInt64 40) &&& 63)) <<< ((Int32.toInt64 40) &&& 63)) - v28) &&& (67108863 : Int64))), σ27))))
def x_X10_basket_b30 (w29 : Int32) (w30 : Int32) (σ31 : St) : Option (Int32 × St) :=
  x_X10_basket_b31 w29 w30 0 σ31
def x_X10_basket (p1 : Int32) (p2 : Int32) (σ : St) : Option (Int32 × St) :=
  bd (some (sI σ 0 0)) fun σ32 =>
  bd (x_X10_within p1 0 999) fun v33 =>
  (if v33 = 0 then
  x_X10_basket_b30 p1 p2 σ32
  else
  bd (x_X10_within p2 0 2) fun v34 =>
  (if v34 = 0 then
  x_X10_basket_b30 p1 p2 σ32
  else
  x_X10_basket_b31 p1 p2 1 σ32))
abbrev rm_X10_basket : Room := { frames := 1, cells := 0, slots := 0, locals := 23 }
set_option maxHeartbeats 4000000 in
set_option maxRecDepth 100000 in
theorem c_X10_basket {l : Launch} {E : EV} {X : va_W} {σ : St} {p1 : Int32} {p2 : Int32} {rv : Int32} {σf : St} (h : x_X10_basket p1 p2 σ = some (rv, σf)) : CM l yX10_basket cX10_basket 9 (some .int) rm_X10_basket [.ref (eA E 0), .int p1, .int p2] E (wM E σ ++ X) (wM E σf ++ X) (qI rv) := by
  refine CM.start (by decide) (Nat.le_of_ble_eq_true rfl) (fun p e s m a below meth c A ls cx hr hlk hV hl => ?_)
  have cx : CallFix p m c cX10_basket 9 s a TBL RX10 := cx
  have hx := cx.1
  have hb := cx.2.1
  have hl : lv_has ls 9 [(0, .ref (eA E 0)), (1, .int p1), (2, .int p2)] := hl
  generalize hQ : EQ E (wM E σf ++ X) (qI rv) A s a below = QQ
  obtain ⟨H, hH⟩ : ∃ H, H = s.heap := ⟨_, rfl⟩
  obtain ⟨locs, hlocs⟩ : ∃ z, z = ([] : List Loc) := ⟨_, rfl⟩
  have hV : AtW E (wM E σ ++ X) A s H locs := by rw [hH, hlocs]; exact hV
  have goal : W p l e rm_X10_basket s m a below meth c H locs 0 0 QQ (F0 m 0 ls []) := by
    unfold x_X10_basket at h
    have hj31 : ∀ (w1 : Int32) (w2 : Int32) (w3 : Int32) (σ4 : St) (H : Heap) (locs : List Loc) (ls : Array Slot), x_X10_basket_b31 w1 w2 w3 σ4 = some (rv, σf) → AtW E (wM E σ4 ++ X) A s H locs → lv_has ls 9 [(0, .ref (eA E 0)), (1, .int w1), (2, .int w2)] → W p l e rm_X10_basket s m a below meth c H locs 0 0 QQ (F0 m 31 ls [.int w3, .ref (eA E 0)]) := by
      intro w1 w2 w3 σ4 H locs ls h hV hl
      unfold x_X10_basket_b31 at h
      refine lv_iconst (v := 1) hx hb dX10_basket_31 (by decide) ?_
      refine lv_iconst (v := 2) hx hb dX10_basket_32 (by decide) ?_
      refine bd2_e h (fun v5 σ6 hq h => ?_)
      refine k_X10_may hq cx hV mk_7_62 ⟨Nat.le_of_ble_eq_true rfl, Nat.le_of_ble_eq_true rfl⟩ ⟨Nat.zero_le _, Nat.zero_le _⟩ hl.1 (Nat.le_of_ble_eq_true rfl) dX10_basket_33 (fun H locs hV => ?_)
      refine lv_if_ne (tgt := 41) hx hb dX10_basket_36 (by decide) (fun hc => ?_) (fun hc => ?_)
      · have h := ifn hc h
        refine lv_iconst (v := 0) hx hb dX10_basket_41 (by decide) ?_
        refine lv_istore_n (lv' := [(3, .int 0), (0, .ref (eA E 0)), (1, .int w1), (2, .int w2)]) hx hb dX10_basket_42 rfl hl (by decide) rfl (fun ls hl => ?_)
        refine bd2_e h (fun z10 σ11 ho h => ?_)
        refine (lp_rule (G := (fun v : (Int32 × St) => ∀ (H : Heap) (locs : List Loc) (ls : Array Slot), AtW E (wM E v.2 ++ X) A s H locs → lv_has ls 9 [(0, .ref (eA E 0)), (1, .int w1), (2, .int w2), (3, .int v.1)] → W p l e rm_X10_basket s m a below meth c H locs 0 0 QQ (F0 m 43 ls []))) (K := (fun v : (Int32 × St) => ∀ (H : Heap) (locs : List Loc) (ls : Array Slot), AtW E (wM E v.2 ++ X) A s H locs → lv_has ls 9 [(0, .ref (eA E 0)), (1, .int w1), (2, .int w2)] → W p l e rm_X10_basket s m a below meth c H locs 0 0 QQ (F0 m 61 ls []))) (fun v b1 y1 h hT1 hF1 => ?_) ho (fun H locs ls hV hl => ?_)) _ _ _ hV (lv_sub hl [1, 2, 3, 0] rfl)
        · obtain ⟨u7, σ8⟩ := v
          have h : x_X10_basket_L43 w1 w2 u7 σ8 = some (b1, y1) := h
          intro H locs ls hV hl
          have hV : AtW E (wM E σ8 ++ X) A s H locs := hV
          have hl : lv_has ls 9 [(0, .ref (eA E 0)), (1, .int w1), (2, .int w2), (3, .int u7)] := hl
          unfold x_X10_basket_L43 at h
          refine lv_iload_n hx hb dX10_basket_43 rfl (lv_at hl 3 rfl) ?_
          refine lv_iload_n hx hb dX10_basket_44 rfl (lv_at hl 1 rfl) ?_
          refine lv_icmp_gt (tgt := 61) hx hb dX10_basket_45 (by decide) (fun hc => ?_) (fun hc => ?_)
          · have h := ifp hc h
            cases h
            exact hF1 rfl _ _ _ hV (lv_sub hl [0, 1, 2] rfl)
          · have h := ifn hc h
            refine lv_aload_n hx hb dX10_basket_48 rfl (lv_at hl 0 rfl) ?_
            refine G_X10_basket cx hV mk_6_154 dX10_basket_49 ?_
            refine lv_iload_n hx hb dX10_basket_52 rfl (lv_at hl 3 rfl) ?_
            refine lv_lconst (v := 0) hx hb dX10_basket_53 (by decide) ?_
            refine bd_e h (fun σ9 hq h => ?_)
            refine R_M2_last cx hV hq dX10_basket_54 (fun H locs hV => ?_)
            refine lv_iinc (v := (u7 + 1)) (lv' := [(3, .int (u7 + 1)), (0, .ref (eA E 0)), (1, .int w1), (2, .int w2)]) hx hb dX10_basket_55 hl (k := 3) rfl rfl (by decide) rfl (fun ls hl => ?_)
            refine lv_goto (tgt := 43) hx hb dX10_basket_58 (by decide) ?_
            cases h
            exact hT1 rfl _ _ _ hV (lv_sub hl [1, 2, 3, 0] rfl)
        · have hV : AtW E (wM E σ11 ++ X) A s H locs := hV
          have hl : lv_has ls 9 [(0, .ref (eA E 0)), (1, .int w1), (2, .int w2)] := hl
          refine lv_iconst (v := 0) hx hb dX10_basket_61 (by decide) ?_
          refine lv_istore_n (lv' := [(3, .int 0), (0, .ref (eA E 0)), (1, .int w1), (2, .int w2)]) hx hb dX10_basket_62 rfl hl (by decide) rfl (fun ls hl => ?_)
          refine bd2_e h (fun z26 σ27 ho h => ?_)
          refine (lp_rule (G := (fun v : (Int32 × St) => ∀ (H : Heap) (locs : List Loc) (ls : Array Slot), AtW E (wM E v.2 ++ X) A s H locs → lv_has ls 9 [(0, .ref (eA E 0)), (1, .int w1), (2, .int w2), (3, .int v.1)] → W p l e rm_X10_basket s m a below meth c H locs 0 0 QQ (F0 m 63 ls []))) (K := (fun v : (Int32 × St) => ∀ (H : Heap) (locs : List Loc) (ls : Array Slot), AtW E (wM E v.2 ++ X) A s H locs → lv_has ls 9 [(0, .ref (eA E 0)), (1, .int w1), (2, .int w2)] → W p l e rm_X10_basket s m a below meth c H locs 0 0 QQ (F0 m 189 ls []))) (fun v b1 y1 h hT1 hF1 => ?_) ho (fun H locs ls hV hl => ?_)) _ _ _ hV (lv_sub hl [1, 2, 3, 0] rfl)
          · obtain ⟨u12, σ13⟩ := v
            have h : x_X10_basket_L63 w1 w2 u12 σ13 = some (b1, y1) := h
            intro H locs ls hV hl
            have hV : AtW E (wM E σ13 ++ X) A s H locs := hV
            have hl : lv_has ls 9 [(0, .ref (eA E 0)), (1, .int w1), (2, .int w2), (3, .int u12)] := hl
            unfold x_X10_basket_L63 at h
            refine lv_iload_n hx hb dX10_basket_63 rfl (lv_at hl 3 rfl) ?_
            refine lv_aload_n hx hb dX10_basket_64 rfl (lv_at hl 0 rfl) ?_
            refine G_X10_sleeves cx hV mk_6_122 dX10_basket_65 ?_
            refine lv_icmp_ge (tgt := 189) hx hb dX10_basket_68 (by decide) (fun hc => ?_) (fun hc => ?_)
            · have h := ifp hc h
              cases h
              exact hF1 rfl _ _ _ hV (lv_sub hl [0, 1, 2] rfl)
            · have h := ifn hc h
              refine lv_aload_n hx hb dX10_basket_71 rfl (lv_at hl 0 rfl) ?_
              refine G_X10_liesAt cx hV mk_6_112 dX10_basket_72 ?_
              refine lv_iload_n hx hb dX10_basket_75 rfl (lv_at hl 3 rfl) ?_
              refine bd_e h (fun v14 hq h => ?_)
              refine R_M_iald cx hV (by decide) hq dX10_basket_76 ?_
              refine lv_iconst (v := (-1)) hx hb dX10_basket_77 (by decide) ?_
              refine lv_icmp_ne (tgt := 84) hx hb dX10_basket_78 (by decide) (fun hc => ?_) (fun hc => ?_)
              · have h := ifn hc h
                refine lv_aload_n hx hb dX10_basket_84 rfl (lv_at hl 0 rfl) ?_
                refine G_X10_sleeve cx hV mk_6_108 dX10_basket_85 ?_
                refine lv_iconst (v := 3) hx hb dX10_basket_88 (by decide) ?_
                refine lv_iload_n hx hb dX10_basket_89 rfl (lv_at hl 3 rfl) ?_
                refine lv_imul hx hb dX10_basket_90 ?_
                refine lv_iconst (v := 1) hx hb dX10_basket_91 (by decide) ?_
                refine lv_iadd hx hb dX10_basket_92 ?_
                refine bd_e h (fun v15 hq h => ?_)
                refine R_M_iald cx hV (by decide) hq dX10_basket_93 ?_
                refine lv_istore (lv' := [(4, .int v15), (0, .ref (eA E 0)), (1, .int w1), (2, .int w2), (3, .int u12)]) hx hb dX10_basket_94 hl (by decide) rfl (fun ls hl => ?_)
                refine lv_aload_n hx hb dX10_basket_96 rfl (lv_at hl 1 rfl) ?_
                refine G_X10_sleeve cx hV mk_6_108 dX10_basket_97 ?_
                refine lv_iconst (v := 3) hx hb dX10_basket_100 (by decide) ?_
                refine lv_iload_n hx hb dX10_basket_101 rfl (lv_at hl 4 rfl) ?_
                refine lv_imul hx hb dX10_basket_102 ?_
                refine lv_iconst (v := 2) hx hb dX10_basket_103 (by decide) ?_
                refine lv_iadd hx hb dX10_basket_104 ?_
                refine bd_e h (fun v16 hq h => ?_)
                refine R_M_iald cx hV (by decide) hq dX10_basket_105 ?_
                refine lv_i2l (v := (Int32.toInt64 v16)) hx hb dX10_basket_106 rfl ?_
                refine lv_bipush (v := 40) hx hb dX10_basket_107 (by decide) ?_
                refine lv_lshl (v := ((Int32.toInt64 v16) <<< ((Int32.toInt64 40) &&& 63))) hx hb dX10_basket_109 rfl ?_
                refine lv_iload hx hb dX10_basket_110 (lv_at hl 0 rfl) ?_
                refine lv_i2l (v := (Int32.toInt64 v15)) hx hb dX10_basket_112 rfl ?_
                refine lv_bipush (v := 26) hx hb dX10_basket_113 (by decide) ?_
                refine lv_lshl (v := ((Int32.toInt64 v15) <<< ((Int32.toInt64 26) &&& 63))) hx hb dX10_basket_115 rfl ?_
                refine lv_lsub hx hb dX10_basket_116 ?_
                refine lv_lconst (v := 1) hx hb dX10_basket_117 (by decide) ?_
                refine lv_iload_n hx hb dX10_basket_118 rfl (lv_at hl 4 rfl) ?_
                refine lv_lshl (v := ((1 : Int64) <<< ((Int32.toInt64 u12) &&& 63))) hx hb dX10_basket_119 rfl ?_
                refine lv_lsub hx hb dX10_basket_120 ?_
                refine lv_lstore (lv' := [(5, .long ((((Int32.toInt64 v16) <<< ((Int32.toInt64 40) &&& 63)) - ((Int32.toInt64 v15) <<< ((Int32.toInt64 26) &&& 63))) - ((1 : Int64) <<< ((Int32.toInt64 u12) &&& 63)))), (4, .int v15), (0, .ref (eA E 0)), (1, .int w1), (2, .int w2), (3, .int u12)]) hx hb dX10_basket_121 hl (by decide) rfl (fun ls hl => ?_)
                refine lv_iload_n hx hb dX10_basket_123 rfl (lv_at hl 3 rfl) ?_
                refine lv_istore (lv' := [(7, .int w1), (5, .long ((((Int32.toInt64 v16) <<< ((Int32.toInt64 40) &&& 63)) - ((Int32.toInt64 v15) <<< ((Int32.toInt64 26) &&& 63))) - ((1 : Int64) <<< ((Int32.toInt64 u12) &&& 63)))), (4, .int v15), (0, .ref (eA E 0)), (1, .int w1), (2, .int w2), (3, .int u12)]) hx hb dX10_basket_124 hl (by decide) rfl (fun ls hl => ?_)
                refine bd_e h (fun w17 hq h => ?_)
                have hq := Option.some.inj hq
                have hl : lv_has ls 9 [(7, .int w1), (5, .long w17), (4, .int v15), (0, .ref (eA E 0)), (1, .int w1), (2, .int w2), (3, .int u12)] := by rw [← hq]; exact hl
                refine bd2_e h (fun z24 σ25 ho h => ?_)
                refine (lp_rule (G := (fun v : (Int32 × St) => ∀ (H : Heap) (locs : List Loc) (ls : Array Slot), AtW E (wM E v.2 ++ X) A s H locs → lv_has ls 9 [(0, .ref (eA E 0)), (1, .int w1), (2, .int w2), (3, .int u12), (4, .int v15), (5, .long w17), (7, .int v.1)] → W p l e rm_X10_basket s m a below meth c H locs 0 0 QQ (F0 m 126 ls []))) (K := (fun v : (Int32 × St) => ∀ (H : Heap) (locs : List Loc) (ls : Array Slot), AtW E (wM E v.2 ++ X) A s H locs → lv_has ls 9 [(0, .ref (eA E 0)), (1, .int w1), (2, .int w2), (3, .int u12)] → W p l e rm_X10_basket s m a below meth c H locs 0 0 QQ (F0 m 183 ls []))) (fun v b2 y2 h hT2 hF2 => ?_) ho (fun H locs ls hV hl => ?_)) _ _ _ hV (lv_sub hl [3, 4, 5, 6, 2, 1, 0] rfl)
                · obtain ⟨u18, σ19⟩ := v
                  have h : x_X10_basket_L126 w1 w2 u12 v15 w17 u18 σ19 = some (b2, y2) := h
                  intro H locs ls hV hl
                  have hV : AtW E (wM E σ19 ++ X) A s H locs := hV
                  have hl : lv_has ls 9 [(0, .ref (eA E 0)), (1, .int w1), (2, .int w2), (3, .int u12), (4, .int v15), (5, .long w17), (7, .int u18)] := hl
                  unfold x_X10_basket_L126 at h
                  refine lv_iload hx hb dX10_basket_126 (lv_at hl 6 rfl) ?_
                  refine lv_iload hx hb dX10_basket_128 (lv_at hl 4 rfl) ?_
                  refine lv_icmp_lt (tgt := 183) hx hb dX10_basket_130 (by decide) (fun hc => ?_) (fun hc => ?_)
                  · have h := ifp hc h
                    cases h
                    exact hF2 rfl _ _ _ hV (lv_sub hl [0, 1, 2, 3] rfl)
                  · have h := ifn hc h
                    refine lv_aload_n hx hb dX10_basket_133 rfl (lv_at hl 0 rfl) ?_
                    refine G_X10_basket cx hV mk_6_154 dX10_basket_134 ?_
                    refine lv_iload hx hb dX10_basket_137 (lv_at hl 6 rfl) ?_
                    refine lv_iload hx hb dX10_basket_139 (lv_at hl 4 rfl) ?_
                    refine lv_isub hx hb dX10_basket_141 ?_
                    refine bd_e h (fun v20 hq h => ?_)
                    refine R_M2_lald cx hV hq dX10_basket_142 ?_
                    refine lv_lload hx hb dX10_basket_143 (lv_at hl 5 rfl) ?_
                    refine lv_ladd hx hb dX10_basket_145 ?_
                    refine lv_aload_n hx hb dX10_basket_146 rfl (lv_at hl 0 rfl) ?_
                    refine G_X10_basket cx hV mk_6_154 dX10_basket_147 ?_
                    refine lv_iload hx hb dX10_basket_150 (lv_at hl 6 rfl) ?_
                    refine bd_e h (fun v21 hq h => ?_)
                    refine R_M2_lald cx hV hq dX10_basket_152 ?_
                    refine W.lcmp hx hb dX10_basket_153 ?_
                    refine lv_if_le (tgt := 177) hx hb dX10_basket_154 (by decide) (fun hc => ?_) (fun hc => ?_)
                    · have h := ifp hc h
                      refine lv_iinc (v := (u18 + (-1))) (lv' := [(7, .int (u18 + (-1))), (0, .ref (eA E 0)), (1, .int w1), (2, .int w2), (3, .int u12), (4, .int v15), (5, .long w17)]) hx hb dX10_basket_177 hl (k := 6) rfl rfl (by decide) rfl (fun ls hl => ?_)
                      refine lv_goto (tgt := 126) hx hb dX10_basket_180 (by decide) ?_
                      cases h
                      exact hT2 rfl _ _ _ hV (lv_sub hl [1, 2, 3, 4, 5, 6, 0] rfl)
                    · have h := ifn hc h
                      refine lv_aload_n hx hb dX10_basket_157 rfl (lv_at hl 0 rfl) ?_
                      refine G_X10_basket cx hV mk_6_154 dX10_basket_158 ?_
                      refine lv_iload hx hb dX10_basket_161 (lv_at hl 6 rfl) ?_
                      refine lv_aload_n hx hb dX10_basket_163 rfl (lv_at hl 0 rfl) ?_
                      refine G_X10_basket cx hV mk_6_154 dX10_basket_164 ?_
                      refine lv_iload hx hb dX10_basket_167 (lv_at hl 6 rfl) ?_
                      refine lv_iload hx hb dX10_basket_169 (lv_at hl 4 rfl) ?_
                      refine lv_isub hx hb dX10_basket_171 ?_
                      refine bd_e h (fun v22 hq h => ?_)
                      refine R_M2_lald cx hV hq dX10_basket_172 ?_
                      refine lv_lload hx hb dX10_basket_173 (lv_at hl 5 rfl) ?_
                      refine lv_ladd hx hb dX10_basket_175 ?_
                      refine bd_e h (fun σ23 hq h => ?_)
                      refine R_M2_last cx hV hq dX10_basket_176 (fun H locs hV => ?_)
                      refine lv_iinc (v := (u18 + (-1))) (lv' := [(7, .int (u18 + (-1))), (0, .ref (eA E 0)), (1, .int w1), (2, .int w2), (3, .int u12), (4, .int v15), (5, .long w17)]) hx hb dX10_basket_177 hl (k := 6) rfl rfl (by decide) rfl (fun ls hl => ?_)
                      refine lv_goto (tgt := 126) hx hb dX10_basket_180 (by decide) ?_
                      cases h
                      exact hT2 rfl _ _ _ hV (lv_sub hl [1, 2, 3, 4, 5, 6, 0] rfl)
                · have hV : AtW E (wM E σ25 ++ X) A s H locs := hV
                  have hl : lv_has ls 9 [(0, .ref (eA E 0)), (1, .int w1), (2, .int w2), (3, .int u12)] := hl
                  refine lv_iinc (v := (u12 + 1)) (lv' := [(3, .int (u12 + 1)), (0, .ref (eA E 0)), (1, .int w1), (2, .int w2)]) hx hb dX10_basket_183 hl (k := 3) rfl rfl (by decide) rfl (fun ls hl => ?_)
                  refine lv_goto (tgt := 63) hx hb dX10_basket_186 (by decide) ?_
                  cases h
                  exact hT1 rfl _ _ _ hV (lv_sub hl [1, 2, 3, 0] rfl)
              · have h := ifp hc h
                refine lv_goto (tgt := 183) hx hb dX10_basket_81 (by decide) ?_
                refine lv_iinc (v := (u12 + 1)) (lv' := [(3, .int (u12 + 1)), (0, .ref (eA E 0)), (1, .int w1), (2, .int w2)]) hx hb dX10_basket_183 hl (k := 3) rfl rfl (by decide) rfl (fun ls hl => ?_)
                refine lv_goto (tgt := 63) hx hb dX10_basket_186 (by decide) ?_
                cases h
                exact hT1 rfl _ _ _ hV (lv_sub hl [1, 2, 3, 0] rfl)
          · have hV : AtW E (wM E σ27 ++ X) A s H locs := hV
            have hl : lv_has ls 9 [(0, .ref (eA E 0)), (1, .int w1), (2, .int w2)] := hl
            refine lv_aload_n hx hb dX10_basket_189 rfl (lv_at hl 0 rfl) ?_
            refine G_X10_basket cx hV mk_6_154 dX10_basket_190 ?_
            refine lv_iload_n hx hb dX10_basket_193 rfl (lv_at hl 1 rfl) ?_
            refine bd_e h (fun v28 hq h => ?_)
            refine R_M2_lald cx hV hq dX10_basket_194 ?_
            refine lv_lstore_n (lv' := [(3, .long v28), (0, .ref (eA E 0)), (1, .int w1), (2, .int w2)]) hx hb dX10_basket_195 rfl hl (by decide) rfl (fun ls hl => ?_)
            refine lv_lload_n hx hb dX10_basket_196 rfl (lv_at hl 0 rfl) ?_
            refine lv_ldc2 (v := 549755813888) hx hb cx.2.2.2.1 (cx.2.2.2.2 _ mk_8_96) dX10_basket_197 ?_
            refine lv_ladd hx hb dX10_basket_200 ?_
            refine lv_bipush (v := 40) hx hb dX10_basket_201 (by decide) ?_
            refine lv_lshr (v := ((v28 + (549755813888 : Int64)) >>> ((Int32.toInt64 40) &&& 63))) hx hb dX10_basket_203 rfl ?_
            refine lv_lstore (lv' := [(5, .long ((v28 + (549755813888 : Int64)) >>> ((Int32.toInt64 40) &&& 63))), (3, .long v28), (0, .ref (eA E 0)), (1, .int w1), (2, .int w2)]) hx hb dX10_basket_204 hl (by decide) rfl (fun ls hl => ?_)
            refine lv_lload hx hb dX10_basket_206 (lv_at hl 0 rfl) ?_
            refine lv_bipush (v := 40) hx hb dX10_basket_208 (by decide) ?_
            refine lv_lshl (v := (((v28 + (549755813888 : Int64)) >>> ((Int32.toInt64 40) &&& 63)) <<< ((Int32.toInt64 40) &&& 63))) hx hb dX10_basket_210 rfl ?_
            refine lv_lload_n hx hb dX10_basket_211 rfl (lv_at hl 1 rfl) ?_
            refine lv_lsub hx hb dX10_basket_212 ?_
            refine lv_lstore (lv' := [(7, .long ((((v28 + (549755813888 : Int64)) >>> ((Int32.toInt64 40) &&& 63)) <<< ((Int32.toInt64 40) &&& 63)) - v28)), (5, .long ((v28 + (549755813888 : Int64)) >>> ((Int32.toInt64 40) &&& 63))), (3, .long v28), (0, .ref (eA E 0)), (1, .int w1), (2, .int w2)]) hx hb dX10_basket_213 hl (by decide) rfl (fun ls hl => ?_)
            refine lv_iload_n hx hb dX10_basket_215 rfl (lv_at hl 5 rfl) ?_
            refine lv_if_ne (tgt := 225) hx hb dX10_basket_216 (by decide) (fun hc => ?_) (fun hc => ?_)
            · have h := ifn hc h
              refine lv_iload_n hx hb dX10_basket_225 rfl (lv_at hl 5 rfl) ?_
              refine lv_iconst (v := 1) hx hb dX10_basket_226 (by decide) ?_
              refine lv_icmp_ne (tgt := 239) hx hb dX10_basket_227 (by decide) (fun hc => ?_) (fun hc => ?_)
              · have h := ifn hc h
                refine lv_lload hx hb dX10_basket_239 (lv_at hl 0 rfl) ?_
                refine lv_ldc2 (v := 67108863) hx hb cx.2.2.2.1 (cx.2.2.2.2 _ mk_8_97) dX10_basket_241 ?_
                refine lv_land hx hb dX10_basket_244 ?_
                refine lv_l2i (v := (Int64.toInt32 (((((v28 + (549755813888 : Int64)) >>> ((Int32.toInt64 40) &&& 63)) <<< ((Int32.toInt64 40) &&& 63)) - v28) &&& (67108863 : Int64)))) hx hb dX10_basket_245 rfl ?_
                obtain ⟨h1, h2⟩ := Prod.mk.inj (Option.some.inj h)
                subst h1
                subst h2
                subst hQ
                exact r_ireti cx hr hlk hV dX10_basket_246
              · have h := ifp hc h
                refine lv_lload hx hb dX10_basket_230 (lv_at hl 0 rfl) ?_
                refine lv_bipush (v := 26) hx hb dX10_basket_232 (by decide) ?_
                refine lv_lshr (v := (((((v28 + (549755813888 : Int64)) >>> ((Int32.toInt64 40) &&& 63)) <<< ((Int32.toInt64 40) &&& 63)) - v28) >>> ((Int32.toInt64 26) &&& 63))) hx hb dX10_basket_234 rfl ?_
                refine lv_l2i (v := (Int64.toInt32 (((((v28 + (549755813888 : Int64)) >>> ((Int32.toInt64 40) &&& 63)) <<< ((Int32.toInt64 40) &&& 63)) - v28) >>> ((Int32.toInt64 26) &&& 63)))) hx hb dX10_basket_235 rfl ?_
                refine lv_goto (tgt := 246) hx hb dX10_basket_236 (by decide) ?_
                obtain ⟨h1, h2⟩ := Prod.mk.inj (Option.some.inj h)
                subst h1
                subst h2
                subst hQ
                exact r_ireti cx hr hlk hV dX10_basket_246
            · have h := ifp hc h
              refine lv_lload hx hb dX10_basket_219 (lv_at hl 1 rfl) ?_
              refine lv_l2i (v := (Int64.toInt32 ((v28 + (549755813888 : Int64)) >>> ((Int32.toInt64 40) &&& 63)))) hx hb dX10_basket_221 rfl ?_
              refine lv_goto (tgt := 246) hx hb dX10_basket_222 (by decide) ?_
              obtain ⟨h1, h2⟩ := Prod.mk.inj (Option.some.inj h)
              subst h1
              subst h2
              subst hQ
              exact r_ireti cx hr hlk hV dX10_basket_246
      · have h := ifp hc h
        refine lv_iconst (v := 0) hx hb dX10_basket_39 (by decide) ?_
        obtain ⟨h1, h2⟩ := Prod.mk.inj (Option.some.inj h)
        subst h1
        subst h2
        subst hQ
        exact r_ireti cx hr hlk hV dX10_basket_40
    have hj30 : ∀ (w29 : Int32) (w30 : Int32) (σ31 : St) (H : Heap) (locs : List Loc) (ls : Array Slot), x_X10_basket_b30 w29 w30 σ31 = some (rv, σf) → AtW E (wM E σ31 ++ X) A s H locs → lv_has ls 9 [(0, .ref (eA E 0)), (1, .int w29), (2, .int w30)] → W p l e rm_X10_basket s m a below meth c H locs 0 0 QQ (F0 m 30 ls [.ref (eA E 0)]) := by
      intro w29 w30 σ31 H locs ls h hV hl
      unfold x_X10_basket_b30 at h
      refine lv_iconst (v := 0) hx hb dX10_basket_30 (by decide) ?_
      exact hj31 w29 w30 0 σ31 _ _ _ h hV (lv_sub hl [0, 1, 2] rfl)
    refine lv_aload_n hx hb dX10_basket_0 rfl (lv_at hl 0 rfl) ?_
    refine lv_iconst (v := 0) hx hb dX10_basket_1 (by decide) ?_
    refine bd_e h (fun σ32 hq h => ?_)
    refine P_X10_thrown cx hV hq mk_6_97 dX10_basket_2 (fun H locs hV => ?_)
    refine lv_aload_n hx hb dX10_basket_5 rfl (lv_at hl 0 rfl) ?_
    refine lv_iload_n hx hb dX10_basket_6 rfl (lv_at hl 1 rfl) ?_
    refine lv_iconst (v := 0) hx hb dX10_basket_7 (by decide) ?_
    refine lv_sipush (v := 999) hx hb dX10_basket_8 (by decide) ?_
    refine bd_e h (fun v33 hq h => ?_)
    refine k_X10_within hq cx hV mk_7_141 ⟨Nat.le_of_ble_eq_true rfl, Nat.le_of_ble_eq_true rfl⟩ ⟨Nat.zero_le _, Nat.zero_le _⟩ hl.1 (Nat.le_of_ble_eq_true rfl) dX10_basket_11 (fun H locs hV => ?_)
    refine lv_if_eq (tgt := 30) hx hb dX10_basket_14 (by decide) (fun hc => ?_) (fun hc => ?_)
    · have h := ifp hc h
      exact hj30 p1 p2 σ32 _ _ _ h hV (lv_sub hl [0, 1, 2] rfl)
    · have h := ifn hc h
      refine lv_iload_n hx hb dX10_basket_17 rfl (lv_at hl 2 rfl) ?_
      refine lv_iconst (v := 0) hx hb dX10_basket_18 (by decide) ?_
      refine lv_iconst (v := 2) hx hb dX10_basket_19 (by decide) ?_
      refine bd_e h (fun v34 hq h => ?_)
      refine k_X10_within hq cx hV mk_7_141 ⟨Nat.le_of_ble_eq_true rfl, Nat.le_of_ble_eq_true rfl⟩ ⟨Nat.zero_le _, Nat.zero_le _⟩ hl.1 (Nat.le_of_ble_eq_true rfl) dX10_basket_20 (fun H locs hV => ?_)
      refine lv_if_eq (tgt := 30) hx hb dX10_basket_23 (by decide) (fun hc => ?_) (fun hc => ?_)
      · have h := ifp hc h
        exact hj30 p1 p2 σ32 _ _ _ h hV (lv_sub hl [0, 1, 2] rfl)
      · have h := ifn hc h
        refine lv_iconst (v := 1) hx hb dX10_basket_26 (by decide) ?_
        refine lv_goto (tgt := 31) hx hb dX10_basket_27 (by decide) ?_
        exact hj31 p1 p2 1 σ32 _ _ _ h hV (lv_sub hl [0, 1, 2] rfl)
  rw [hH, hlocs] at goal
  exact goal
theorem k_X10_basket {p : Program} {l : Launch} {e : Env} {R : Room} {s : State} {m : MethodId} {a : Array Value} {below : List Frame} {meth : Method} {c : Code} {H : Heap} {locs : List Loc} {cells slots : Nat} {Q : State → Prop} {cc : ByteArray} {own : String} {nL pc : Nat} {ls : Array Slot} {rest : List Value} {A : Nat → Prop} {E : EV} {X : va_W} {σ : St} {p1 : Int32} {p2 : Int32} {rv : Int32} {σf : St} (h : x_X10_basket p1 p2 σ = some (rv, σf)) (cx : CallFix p m c cc nL s a TBL own) (hV : AtW E (wM E σ ++ X) A s H locs) {idx : Nat} (w1 : Cond.methodLink own idx yX10_basket ∈ TBL) (hR : (rm_X10_basket).frames + 1 ≤ R.frames ∧ 8 + (9 + 11) + (rm_X10_basket).locals ≤ R.locals) (hcs : cells ≤ R.cells ∧ slots ≤ R.slots) (hls : ls.size = nL) (hcat : (rest.map fun v => v.category).sum ≤ 8) (d : decode cc pc = .ok (.invokevirtual idx, 3)) (kk : ∀ (H1 : Heap) (locs1 : List Loc), AtW E (wM E σf ++ X) A s H1 locs1 → W p l e R s m a below meth c H1 locs1 cells slots Q (F0 m (pc + 3) ls (.int rv :: rest))) : W p l e R s m a below meth c H locs cells slots Q (F0 m pc ls (.int p2 :: .int p1 :: .ref (eA E 0) :: rest)) :=
  r_calli (n := 2) (As := [.int p1, .int p2]) (q0 := 0) (ci := 10) (qq := (RX10, TX10, 64)) (c_X10_basket h) wM_fst rfl rfl mk_8_93 mk_8_94 mk_1_11 mk_8_95 (by decide +kernel) rfl ⟨rfl, rfl⟩ cx hV w1 hR hcs hls rfl hcat d kk
def x_X10_sort_L9 (u2 : Int32) (u3 : Int32) (σ4 : St) : Option (Bool × (Int32 × Int32 × St)) :=
  (if (gI σ4 9) ≤ u3 then
  some (false, (u2, u3, σ4))
  else
  bd (ldI (gA σ4 7) (lenM 7) u3) fun v5 =>
  (if v5 = (-1) then
  some (true, (u2, (u3 + 1), σ4))
  else
  bd (ldI (gA σ4 7) (lenM 7) u3) fun v6 =>
  bd (x_X10_own u3 σ4) fun v7 =>
  (if v6 = v7 then
  some (true, (u2, (u3 + 1), σ4))
  else
  bd (x_X10_goesOut u3 σ4) fun σ8 =>
  bd (x_X10_own u3 σ8) fun v9 =>
  bd (x_X10_comesTo v9 u3 σ8) fun σ10 =>
  some (true, ((u2 + 1), (u3 + 1), σ10)))))
def x_X10_sort (σ : St) : Option (Int32 × St) :=
  bd (some (sI σ 0 0)) fun σ1 =>
  bd3 (lp (fun v : (Int32 × Int32 × St) => x_X10_sort_L9 v.1 v.2.1 v.2.2) FU (0, 0, σ1)) fun z11 z12 σ13 =>
  some (z11, σ13)
abbrev rm_X10_sort : Room := { frames := 2, cells := 0, slots := 0, locals := 46 }
set_option maxHeartbeats 4000000 in
set_option maxRecDepth 100000 in
theorem c_X10_sort {l : Launch} {E : EV} {X : va_W} {σ : St} {rv : Int32} {σf : St} (h : x_X10_sort σ = some (rv, σf)) : CM l yX10_sort cX10_sort 3 (some .int) rm_X10_sort [.ref (eA E 0)] E (wM E σ ++ X) (wM E σf ++ X) (qI rv) := by
  refine CM.start (by decide) (Nat.le_of_ble_eq_true rfl) (fun p e s m a below meth c A ls cx hr hlk hV hl => ?_)
  have cx : CallFix p m c cX10_sort 3 s a TBL RX10 := cx
  have hx := cx.1
  have hb := cx.2.1
  have hl : lv_has ls 3 [(0, .ref (eA E 0))] := hl
  generalize hQ : EQ E (wM E σf ++ X) (qI rv) A s a below = QQ
  obtain ⟨H, hH⟩ : ∃ H, H = s.heap := ⟨_, rfl⟩
  obtain ⟨locs, hlocs⟩ : ∃ z, z = ([] : List Loc) := ⟨_, rfl⟩
  have hV : AtW E (wM E σ ++ X) A s H locs := by rw [hH, hlocs]; exact hV
  have goal : W p l e rm_X10_sort s m a below meth c H locs 0 0 QQ (F0 m 0 ls []) := by
    unfold x_X10_sort at h
    refine lv_aload_n hx hb dX10_sort_0 rfl (lv_at hl 0 rfl) ?_
    refine lv_iconst (v := 0) hx hb dX10_sort_1 (by decide) ?_
    refine bd_e h (fun σ1 hq h => ?_)
    refine P_X10_thrown cx hV hq mk_6_97 dX10_sort_2 (fun H locs hV => ?_)
    refine lv_iconst (v := 0) hx hb dX10_sort_5 (by decide) ?_
    refine lv_istore_n (lv' := [(1, .int 0), (0, .ref (eA E 0))]) hx hb dX10_sort_6 rfl hl (by decide) rfl (fun ls hl => ?_)
    refine lv_iconst (v := 0) hx hb dX10_sort_7 (by decide) ?_
    refine lv_istore_n (lv' := [(2, .int 0), (1, .int 0), (0, .ref (eA E 0))]) hx hb dX10_sort_8 rfl hl (by decide) rfl (fun ls hl => ?_)
    refine bd3_e h (fun z11 z12 σ13 ho h => ?_)
    refine (lp_rule (G := (fun v : (Int32 × Int32 × St) => ∀ (H : Heap) (locs : List Loc) (ls : Array Slot), AtW E (wM E v.2.2 ++ X) A s H locs → lv_has ls 3 [(0, .ref (eA E 0)), (1, .int v.1), (2, .int v.2.1)] → W p l e rm_X10_sort s m a below meth c H locs 0 0 QQ (F0 m 9 ls []))) (K := (fun v : (Int32 × Int32 × St) => ∀ (H : Heap) (locs : List Loc) (ls : Array Slot), AtW E (wM E v.2.2 ++ X) A s H locs → lv_has ls 3 [(1, .int v.1)] → W p l e rm_X10_sort s m a below meth c H locs 0 0 QQ (F0 m 68 ls []))) (fun v b1 y1 h hT1 hF1 => ?_) ho (fun H locs ls hV hl => ?_)) _ _ _ hV (lv_sub hl [2, 1, 0] rfl)
    · obtain ⟨u2, u3, σ4⟩ := v
      have h : x_X10_sort_L9 u2 u3 σ4 = some (b1, y1) := h
      intro H locs ls hV hl
      have hV : AtW E (wM E σ4 ++ X) A s H locs := hV
      have hl : lv_has ls 3 [(0, .ref (eA E 0)), (1, .int u2), (2, .int u3)] := hl
      unfold x_X10_sort_L9 at h
      refine lv_iload_n hx hb dX10_sort_9 rfl (lv_at hl 2 rfl) ?_
      refine lv_aload_n hx hb dX10_sort_10 rfl (lv_at hl 0 rfl) ?_
      refine G_X10_sleeves cx hV mk_6_122 dX10_sort_11 ?_
      refine lv_icmp_ge (tgt := 68) hx hb dX10_sort_14 (by decide) (fun hc => ?_) (fun hc => ?_)
      · have h := ifp hc h
        cases h
        exact hF1 rfl _ _ _ hV (lv_sub hl [1] rfl)
      · have h := ifn hc h
        refine lv_aload_n hx hb dX10_sort_17 rfl (lv_at hl 0 rfl) ?_
        refine G_X10_liesAt cx hV mk_6_112 dX10_sort_18 ?_
        refine lv_iload_n hx hb dX10_sort_21 rfl (lv_at hl 2 rfl) ?_
        refine bd_e h (fun v5 hq h => ?_)
        refine R_M_iald cx hV (by decide) hq dX10_sort_22 ?_
        refine lv_iconst (v := (-1)) hx hb dX10_sort_23 (by decide) ?_
        refine lv_icmp_eq (tgt := 62) hx hb dX10_sort_24 (by decide) (fun hc => ?_) (fun hc => ?_)
        · have h := ifp hc h
          refine lv_iinc (v := (u3 + 1)) (lv' := [(2, .int (u3 + 1)), (0, .ref (eA E 0)), (1, .int u2)]) hx hb dX10_sort_62 hl (k := 2) rfl rfl (by decide) rfl (fun ls hl => ?_)
          refine lv_goto (tgt := 9) hx hb dX10_sort_65 (by decide) ?_
          cases h
          exact hT1 rfl _ _ _ hV (lv_sub hl [1, 2, 0] rfl)
        · have h := ifn hc h
          refine lv_aload_n hx hb dX10_sort_27 rfl (lv_at hl 0 rfl) ?_
          refine G_X10_liesAt cx hV mk_6_112 dX10_sort_28 ?_
          refine lv_iload_n hx hb dX10_sort_31 rfl (lv_at hl 2 rfl) ?_
          refine bd_e h (fun v6 hq h => ?_)
          refine R_M_iald cx hV (by decide) hq dX10_sort_32 ?_
          refine lv_aload_n hx hb dX10_sort_33 rfl (lv_at hl 0 rfl) ?_
          refine lv_iload_n hx hb dX10_sort_34 rfl (lv_at hl 2 rfl) ?_
          refine bd_e h (fun v7 hq h => ?_)
          refine k_X10_own hq cx hV mk_7_164 ⟨Nat.le_of_ble_eq_true rfl, Nat.le_of_ble_eq_true rfl⟩ ⟨Nat.zero_le _, Nat.zero_le _⟩ hl.1 (Nat.le_of_ble_eq_true rfl) dX10_sort_35 (fun H locs hV => ?_)
          refine lv_icmp_ne (tgt := 44) hx hb dX10_sort_38 (by decide) (fun hc => ?_) (fun hc => ?_)
          · have h := ifn hc h
            refine lv_aload_n hx hb dX10_sort_44 rfl (lv_at hl 0 rfl) ?_
            refine lv_iload_n hx hb dX10_sort_45 rfl (lv_at hl 2 rfl) ?_
            refine bd_e h (fun σ8 hq h => ?_)
            refine k_X10_goesOut hq cx hV mk_7_192 ⟨Nat.le_of_ble_eq_true rfl, Nat.le_of_ble_eq_true rfl⟩ ⟨Nat.zero_le _, Nat.zero_le _⟩ hl.1 (Nat.le_of_ble_eq_true rfl) dX10_sort_46 (fun H locs hV => ?_)
            refine lv_aload_n hx hb dX10_sort_49 rfl (lv_at hl 0 rfl) ?_
            refine lv_aload_n hx hb dX10_sort_50 rfl (lv_at hl 0 rfl) ?_
            refine lv_iload_n hx hb dX10_sort_51 rfl (lv_at hl 2 rfl) ?_
            refine bd_e h (fun v9 hq h => ?_)
            refine k_X10_own hq cx hV mk_7_164 ⟨Nat.le_of_ble_eq_true rfl, Nat.le_of_ble_eq_true rfl⟩ ⟨Nat.zero_le _, Nat.zero_le _⟩ hl.1 (Nat.le_of_ble_eq_true rfl) dX10_sort_52 (fun H locs hV => ?_)
            refine lv_iload_n hx hb dX10_sort_55 rfl (lv_at hl 2 rfl) ?_
            refine bd_e h (fun σ10 hq h => ?_)
            refine k_X10_comesTo hq cx hV mk_6_93 ⟨Nat.le_of_ble_eq_true rfl, Nat.le_of_ble_eq_true rfl⟩ ⟨Nat.zero_le _, Nat.zero_le _⟩ hl.1 (Nat.le_of_ble_eq_true rfl) dX10_sort_56 (fun H locs hV => ?_)
            refine lv_iinc (v := (u2 + 1)) (lv' := [(1, .int (u2 + 1)), (0, .ref (eA E 0)), (2, .int u3)]) hx hb dX10_sort_59 hl (k := 1) rfl rfl (by decide) rfl (fun ls hl => ?_)
            refine lv_iinc (v := (u3 + 1)) (lv' := [(2, .int (u3 + 1)), (1, .int (u2 + 1)), (0, .ref (eA E 0))]) hx hb dX10_sort_62 hl (k := 2) rfl rfl (by decide) rfl (fun ls hl => ?_)
            refine lv_goto (tgt := 9) hx hb dX10_sort_65 (by decide) ?_
            cases h
            exact hT1 rfl _ _ _ hV (lv_sub hl [2, 1, 0] rfl)
          · have h := ifp hc h
            refine lv_goto (tgt := 62) hx hb dX10_sort_41 (by decide) ?_
            refine lv_iinc (v := (u3 + 1)) (lv' := [(2, .int (u3 + 1)), (0, .ref (eA E 0)), (1, .int u2)]) hx hb dX10_sort_62 hl (k := 2) rfl rfl (by decide) rfl (fun ls hl => ?_)
            refine lv_goto (tgt := 9) hx hb dX10_sort_65 (by decide) ?_
            cases h
            exact hT1 rfl _ _ _ hV (lv_sub hl [1, 2, 0] rfl)
    · have hV : AtW E (wM E σ13 ++ X) A s H locs := hV
      have hl : lv_has ls 3 [(1, .int z11)] := hl
      refine lv_iload_n hx hb dX10_sort_68 rfl (lv_at hl 0 rfl) ?_
      obtain ⟨h1, h2⟩ := Prod.mk.inj (Option.some.inj h)
      subst h1
      subst h2
      subst hQ
      exact r_ireti cx hr hlk hV dX10_sort_69
  rw [hH, hlocs] at goal
  exact goal
theorem k_X10_sort {p : Program} {l : Launch} {e : Env} {R : Room} {s : State} {m : MethodId} {a : Array Value} {below : List Frame} {meth : Method} {c : Code} {H : Heap} {locs : List Loc} {cells slots : Nat} {Q : State → Prop} {cc : ByteArray} {own : String} {nL pc : Nat} {ls : Array Slot} {rest : List Value} {A : Nat → Prop} {E : EV} {X : va_W} {σ : St} {rv : Int32} {σf : St} (h : x_X10_sort σ = some (rv, σf)) (cx : CallFix p m c cc nL s a TBL own) (hV : AtW E (wM E σ ++ X) A s H locs) {idx : Nat} (w1 : Cond.methodLink own idx yX10_sort ∈ TBL) (hR : (rm_X10_sort).frames + 1 ≤ R.frames ∧ 8 + (3 + 11) + (rm_X10_sort).locals ≤ R.locals) (hcs : cells ≤ R.cells ∧ slots ≤ R.slots) (hls : ls.size = nL) (hcat : (rest.map fun v => v.category).sum ≤ 8) (d : decode cc pc = .ok (.invokevirtual idx, 3)) (kk : ∀ (H1 : Heap) (locs1 : List Loc), AtW E (wM E σf ++ X) A s H1 locs1 → W p l e R s m a below meth c H1 locs1 cells slots Q (F0 m (pc + 3) ls (.int rv :: rest))) : W p l e R s m a below meth c H locs cells slots Q (F0 m pc ls (.ref (eA E 0) :: rest)) :=
  r_calli (n := 0) (As := []) (q0 := 0) (ci := 10) (qq := (RX10, TX10, 64)) (c_X10_sort h) wM_fst rfl rfl mk_8_99 mk_8_100 mk_1_11 mk_8_101 (by decide +kernel) rfl ⟨rfl, rfl⟩ cx hV w1 hR hcs hls rfl hcat d kk
def x_X10_off (σ : St) : Option (Int32 × St) :=
  bd (some (sI σ 0 0)) fun σ1 =>
  bd (x_X10_offAll σ1) fun v2 =>
  some (v2, σ1)
abbrev rm_X10_off : Room := { frames := 4, cells := 0, slots := 0, locals := 89 }
set_option maxHeartbeats 4000000 in
set_option maxRecDepth 100000 in
theorem c_X10_off {l : Launch} {E : EV} {X : va_W} {σ : St} {rv : Int32} {σf : St} (h : x_X10_off σ = some (rv, σf)) : CM l yX10_off cX10_off 1 (some .int) rm_X10_off [.ref (eA E 0)] E (wM E σ ++ X) (wM E σf ++ X) (qI rv) := by
  refine CM.start (by decide) (Nat.le_of_ble_eq_true rfl) (fun p e s m a below meth c A ls cx hr hlk hV hl => ?_)
  have cx : CallFix p m c cX10_off 1 s a TBL RX10 := cx
  have hx := cx.1
  have hb := cx.2.1
  have hl : lv_has ls 1 [(0, .ref (eA E 0))] := hl
  generalize hQ : EQ E (wM E σf ++ X) (qI rv) A s a below = QQ
  obtain ⟨H, hH⟩ : ∃ H, H = s.heap := ⟨_, rfl⟩
  obtain ⟨locs, hlocs⟩ : ∃ z, z = ([] : List Loc) := ⟨_, rfl⟩
  have hV : AtW E (wM E σ ++ X) A s H locs := by rw [hH, hlocs]; exact hV
  have goal : W p l e rm_X10_off s m a below meth c H locs 0 0 QQ (F0 m 0 ls []) := by
    unfold x_X10_off at h
    refine lv_aload_n hx hb dX10_off_0 rfl (lv_at hl 0 rfl) ?_
    refine lv_iconst (v := 0) hx hb dX10_off_1 (by decide) ?_
    refine bd_e h (fun σ1 hq h => ?_)
    refine P_X10_thrown cx hV hq mk_6_97 dX10_off_2 (fun H locs hV => ?_)
    refine lv_aload_n hx hb dX10_off_5 rfl (lv_at hl 0 rfl) ?_
    refine bd_e h (fun v2 hq h => ?_)
    refine k_X10_offAll hq cx hV mk_8_21 ⟨Nat.le_of_ble_eq_true rfl, Nat.le_of_ble_eq_true rfl⟩ ⟨Nat.zero_le _, Nat.zero_le _⟩ hl.1 (Nat.le_of_ble_eq_true rfl) dX10_off_6 (fun H locs hV => ?_)
    obtain ⟨h1, h2⟩ := Prod.mk.inj (Option.some.inj h)
    subst h1
    subst h2
    subst hQ
    exact r_ireti cx hr hlk hV dX10_off_9
  rw [hH, hlocs] at goal
  exact goal
theorem k_X10_off {p : Program} {l : Launch} {e : Env} {R : Room} {s : State} {m : MethodId} {a : Array Value} {below : List Frame} {meth : Method} {c : Code} {H : Heap} {locs : List Loc} {cells slots : Nat} {Q : State → Prop} {cc : ByteArray} {own : String} {nL pc : Nat} {ls : Array Slot} {rest : List Value} {A : Nat → Prop} {E : EV} {X : va_W} {σ : St} {rv : Int32} {σf : St} (h : x_X10_off σ = some (rv, σf)) (cx : CallFix p m c cc nL s a TBL own) (hV : AtW E (wM E σ ++ X) A s H locs) {idx : Nat} (w1 : Cond.methodLink own idx yX10_off ∈ TBL) (hR : (rm_X10_off).frames + 1 ≤ R.frames ∧ 8 + (1 + 11) + (rm_X10_off).locals ≤ R.locals) (hcs : cells ≤ R.cells ∧ slots ≤ R.slots) (hls : ls.size = nL) (hcat : (rest.map fun v => v.category).sum ≤ 8) (d : decode cc pc = .ok (.invokevirtual idx, 3)) (kk : ∀ (H1 : Heap) (locs1 : List Loc), AtW E (wM E σf ++ X) A s H1 locs1 → W p l e R s m a below meth c H1 locs1 cells slots Q (F0 m (pc + 3) ls (.int rv :: rest))) : W p l e R s m a below meth c H locs cells slots Q (F0 m pc ls (.ref (eA E 0) :: rest)) :=
  r_calli (n := 0) (As := []) (q0 := 0) (ci := 10) (qq := (RX10, TX10, 64)) (c_X10_off h) wM_fst rfl rfl mk_8_103 mk_8_104 mk_1_11 mk_8_105 (by decide +kernel) rfl ⟨rfl, rfl⟩ cx hV w1 hR hcs hls rfl hcat d kk
def x_X10_twice (p1 : Int32) (p2 : Int32) (p3 : Int32) (p4 : Int32) : Option Int64 :=
  some ((((2 : Int64) * (Int32.toInt64 p2)) + (((2 : Int64) * (Int32.toInt64 p3)) * (Int32.toInt64 p1))) + ((((Int32.toInt64 p4) * (Int32.toInt64 p3)) * (Int32.toInt64 p1)) * (Int32.toInt64 (p1 - 1))))
abbrev rm_X10_twice : Room := { frames := 0, cells := 0, slots := 0, locals := 0 }
set_option maxHeartbeats 4000000 in
set_option maxRecDepth 100000 in
theorem c_X10_twice {l : Launch} {E : EV} {V : va_W} {p1 : Int32} {p2 : Int32} {p3 : Int32} {p4 : Int32} {rv : Int64} (h : x_X10_twice p1 p2 p3 p4 = some rv) : CM l yX10_twice cX10_twice 4 (some .long) rm_X10_twice [.int p1, .int p2, .int p3, .int p4] E V V (qL rv) := by
  refine CM.start (by decide) (Nat.le_of_ble_eq_true rfl) (fun p e s m a below meth c A ls cx hr hlk hV hl => ?_)
  have cx : CallFix p m c cX10_twice 4 s a TBL RX10 := cx
  have hx := cx.1
  have hb := cx.2.1
  have hl : lv_has ls 4 [(0, .int p1), (1, .int p2), (2, .int p3), (3, .int p4)] := hl
  generalize hQ : EQ E V (qL rv) A s a below = QQ
  obtain ⟨H, hH⟩ : ∃ H, H = s.heap := ⟨_, rfl⟩
  obtain ⟨locs, hlocs⟩ : ∃ z, z = ([] : List Loc) := ⟨_, rfl⟩
  have hV : AtW E V A s H locs := by rw [hH, hlocs]; exact hV
  have goal : W p l e rm_X10_twice s m a below meth c H locs 0 0 QQ (F0 m 0 ls []) := by
    unfold x_X10_twice at h
    refine lv_ldc2 (v := 2) hx hb cx.2.2.2.1 (cx.2.2.2.2 _ mk_8_53) dX10_twice_0 ?_
    refine lv_iload_n hx hb dX10_twice_3 rfl (lv_at hl 1 rfl) ?_
    refine lv_i2l (v := (Int32.toInt64 p2)) hx hb dX10_twice_4 rfl ?_
    refine lv_lmul hx hb dX10_twice_5 ?_
    refine lv_ldc2 (v := 2) hx hb cx.2.2.2.1 (cx.2.2.2.2 _ mk_8_53) dX10_twice_6 ?_
    refine lv_iload_n hx hb dX10_twice_9 rfl (lv_at hl 2 rfl) ?_
    refine lv_i2l (v := (Int32.toInt64 p3)) hx hb dX10_twice_10 rfl ?_
    refine lv_lmul hx hb dX10_twice_11 ?_
    refine lv_iload_n hx hb dX10_twice_12 rfl (lv_at hl 0 rfl) ?_
    refine lv_i2l (v := (Int32.toInt64 p1)) hx hb dX10_twice_13 rfl ?_
    refine lv_lmul hx hb dX10_twice_14 ?_
    refine lv_ladd hx hb dX10_twice_15 ?_
    refine lv_iload_n hx hb dX10_twice_16 rfl (lv_at hl 3 rfl) ?_
    refine lv_i2l (v := (Int32.toInt64 p4)) hx hb dX10_twice_17 rfl ?_
    refine lv_iload_n hx hb dX10_twice_18 rfl (lv_at hl 2 rfl) ?_
    refine lv_i2l (v := (Int32.toInt64 p3)) hx hb dX10_twice_19 rfl ?_
    refine lv_lmul hx hb dX10_twice_20 ?_
    refine lv_iload_n hx hb dX10_twice_21 rfl (lv_at hl 0 rfl) ?_
    refine lv_i2l (v := (Int32.toInt64 p1)) hx hb dX10_twice_22 rfl ?_
    refine lv_lmul hx hb dX10_twice_23 ?_
    refine lv_iload_n hx hb dX10_twice_24 rfl (lv_at hl 0 rfl) ?_
    refine lv_iconst (v := 1) hx hb dX10_twice_25 (by decide) ?_
    refine lv_isub hx hb dX10_twice_26 ?_
    refine lv_i2l (v := (Int32.toInt64 (p1 - 1))) hx hb dX10_twice_27 rfl ?_
    refine lv_lmul hx hb dX10_twice_28 ?_
    refine lv_ladd hx hb dX10_twice_29 ?_
    have h1 := Option.some.inj h
    subst h1
    subst hQ
    exact r_lret cx hr hlk hV dX10_twice_30
  rw [hH, hlocs] at goal
  exact goal
theorem k_X10_twice {p : Program} {l : Launch} {e : Env} {R : Room} {s : State} {m : MethodId} {a : Array Value} {below : List Frame} {meth : Method} {c : Code} {H : Heap} {locs : List Loc} {cells slots : Nat} {Q : State → Prop} {cc : ByteArray} {own : String} {nL pc : Nat} {ls : Array Slot} {rest : List Value} {A : Nat → Prop} {E : EV} {V : va_W} {p1 : Int32} {p2 : Int32} {p3 : Int32} {p4 : Int32} {rv : Int64} (h : x_X10_twice p1 p2 p3 p4 = some rv) (cx : CallFix p m c cc nL s a TBL own) (hV : AtW E V A s H locs) {idx : Nat} (w1 : Cond.methodLink own idx yX10_twice ∈ TBL) (hR : (rm_X10_twice).frames + 1 ≤ R.frames ∧ 8 + (4 + 11) + (rm_X10_twice).locals ≤ R.locals) (hcs : cells ≤ R.cells ∧ slots ≤ R.slots) (hls : ls.size = nL) (hcat : (rest.map fun v => v.category).sum ≤ 8) (d : decode cc pc = .ok (.invokestatic idx, 3)) (kk : ∀ (H1 : Heap) (locs1 : List Loc), AtW E V A s H1 locs1 → W p l e R s m a below meth c H1 locs1 cells slots Q (F0 m (pc + 3) ls (.long rv :: rest))) : W p l e R s m a below meth c H locs cells slots Q (F0 m pc ls (.int p4 :: .int p3 :: .int p2 :: .int p1 :: rest)) :=
  r_stl (n := 4) (As := [.int p1, .int p2, .int p3, .int p4]) (c_X10_twice h) rfl mk_8_111 mk_1_11 mk_8_112 (by decide +kernel) rfl ⟨rfl, rfl⟩ cx hV w1 hR hcs hls rfl hcat d kk
def x_X10_often_L68 (w1 : Int32) (w2 : Int32) (w3 : Int32) (w4 : Int32) (σ8 : St) (u9 : Int32) (u10 : Int32) : Option (Bool × (Int32 × Int32)) :=
  (if 60 < u10 then
  some (false, (u9, u10))
  else
  bd (x_X10_twice u10 w1 w2 w3) fun v11 =>
  bd (x_X10_twice u9 w1 w2 w3) fun v12 =>
  (if 0 ≤ (lg_cmp (v11 * (Int32.toInt64 u9)) (v12 * (Int32.toInt64 u10))) then
  some (true, (u9, (u10 + 1)))
  else
  some (true, (u10, (u10 + 1)))))
def x_X10_often_b52 (w1 : Int32) (w2 : Int32) (w3 : Int32) (w4 : Int32) (w5 : Int32) (σ6 : St) : Option (Int32 × St) :=
  bd2 (x_X10_may w5 1 2 σ6) fun v7 σ8 =>
  (if v7 = 0 then
  some (0, σ8)
  else
  bd2 (lp (fun v : (Int32 × Int32) => x_X10_often_L68 w1 w2 w3 w4 σ8 v.1 v.2) FU (1, 2)) fun z13 z14 =>
  (if w4 = 0 then
  some (z13, σ8)
  else
  bd (x_X10_twice z13 w1 w2 w3) fun v15 =>
  bd (x_X10_fraction v15 ((2 : Int64) * (Int32.toInt64 z13)) (w4 - 1)) fun v16 =>
  some ((Int64.toInt32 v16), σ8)))
def x_X10_often_b51 (w17 : Int32) (w18 : Int32) (w19 : Int32) (w20 : Int32) (σ21 : St) : Option (Int32 × St) :=
  x_X10_often_b52 w17 w18 w19 w20 0 σ21
def x_X10_often (p1 : Int32) (p2 : Int32) (p3 : Int32) (p4 : Int32) (σ : St) : Option (Int32 × St) :=
  bd (some (sI σ 0 0)) fun σ22 =>
  bd (x_X10_within p1 0 9999) fun v23 =>
  (if v23 = 0 then
  x_X10_often_b51 p1 p2 p3 p4 σ22
  else
  bd (x_X10_within p2 0 99) fun v24 =>
  (if v24 = 0 then
  x_X10_often_b51 p1 p2 p3 p4 σ22
  else
  bd (x_X10_within p3 0 99) fun v25 =>
  (if v25 = 0 then
  x_X10_often_b51 p1 p2 p3 p4 σ22
  else
  bd (x_X10_within p4 0 2) fun v26 =>
  (if v26 = 0 then
  x_X10_often_b51 p1 p2 p3 p4 σ22
  else
  x_X10_often_b52 p1 p2 p3 p4 1 σ22))))
abbrev rm_X10_often : Room := { frames := 2, cells := 0, slots := 0, locals := 55 }
set_option maxHeartbeats 4000000 in
set_option maxRecDepth 100000 in
theorem c_X10_often {l : Launch} {E : EV} {X : va_W} {σ : St} {p1 : Int32} {p2 : Int32} {p3 : Int32} {p4 : Int32} {rv : Int32} {σf : St} (h : x_X10_often p1 p2 p3 p4 σ = some (rv, σf)) : CM l yX10_often cX10_often 7 (some .int) rm_X10_often [.ref (eA E 0), .int p1, .int p2, .int p3, .int p4] E (wM E σ ++ X) (wM E σf ++ X) (qI rv) := by
  refine CM.start (by decide) (Nat.le_of_ble_eq_true rfl) (fun p e s m a below meth c A ls cx hr hlk hV hl => ?_)
  have cx : CallFix p m c cX10_often 7 s a TBL RX10 := cx
  have hx := cx.1
  have hb := cx.2.1
  have hl : lv_has ls 7 [(0, .ref (eA E 0)), (1, .int p1), (2, .int p2), (3, .int p3), (4, .int p4)] := hl
  generalize hQ : EQ E (wM E σf ++ X) (qI rv) A s a below = QQ
  obtain ⟨H, hH⟩ : ∃ H, H = s.heap := ⟨_, rfl⟩
  obtain ⟨locs, hlocs⟩ : ∃ z, z = ([] : List Loc) := ⟨_, rfl⟩
  have hV : AtW E (wM E σ ++ X) A s H locs := by rw [hH, hlocs]; exact hV
  have goal : W p l e rm_X10_often s m a below meth c H locs 0 0 QQ (F0 m 0 ls []) := by
    unfold x_X10_often at h
    have hj52 : ∀ (w1 : Int32) (w2 : Int32) (w3 : Int32) (w4 : Int32) (w5 : Int32) (σ6 : St) (H : Heap) (locs : List Loc) (ls : Array Slot), x_X10_often_b52 w1 w2 w3 w4 w5 σ6 = some (rv, σf) → AtW E (wM E σ6 ++ X) A s H locs → lv_has ls 7 [(1, .int w1), (2, .int w2), (3, .int w3), (4, .int w4)] → W p l e rm_X10_often s m a below meth c H locs 0 0 QQ (F0 m 52 ls [.int w5, .ref (eA E 0)]) := by
      intro w1 w2 w3 w4 w5 σ6 H locs ls h hV hl
      unfold x_X10_often_b52 at h
      refine lv_iconst (v := 1) hx hb dX10_often_52 (by decide) ?_
      refine lv_iconst (v := 2) hx hb dX10_often_53 (by decide) ?_
      refine bd2_e h (fun v7 σ8 hq h => ?_)
      refine k_X10_may hq cx hV mk_7_62 ⟨Nat.le_of_ble_eq_true rfl, Nat.le_of_ble_eq_true rfl⟩ ⟨Nat.zero_le _, Nat.zero_le _⟩ hl.1 (Nat.le_of_ble_eq_true rfl) dX10_often_54 (fun H locs hV => ?_)
      refine lv_if_ne (tgt := 62) hx hb dX10_often_57 (by decide) (fun hc => ?_) (fun hc => ?_)
      · have h := ifn hc h
        refine lv_iconst (v := 1) hx hb dX10_often_62 (by decide) ?_
        refine lv_istore (lv' := [(5, .int 1), (1, .int w1), (2, .int w2), (3, .int w3), (4, .int w4)]) hx hb dX10_often_63 hl (by decide) rfl (fun ls hl => ?_)
        refine lv_iconst (v := 2) hx hb dX10_often_65 (by decide) ?_
        refine lv_istore (lv' := [(6, .int 2), (5, .int 1), (1, .int w1), (2, .int w2), (3, .int w3), (4, .int w4)]) hx hb dX10_often_66 hl (by decide) rfl (fun ls hl => ?_)
        refine bd2_e h (fun z13 z14 ho h => ?_)
        refine (lp_rule (G := (fun v : (Int32 × Int32) => ∀ (H : Heap) (locs : List Loc) (ls : Array Slot), AtW E (wM E σ8 ++ X) A s H locs → lv_has ls 7 [(1, .int w1), (2, .int w2), (3, .int w3), (4, .int w4), (5, .int v.1), (6, .int v.2)] → W p l e rm_X10_often s m a below meth c H locs 0 0 QQ (F0 m 68 ls []))) (K := (fun v : (Int32 × Int32) => ∀ (H : Heap) (locs : List Loc) (ls : Array Slot), AtW E (wM E σ8 ++ X) A s H locs → lv_has ls 7 [(1, .int w1), (2, .int w2), (3, .int w3), (4, .int w4), (5, .int v.1)] → W p l e rm_X10_often s m a below meth c H locs 0 0 QQ (F0 m 113 ls []))) (fun v b1 y1 h hT1 hF1 => ?_) ho (fun H locs ls hV hl => ?_)) _ _ _ hV (lv_sub hl [2, 3, 4, 5, 1, 0] rfl)
        · obtain ⟨u9, u10⟩ := v
          have h : x_X10_often_L68 w1 w2 w3 w4 σ8 u9 u10 = some (b1, y1) := h
          intro H locs ls hV hl
          have hV : AtW E (wM E σ8 ++ X) A s H locs := hV
          have hl : lv_has ls 7 [(1, .int w1), (2, .int w2), (3, .int w3), (4, .int w4), (5, .int u9), (6, .int u10)] := hl
          unfold x_X10_often_L68 at h
          refine lv_iload hx hb dX10_often_68 (lv_at hl 5 rfl) ?_
          refine lv_bipush (v := 60) hx hb dX10_often_70 (by decide) ?_
          refine lv_icmp_gt (tgt := 113) hx hb dX10_often_72 (by decide) (fun hc => ?_) (fun hc => ?_)
          · have h := ifp hc h
            cases h
            exact hF1 rfl _ _ _ hV (lv_sub hl [0, 1, 2, 3, 4] rfl)
          · have h := ifn hc h
            refine lv_iload hx hb dX10_often_75 (lv_at hl 5 rfl) ?_
            refine lv_iload_n hx hb dX10_often_77 rfl (lv_at hl 0 rfl) ?_
            refine lv_iload_n hx hb dX10_often_78 rfl (lv_at hl 1 rfl) ?_
            refine lv_iload_n hx hb dX10_often_79 rfl (lv_at hl 2 rfl) ?_
            refine bd_e h (fun v11 hq h => ?_)
            refine k_X10_twice hq cx hV mk_8_110 ⟨Nat.le_of_ble_eq_true rfl, Nat.le_of_ble_eq_true rfl⟩ ⟨Nat.zero_le _, Nat.zero_le _⟩ hl.1 (Nat.le_of_ble_eq_true rfl) dX10_often_80 (fun H locs hV => ?_)
            refine lv_iload hx hb dX10_often_83 (lv_at hl 4 rfl) ?_
            refine lv_i2l (v := (Int32.toInt64 u9)) hx hb dX10_often_85 rfl ?_
            refine lv_lmul hx hb dX10_often_86 ?_
            refine lv_iload hx hb dX10_often_87 (lv_at hl 4 rfl) ?_
            refine lv_iload_n hx hb dX10_often_89 rfl (lv_at hl 0 rfl) ?_
            refine lv_iload_n hx hb dX10_often_90 rfl (lv_at hl 1 rfl) ?_
            refine lv_iload_n hx hb dX10_often_91 rfl (lv_at hl 2 rfl) ?_
            refine bd_e h (fun v12 hq h => ?_)
            refine k_X10_twice hq cx hV mk_8_110 ⟨Nat.le_of_ble_eq_true rfl, Nat.le_of_ble_eq_true rfl⟩ ⟨Nat.zero_le _, Nat.zero_le _⟩ hl.1 (Nat.le_of_ble_eq_true rfl) dX10_often_92 (fun H locs hV => ?_)
            refine lv_iload hx hb dX10_often_95 (lv_at hl 5 rfl) ?_
            refine lv_i2l (v := (Int32.toInt64 u10)) hx hb dX10_often_97 rfl ?_
            refine lv_lmul hx hb dX10_often_98 ?_
            refine W.lcmp hx hb dX10_often_99 ?_
            refine lv_if_ge (tgt := 107) hx hb dX10_often_100 (by decide) (fun hc => ?_) (fun hc => ?_)
            · have h := ifp hc h
              refine lv_iinc (v := (u10 + 1)) (lv' := [(6, .int (u10 + 1)), (1, .int w1), (2, .int w2), (3, .int w3), (4, .int w4), (5, .int u9)]) hx hb dX10_often_107 hl (k := 5) rfl rfl (by decide) rfl (fun ls hl => ?_)
              refine lv_goto (tgt := 68) hx hb dX10_often_110 (by decide) ?_
              cases h
              exact hT1 rfl _ _ _ hV (lv_sub hl [1, 2, 3, 4, 5, 0] rfl)
            · have h := ifn hc h
              refine lv_iload hx hb dX10_often_103 (lv_at hl 5 rfl) ?_
              refine lv_istore (lv' := [(5, .int u10), (1, .int w1), (2, .int w2), (3, .int w3), (4, .int w4), (6, .int u10)]) hx hb dX10_often_105 hl (by decide) rfl (fun ls hl => ?_)
              refine lv_iinc (v := (u10 + 1)) (lv' := [(6, .int (u10 + 1)), (5, .int u10), (1, .int w1), (2, .int w2), (3, .int w3), (4, .int w4)]) hx hb dX10_often_107 hl (k := 5) rfl rfl (by decide) rfl (fun ls hl => ?_)
              refine lv_goto (tgt := 68) hx hb dX10_often_110 (by decide) ?_
              cases h
              exact hT1 rfl _ _ _ hV (lv_sub hl [2, 3, 4, 5, 1, 0] rfl)
        · have hV : AtW E (wM E σ8 ++ X) A s H locs := hV
          have hl : lv_has ls 7 [(1, .int w1), (2, .int w2), (3, .int w3), (4, .int w4), (5, .int z13)] := hl
          refine lv_iload hx hb dX10_often_113 (lv_at hl 3 rfl) ?_
          refine lv_if_ne (tgt := 123) hx hb dX10_often_115 (by decide) (fun hc => ?_) (fun hc => ?_)
          · have h := ifn hc h
            refine lv_iload hx hb dX10_often_123 (lv_at hl 4 rfl) ?_
            refine lv_iload_n hx hb dX10_often_125 rfl (lv_at hl 0 rfl) ?_
            refine lv_iload_n hx hb dX10_often_126 rfl (lv_at hl 1 rfl) ?_
            refine lv_iload_n hx hb dX10_often_127 rfl (lv_at hl 2 rfl) ?_
            refine bd_e h (fun v15 hq h => ?_)
            refine k_X10_twice hq cx hV mk_8_110 ⟨Nat.le_of_ble_eq_true rfl, Nat.le_of_ble_eq_true rfl⟩ ⟨Nat.zero_le _, Nat.zero_le _⟩ hl.1 (Nat.le_of_ble_eq_true rfl) dX10_often_128 (fun H locs hV => ?_)
            refine lv_ldc2 (v := 2) hx hb cx.2.2.2.1 (cx.2.2.2.2 _ mk_8_53) dX10_often_131 ?_
            refine lv_iload hx hb dX10_often_134 (lv_at hl 4 rfl) ?_
            refine lv_i2l (v := (Int32.toInt64 z13)) hx hb dX10_often_136 rfl ?_
            refine lv_lmul hx hb dX10_often_137 ?_
            refine lv_iload hx hb dX10_often_138 (lv_at hl 3 rfl) ?_
            refine lv_iconst (v := 1) hx hb dX10_often_140 (by decide) ?_
            refine lv_isub hx hb dX10_often_141 ?_
            refine bd_e h (fun v16 hq h => ?_)
            refine k_X10_fraction hq cx hV mk_8_54 ⟨Nat.le_of_ble_eq_true rfl, Nat.le_of_ble_eq_true rfl⟩ ⟨Nat.zero_le _, Nat.zero_le _⟩ hl.1 (Nat.le_of_ble_eq_true rfl) dX10_often_142 (fun H locs hV => ?_)
            refine lv_l2i (v := (Int64.toInt32 v16)) hx hb dX10_often_145 rfl ?_
            obtain ⟨h1, h2⟩ := Prod.mk.inj (Option.some.inj h)
            subst h1
            subst h2
            subst hQ
            exact r_ireti cx hr hlk hV dX10_often_146
          · have h := ifp hc h
            refine lv_iload hx hb dX10_often_118 (lv_at hl 4 rfl) ?_
            refine lv_goto (tgt := 146) hx hb dX10_often_120 (by decide) ?_
            obtain ⟨h1, h2⟩ := Prod.mk.inj (Option.some.inj h)
            subst h1
            subst h2
            subst hQ
            exact r_ireti cx hr hlk hV dX10_often_146
      · have h := ifp hc h
        refine lv_iconst (v := 0) hx hb dX10_often_60 (by decide) ?_
        obtain ⟨h1, h2⟩ := Prod.mk.inj (Option.some.inj h)
        subst h1
        subst h2
        subst hQ
        exact r_ireti cx hr hlk hV dX10_often_61
    have hj51 : ∀ (w17 : Int32) (w18 : Int32) (w19 : Int32) (w20 : Int32) (σ21 : St) (H : Heap) (locs : List Loc) (ls : Array Slot), x_X10_often_b51 w17 w18 w19 w20 σ21 = some (rv, σf) → AtW E (wM E σ21 ++ X) A s H locs → lv_has ls 7 [(1, .int w17), (2, .int w18), (3, .int w19), (4, .int w20)] → W p l e rm_X10_often s m a below meth c H locs 0 0 QQ (F0 m 51 ls [.ref (eA E 0)]) := by
      intro w17 w18 w19 w20 σ21 H locs ls h hV hl
      unfold x_X10_often_b51 at h
      refine lv_iconst (v := 0) hx hb dX10_often_51 (by decide) ?_
      exact hj52 w17 w18 w19 w20 0 σ21 _ _ _ h hV (lv_sub hl [0, 1, 2, 3] rfl)
    refine lv_aload_n hx hb dX10_often_0 rfl (lv_at hl 0 rfl) ?_
    refine lv_iconst (v := 0) hx hb dX10_often_1 (by decide) ?_
    refine bd_e h (fun σ22 hq h => ?_)
    refine P_X10_thrown cx hV hq mk_6_97 dX10_often_2 (fun H locs hV => ?_)
    refine lv_aload_n hx hb dX10_often_5 rfl (lv_at hl 0 rfl) ?_
    refine lv_iload_n hx hb dX10_often_6 rfl (lv_at hl 1 rfl) ?_
    refine lv_iconst (v := 0) hx hb dX10_often_7 (by decide) ?_
    refine lv_sipush (v := 9999) hx hb dX10_often_8 (by decide) ?_
    refine bd_e h (fun v23 hq h => ?_)
    refine k_X10_within hq cx hV mk_7_141 ⟨Nat.le_of_ble_eq_true rfl, Nat.le_of_ble_eq_true rfl⟩ ⟨Nat.zero_le _, Nat.zero_le _⟩ hl.1 (Nat.le_of_ble_eq_true rfl) dX10_often_11 (fun H locs hV => ?_)
    refine lv_if_eq (tgt := 51) hx hb dX10_often_14 (by decide) (fun hc => ?_) (fun hc => ?_)
    · have h := ifp hc h
      exact hj51 p1 p2 p3 p4 σ22 _ _ _ h hV (lv_sub hl [1, 2, 3, 4] rfl)
    · have h := ifn hc h
      refine lv_iload_n hx hb dX10_often_17 rfl (lv_at hl 2 rfl) ?_
      refine lv_iconst (v := 0) hx hb dX10_often_18 (by decide) ?_
      refine lv_bipush (v := 99) hx hb dX10_often_19 (by decide) ?_
      refine bd_e h (fun v24 hq h => ?_)
      refine k_X10_within hq cx hV mk_7_141 ⟨Nat.le_of_ble_eq_true rfl, Nat.le_of_ble_eq_true rfl⟩ ⟨Nat.zero_le _, Nat.zero_le _⟩ hl.1 (Nat.le_of_ble_eq_true rfl) dX10_often_21 (fun H locs hV => ?_)
      refine lv_if_eq (tgt := 51) hx hb dX10_often_24 (by decide) (fun hc => ?_) (fun hc => ?_)
      · have h := ifp hc h
        exact hj51 p1 p2 p3 p4 σ22 _ _ _ h hV (lv_sub hl [1, 2, 3, 4] rfl)
      · have h := ifn hc h
        refine lv_iload_n hx hb dX10_often_27 rfl (lv_at hl 3 rfl) ?_
        refine lv_iconst (v := 0) hx hb dX10_often_28 (by decide) ?_
        refine lv_bipush (v := 99) hx hb dX10_often_29 (by decide) ?_
        refine bd_e h (fun v25 hq h => ?_)
        refine k_X10_within hq cx hV mk_7_141 ⟨Nat.le_of_ble_eq_true rfl, Nat.le_of_ble_eq_true rfl⟩ ⟨Nat.zero_le _, Nat.zero_le _⟩ hl.1 (Nat.le_of_ble_eq_true rfl) dX10_often_31 (fun H locs hV => ?_)
        refine lv_if_eq (tgt := 51) hx hb dX10_often_34 (by decide) (fun hc => ?_) (fun hc => ?_)
        · have h := ifp hc h
          exact hj51 p1 p2 p3 p4 σ22 _ _ _ h hV (lv_sub hl [1, 2, 3, 4] rfl)
        · have h := ifn hc h
          refine lv_iload hx hb dX10_often_37 (lv_at hl 4 rfl) ?_
          refine lv_iconst (v := 0) hx hb dX10_often_39 (by decide) ?_
          refine lv_iconst (v := 2) hx hb dX10_often_40 (by decide) ?_
          refine bd_e h (fun v26 hq h => ?_)
          refine k_X10_within hq cx hV mk_7_141 ⟨Nat.le_of_ble_eq_true rfl, Nat.le_of_ble_eq_true rfl⟩ ⟨Nat.zero_le _, Nat.zero_le _⟩ hl.1 (Nat.le_of_ble_eq_true rfl) dX10_often_41 (fun H locs hV => ?_)
          refine lv_if_eq (tgt := 51) hx hb dX10_often_44 (by decide) (fun hc => ?_) (fun hc => ?_)
          · have h := ifp hc h
            exact hj51 p1 p2 p3 p4 σ22 _ _ _ h hV (lv_sub hl [1, 2, 3, 4] rfl)
          · have h := ifn hc h
            refine lv_iconst (v := 1) hx hb dX10_often_47 (by decide) ?_
            refine lv_goto (tgt := 52) hx hb dX10_often_48 (by decide) ?_
            exact hj52 p1 p2 p3 p4 1 σ22 _ _ _ h hV (lv_sub hl [1, 2, 3, 4] rfl)
  rw [hH, hlocs] at goal
  exact goal
theorem k_X10_often {p : Program} {l : Launch} {e : Env} {R : Room} {s : State} {m : MethodId} {a : Array Value} {below : List Frame} {meth : Method} {c : Code} {H : Heap} {locs : List Loc} {cells slots : Nat} {Q : State → Prop} {cc : ByteArray} {own : String} {nL pc : Nat} {ls : Array Slot} {rest : List Value} {A : Nat → Prop} {E : EV} {X : va_W} {σ : St} {p1 : Int32} {p2 : Int32} {p3 : Int32} {p4 : Int32} {rv : Int32} {σf : St} (h : x_X10_often p1 p2 p3 p4 σ = some (rv, σf)) (cx : CallFix p m c cc nL s a TBL own) (hV : AtW E (wM E σ ++ X) A s H locs) {idx : Nat} (w1 : Cond.methodLink own idx yX10_often ∈ TBL) (hR : (rm_X10_often).frames + 1 ≤ R.frames ∧ 8 + (7 + 11) + (rm_X10_often).locals ≤ R.locals) (hcs : cells ≤ R.cells ∧ slots ≤ R.slots) (hls : ls.size = nL) (hcat : (rest.map fun v => v.category).sum ≤ 8) (d : decode cc pc = .ok (.invokevirtual idx, 3)) (kk : ∀ (H1 : Heap) (locs1 : List Loc), AtW E (wM E σf ++ X) A s H1 locs1 → W p l e R s m a below meth c H1 locs1 cells slots Q (F0 m (pc + 3) ls (.int rv :: rest))) : W p l e R s m a below meth c H locs cells slots Q (F0 m pc ls (.int p4 :: .int p3 :: .int p2 :: .int p1 :: .ref (eA E 0) :: rest)) :=
  r_calli (n := 4) (As := [.int p1, .int p2, .int p3, .int p4]) (q0 := 0) (ci := 10) (qq := (RX10, TX10, 64)) (c_X10_often h) wM_fst rfl rfl mk_8_107 mk_8_108 mk_1_11 mk_8_109 (by decide +kernel) rfl ⟨rfl, rfl⟩ cx hV w1 hR hcs hls rfl hcat d kk
def x_X10_findChanges_L2 (u1 : Int32) (σ2 : St) : Option (Bool × (Int32 × St)) :=
  (if (gI σ2 9) ≤ u1 then
  some (false, (u1, σ2))
  else
  bd (ldI (gA σ2 8) (lenM 8) u1) fun v3 =>
  bd (stI σ2 32 (lenM 32) u1 v3) fun σ4 =>
  some (true, ((u1 + 1), σ4)))
def x_X10_findChanges_L58 (u8 : Int32) (σ9 : St) (u11 : Int32) : Option (Bool × Int32) :=
  bd (ldI (gA σ9 32) (lenM 32) u11) fun v12 =>
  (if v12 = u8 then
  some (false, u11)
  else
  some (true, (u11 + 1)))
def x_X10_findChanges_L35 (u8 : Int32) (σ9 : St) : Option (Bool × (Int32 × St)) :=
  (if (gI σ9 9) ≤ u8 then
  some (false, (u8, σ9))
  else
  bd (ldI (gA σ9 32) (lenM 32) u8) fun v10 =>
  (if v10 = u8 then
  some (true, ((u8 + 1), σ9))
  else
  bd (lp (fun v : Int32 => x_X10_findChanges_L58 u8 σ9 v) FU 0) fun z13 =>
  bd (stI σ9 33 (lenM 33) (gI σ9 22) ((100 * u8) + z13)) fun σ14 =>
  bd (some (sI σ14 22 ((gI σ14 22) + 1))) fun σ15 =>
  bd (ldI (gA σ15 32) (lenM 32) u8) fun v16 =>
  bd (stI σ15 32 (lenM 32) z13 v16) fun σ17 =>
  bd (stI σ17 32 (lenM 32) u8 u8) fun σ18 =>
  some (true, ((u8 + 1), σ18))))
def x_X10_findChanges (σ : St) : Option St :=
  bd2 (lp (fun v : (Int32 × St) => x_X10_findChanges_L2 v.1 v.2) FU (0, σ)) fun z5 σ6 =>
  bd (some (sI σ6 22 0)) fun σ7 =>
  bd2 (lp (fun v : (Int32 × St) => x_X10_findChanges_L35 v.1 v.2) FU (0, σ7)) fun z19 σ20 =>
  some σ20
abbrev rm_X10_findChanges : Room := { frames := 0, cells := 0, slots := 0, locals := 0 }
set_option maxHeartbeats 4000000 in
set_option maxRecDepth 100000 in
theorem c_X10_findChanges {l : Launch} {E : EV} {X : va_W} {σ : St} {σf : St} (h : x_X10_findChanges σ = some σf) : CM l yX10_findChanges cX10_findChanges 3 none rm_X10_findChanges [.ref (eA E 0)] E (wM E σ ++ X) (wM E σf ++ X) qV := by
  refine CM.start (by decide) (Nat.le_of_ble_eq_true rfl) (fun p e s m a below meth c A ls cx hr hlk hV hl => ?_)
  have cx : CallFix p m c cX10_findChanges 3 s a TBL RX10 := cx
  have hx := cx.1
  have hb := cx.2.1
  have hl : lv_has ls 3 [(0, .ref (eA E 0))] := hl
  generalize hQ : EQ E (wM E σf ++ X) qV A s a below = QQ
  obtain ⟨H, hH⟩ : ∃ H, H = s.heap := ⟨_, rfl⟩
  obtain ⟨locs, hlocs⟩ : ∃ z, z = ([] : List Loc) := ⟨_, rfl⟩
  have hV : AtW E (wM E σ ++ X) A s H locs := by rw [hH, hlocs]; exact hV
  have goal : W p l e rm_X10_findChanges s m a below meth c H locs 0 0 QQ (F0 m 0 ls []) := by
    unfold x_X10_findChanges at h
    refine lv_iconst (v := 0) hx hb dX10_findChanges_0 (by decide) ?_
    refine lv_istore_n (lv' := [(1, .int 0), (0, .ref (eA E 0))]) hx hb dX10_findChanges_1 rfl hl (by decide) rfl (fun ls hl => ?_)
    refine bd2_e h (fun z5 σ6 ho h => ?_)
    refine (lp_rule (G := (fun v : (Int32 × St) => ∀ (H : Heap) (locs : List Loc) (ls : Array Slot), AtW E (wM E v.2 ++ X) A s H locs → lv_has ls 3 [(0, .ref (eA E 0)), (1, .int v.1)] → W p l e rm_X10_findChanges s m a below meth c H locs 0 0 QQ (F0 m 2 ls []))) (K := (fun v : (Int32 × St) => ∀ (H : Heap) (locs : List Loc) (ls : Array Slot), AtW E (wM E v.2 ++ X) A s H locs → lv_has ls 3 [(0, .ref (eA E 0))] → W p l e rm_X10_findChanges s m a below meth c H locs 0 0 QQ (F0 m 28 ls []))) (fun v b1 y1 h hT1 hF1 => ?_) ho (fun H locs ls hV hl => ?_)) _ _ _ hV (lv_sub hl [1, 0] rfl)
    · obtain ⟨u1, σ2⟩ := v
      have h : x_X10_findChanges_L2 u1 σ2 = some (b1, y1) := h
      intro H locs ls hV hl
      have hV : AtW E (wM E σ2 ++ X) A s H locs := hV
      have hl : lv_has ls 3 [(0, .ref (eA E 0)), (1, .int u1)] := hl
      unfold x_X10_findChanges_L2 at h
      refine lv_iload_n hx hb dX10_findChanges_2 rfl (lv_at hl 1 rfl) ?_
      refine lv_aload_n hx hb dX10_findChanges_3 rfl (lv_at hl 0 rfl) ?_
      refine G_X10_sleeves cx hV mk_6_122 dX10_findChanges_4 ?_
      refine lv_icmp_ge (tgt := 28) hx hb dX10_findChanges_7 (by decide) (fun hc => ?_) (fun hc => ?_)
      · have h := ifp hc h
        cases h
        exact hF1 rfl _ _ _ hV (lv_sub hl [0] rfl)
      · have h := ifn hc h
        refine lv_aload_n hx hb dX10_findChanges_10 rfl (lv_at hl 0 rfl) ?_
        refine G_X10_disc cx hV mk_6_155 dX10_findChanges_11 ?_
        refine lv_iload_n hx hb dX10_findChanges_14 rfl (lv_at hl 1 rfl) ?_
        refine lv_aload_n hx hb dX10_findChanges_15 rfl (lv_at hl 0 rfl) ?_
        refine G_X10_discAt cx hV mk_6_113 dX10_findChanges_16 ?_
        refine lv_iload_n hx hb dX10_findChanges_19 rfl (lv_at hl 1 rfl) ?_
        refine bd_e h (fun v3 hq h => ?_)
        refine R_M_iald cx hV (by decide) hq dX10_findChanges_20 ?_
        refine bd_e h (fun σ4 hq h => ?_)
        refine R_M_iast cx hV (by decide) hq dX10_findChanges_21 (fun H locs hV => ?_)
        refine lv_iinc (v := (u1 + 1)) (lv' := [(1, .int (u1 + 1)), (0, .ref (eA E 0))]) hx hb dX10_findChanges_22 hl (k := 1) rfl rfl (by decide) rfl (fun ls hl => ?_)
        refine lv_goto (tgt := 2) hx hb dX10_findChanges_25 (by decide) ?_
        cases h
        exact hT1 rfl _ _ _ hV (lv_sub hl [1, 0] rfl)
    · have hV : AtW E (wM E σ6 ++ X) A s H locs := hV
      have hl : lv_has ls 3 [(0, .ref (eA E 0))] := hl
      refine lv_aload_n hx hb dX10_findChanges_28 rfl (lv_at hl 0 rfl) ?_
      refine lv_iconst (v := 0) hx hb dX10_findChanges_29 (by decide) ?_
      refine bd_e h (fun σ7 hq h => ?_)
      refine P_X10_changeMany cx hV hq mk_6_157 dX10_findChanges_30 (fun H locs hV => ?_)
      refine lv_iconst (v := 0) hx hb dX10_findChanges_33 (by decide) ?_
      refine lv_istore_n (lv' := [(1, .int 0), (0, .ref (eA E 0))]) hx hb dX10_findChanges_34 rfl hl (by decide) rfl (fun ls hl => ?_)
      refine bd2_e h (fun z19 σ20 ho h => ?_)
      refine (lp_rule (G := (fun v : (Int32 × St) => ∀ (H : Heap) (locs : List Loc) (ls : Array Slot), AtW E (wM E v.2 ++ X) A s H locs → lv_has ls 3 [(0, .ref (eA E 0)), (1, .int v.1)] → W p l e rm_X10_findChanges s m a below meth c H locs 0 0 QQ (F0 m 35 ls []))) (K := (fun v : (Int32 × St) => ∀ (H : Heap) (locs : List Loc) (ls : Array Slot), AtW E (wM E v.2 ++ X) A s H locs → lv_has ls 3 [] → W p l e rm_X10_findChanges s m a below meth c H locs 0 0 QQ (F0 m 124 ls []))) (fun v b1 y1 h hT1 hF1 => ?_) ho (fun H locs ls hV hl => ?_)) _ _ _ hV (lv_sub hl [1, 0] rfl)
      · obtain ⟨u8, σ9⟩ := v
        have h : x_X10_findChanges_L35 u8 σ9 = some (b1, y1) := h
        intro H locs ls hV hl
        have hV : AtW E (wM E σ9 ++ X) A s H locs := hV
        have hl : lv_has ls 3 [(0, .ref (eA E 0)), (1, .int u8)] := hl
        unfold x_X10_findChanges_L35 at h
        refine lv_iload_n hx hb dX10_findChanges_35 rfl (lv_at hl 1 rfl) ?_
        refine lv_aload_n hx hb dX10_findChanges_36 rfl (lv_at hl 0 rfl) ?_
        refine G_X10_sleeves cx hV mk_6_122 dX10_findChanges_37 ?_
        refine lv_icmp_ge (tgt := 124) hx hb dX10_findChanges_40 (by decide) (fun hc => ?_) (fun hc => ?_)
        · have h := ifp hc h
          cases h
          exact hF1 rfl _ _ _ hV (lv_sub hl [] rfl)
        · have h := ifn hc h
          refine lv_aload_n hx hb dX10_findChanges_43 rfl (lv_at hl 0 rfl) ?_
          refine G_X10_disc cx hV mk_6_155 dX10_findChanges_44 ?_
          refine lv_iload_n hx hb dX10_findChanges_47 rfl (lv_at hl 1 rfl) ?_
          refine bd_e h (fun v10 hq h => ?_)
          refine R_M_iald cx hV (by decide) hq dX10_findChanges_48 ?_
          refine lv_iload_n hx hb dX10_findChanges_49 rfl (lv_at hl 1 rfl) ?_
          refine lv_icmp_ne (tgt := 56) hx hb dX10_findChanges_50 (by decide) (fun hc => ?_) (fun hc => ?_)
          · have h := ifn hc h
            refine lv_iconst (v := 0) hx hb dX10_findChanges_56 (by decide) ?_
            refine lv_istore_n (lv' := [(2, .int 0), (0, .ref (eA E 0)), (1, .int u8)]) hx hb dX10_findChanges_57 rfl hl (by decide) rfl (fun ls hl => ?_)
            refine bd_e h (fun z13 ho h => ?_)
            refine (lp_rule (G := (fun v : Int32 => ∀ (H : Heap) (locs : List Loc) (ls : Array Slot), AtW E (wM E σ9 ++ X) A s H locs → lv_has ls 3 [(0, .ref (eA E 0)), (1, .int u8), (2, .int v)] → W p l e rm_X10_findChanges s m a below meth c H locs 0 0 QQ (F0 m 58 ls []))) (K := (fun v : Int32 => ∀ (H : Heap) (locs : List Loc) (ls : Array Slot), AtW E (wM E σ9 ++ X) A s H locs → lv_has ls 3 [(0, .ref (eA E 0)), (1, .int u8), (2, .int v)] → W p l e rm_X10_findChanges s m a below meth c H locs 0 0 QQ (F0 m 74 ls []))) (fun v b2 y2 h hT2 hF2 => ?_) ho (fun H locs ls hV hl => ?_)) _ _ _ hV (lv_sub hl [1, 2, 0] rfl)
            · obtain ⟨u11, rfl⟩ : ∃ z, z = v := ⟨_, rfl⟩
              have h : x_X10_findChanges_L58 u8 σ9 u11 = some (b2, y2) := h
              intro H locs ls hV hl
              have hV : AtW E (wM E σ9 ++ X) A s H locs := hV
              have hl : lv_has ls 3 [(0, .ref (eA E 0)), (1, .int u8), (2, .int u11)] := hl
              unfold x_X10_findChanges_L58 at h
              refine lv_aload_n hx hb dX10_findChanges_58 rfl (lv_at hl 0 rfl) ?_
              refine G_X10_disc cx hV mk_6_155 dX10_findChanges_59 ?_
              refine lv_iload_n hx hb dX10_findChanges_62 rfl (lv_at hl 2 rfl) ?_
              refine bd_e h (fun v12 hq h => ?_)
              refine R_M_iald cx hV (by decide) hq dX10_findChanges_63 ?_
              refine lv_iload_n hx hb dX10_findChanges_64 rfl (lv_at hl 1 rfl) ?_
              refine lv_icmp_eq (tgt := 74) hx hb dX10_findChanges_65 (by decide) (fun hc => ?_) (fun hc => ?_)
              · have h := ifp hc h
                cases h
                exact hF2 rfl _ _ _ hV (lv_sub hl [0, 1, 2] rfl)
              · have h := ifn hc h
                refine lv_iinc (v := (u11 + 1)) (lv' := [(2, .int (u11 + 1)), (0, .ref (eA E 0)), (1, .int u8)]) hx hb dX10_findChanges_68 hl (k := 2) rfl rfl (by decide) rfl (fun ls hl => ?_)
                refine lv_goto (tgt := 58) hx hb dX10_findChanges_71 (by decide) ?_
                cases h
                exact hT2 rfl _ _ _ hV (lv_sub hl [1, 2, 0] rfl)
            · have hV : AtW E (wM E σ9 ++ X) A s H locs := hV
              have hl : lv_has ls 3 [(0, .ref (eA E 0)), (1, .int u8), (2, .int z13)] := hl
              refine lv_aload_n hx hb dX10_findChanges_74 rfl (lv_at hl 0 rfl) ?_
              refine G_X10_change cx hV mk_6_156 dX10_findChanges_75 ?_
              refine lv_aload_n hx hb dX10_findChanges_78 rfl (lv_at hl 0 rfl) ?_
              refine G_X10_changeMany cx hV mk_6_157 dX10_findChanges_79 ?_
              refine lv_bipush (v := 100) hx hb dX10_findChanges_82 (by decide) ?_
              refine lv_iload_n hx hb dX10_findChanges_84 rfl (lv_at hl 1 rfl) ?_
              refine lv_imul hx hb dX10_findChanges_85 ?_
              refine lv_iload_n hx hb dX10_findChanges_86 rfl (lv_at hl 2 rfl) ?_
              refine lv_iadd hx hb dX10_findChanges_87 ?_
              refine bd_e h (fun σ14 hq h => ?_)
              refine R_M_iast cx hV (by decide) hq dX10_findChanges_88 (fun H locs hV => ?_)
              refine lv_aload_n hx hb dX10_findChanges_89 rfl (lv_at hl 0 rfl) ?_
              refine lv_dup hx hb dX10_findChanges_90 rfl ?_
              refine G_X10_changeMany cx hV mk_6_157 dX10_findChanges_91 ?_
              refine lv_iconst (v := 1) hx hb dX10_findChanges_94 (by decide) ?_
              refine lv_iadd hx hb dX10_findChanges_95 ?_
              refine bd_e h (fun σ15 hq h => ?_)
              refine P_X10_changeMany cx hV hq mk_6_157 dX10_findChanges_96 (fun H locs hV => ?_)
              refine lv_aload_n hx hb dX10_findChanges_99 rfl (lv_at hl 0 rfl) ?_
              refine G_X10_disc cx hV mk_6_155 dX10_findChanges_100 ?_
              refine lv_iload_n hx hb dX10_findChanges_103 rfl (lv_at hl 2 rfl) ?_
              refine lv_aload_n hx hb dX10_findChanges_104 rfl (lv_at hl 0 rfl) ?_
              refine G_X10_disc cx hV mk_6_155 dX10_findChanges_105 ?_
              refine lv_iload_n hx hb dX10_findChanges_108 rfl (lv_at hl 1 rfl) ?_
              refine bd_e h (fun v16 hq h => ?_)
              refine R_M_iald cx hV (by decide) hq dX10_findChanges_109 ?_
              refine bd_e h (fun σ17 hq h => ?_)
              refine R_M_iast cx hV (by decide) hq dX10_findChanges_110 (fun H locs hV => ?_)
              refine lv_aload_n hx hb dX10_findChanges_111 rfl (lv_at hl 0 rfl) ?_
              refine G_X10_disc cx hV mk_6_155 dX10_findChanges_112 ?_
              refine lv_iload_n hx hb dX10_findChanges_115 rfl (lv_at hl 1 rfl) ?_
              refine lv_iload_n hx hb dX10_findChanges_116 rfl (lv_at hl 1 rfl) ?_
              refine bd_e h (fun σ18 hq h => ?_)
              refine R_M_iast cx hV (by decide) hq dX10_findChanges_117 (fun H locs hV => ?_)
              refine lv_iinc (v := (u8 + 1)) (lv' := [(1, .int (u8 + 1)), (0, .ref (eA E 0)), (2, .int z13)]) hx hb dX10_findChanges_118 hl (k := 1) rfl rfl (by decide) rfl (fun ls hl => ?_)
              refine lv_goto (tgt := 35) hx hb dX10_findChanges_121 (by decide) ?_
              cases h
              exact hT1 rfl _ _ _ hV (lv_sub hl [1, 0] rfl)
          · have h := ifp hc h
            refine lv_goto (tgt := 118) hx hb dX10_findChanges_53 (by decide) ?_
            refine lv_iinc (v := (u8 + 1)) (lv' := [(1, .int (u8 + 1)), (0, .ref (eA E 0))]) hx hb dX10_findChanges_118 hl (k := 1) rfl rfl (by decide) rfl (fun ls hl => ?_)
            refine lv_goto (tgt := 35) hx hb dX10_findChanges_121 (by decide) ?_
            cases h
            exact hT1 rfl _ _ _ hV (lv_sub hl [1, 0] rfl)
      · have hV : AtW E (wM E σ20 ++ X) A s H locs := hV
        have hl : lv_has ls 3 [] := hl
        have h1 := Option.some.inj h
        subst h1
        subst hQ
        exact r_vret cx hr hlk hV dX10_findChanges_124
  rw [hH, hlocs] at goal
  exact goal
theorem k_X10_findChanges {p : Program} {l : Launch} {e : Env} {R : Room} {s : State} {m : MethodId} {a : Array Value} {below : List Frame} {meth : Method} {c : Code} {H : Heap} {locs : List Loc} {cells slots : Nat} {Q : State → Prop} {cc : ByteArray} {own : String} {nL pc : Nat} {ls : Array Slot} {rest : List Value} {A : Nat → Prop} {E : EV} {X : va_W} {σ : St} {σf : St} (h : x_X10_findChanges σ = some σf) (cx : CallFix p m c cc nL s a TBL own) (hV : AtW E (wM E σ ++ X) A s H locs) {idx : Nat} (w1 : Cond.methodLink own idx yX10_findChanges ∈ TBL) (hR : (rm_X10_findChanges).frames + 1 ≤ R.frames ∧ 8 + (3 + 11) + (rm_X10_findChanges).locals ≤ R.locals) (hcs : cells ≤ R.cells ∧ slots ≤ R.slots) (hls : ls.size = nL) (hcat : (rest.map fun v => v.category).sum ≤ 8) (d : decode cc pc = .ok (.invokevirtual idx, 3)) (kk : ∀ (H1 : Heap) (locs1 : List Loc), AtW E (wM E σf ++ X) A s H1 locs1 → W p l e R s m a below meth c H1 locs1 cells slots Q (F0 m (pc + 3) ls (rest))) : W p l e R s m a below meth c H locs cells slots Q (F0 m pc ls (.ref (eA E 0) :: rest)) :=
  r_callv (n := 0) (As := []) (q0 := 0) (ci := 10) (qq := (RX10, TX10, 64)) (c_X10_findChanges h) wM_fst rfl rfl mk_8_119 mk_P_102 mk_1_11 mk_8_120 (by decide +kernel) rfl ⟨rfl, rfl⟩ cx hV w1 hR hcs hls rfl hcat d kk
def x_X10_changes (σ : St) : Option (Int32 × St) :=
  bd (some (sI σ 0 0)) fun σ1 =>
  bd (x_X10_findChanges σ1) fun σ2 =>
  some ((gI σ2 22), σ2)
abbrev rm_X10_changes : Room := { frames := 1, cells := 0, slots := 0, locals := 22 }
set_option maxHeartbeats 4000000 in
set_option maxRecDepth 100000 in
theorem c_X10_changes {l : Launch} {E : EV} {X : va_W} {σ : St} {rv : Int32} {σf : St} (h : x_X10_changes σ = some (rv, σf)) : CM l yX10_changes cX10_changes 1 (some .int) rm_X10_changes [.ref (eA E 0)] E (wM E σ ++ X) (wM E σf ++ X) (qI rv) := by
  refine CM.start (by decide) (Nat.le_of_ble_eq_true rfl) (fun p e s m a below meth c A ls cx hr hlk hV hl => ?_)
  have cx : CallFix p m c cX10_changes 1 s a TBL RX10 := cx
  have hx := cx.1
  have hb := cx.2.1
  have hl : lv_has ls 1 [(0, .ref (eA E 0))] := hl
  generalize hQ : EQ E (wM E σf ++ X) (qI rv) A s a below = QQ
  obtain ⟨H, hH⟩ : ∃ H, H = s.heap := ⟨_, rfl⟩
  obtain ⟨locs, hlocs⟩ : ∃ z, z = ([] : List Loc) := ⟨_, rfl⟩
  have hV : AtW E (wM E σ ++ X) A s H locs := by rw [hH, hlocs]; exact hV
  have goal : W p l e rm_X10_changes s m a below meth c H locs 0 0 QQ (F0 m 0 ls []) := by
    unfold x_X10_changes at h
    refine lv_aload_n hx hb dX10_changes_0 rfl (lv_at hl 0 rfl) ?_
    refine lv_iconst (v := 0) hx hb dX10_changes_1 (by decide) ?_
    refine bd_e h (fun σ1 hq h => ?_)
    refine P_X10_thrown cx hV hq mk_6_97 dX10_changes_2 (fun H locs hV => ?_)
    refine lv_aload_n hx hb dX10_changes_5 rfl (lv_at hl 0 rfl) ?_
    refine bd_e h (fun σ2 hq h => ?_)
    refine k_X10_findChanges hq cx hV mk_8_117 ⟨Nat.le_of_ble_eq_true rfl, Nat.le_of_ble_eq_true rfl⟩ ⟨Nat.zero_le _, Nat.zero_le _⟩ hl.1 (Nat.le_of_ble_eq_true rfl) dX10_changes_6 (fun H locs hV => ?_)
    refine lv_aload_n hx hb dX10_changes_9 rfl (lv_at hl 0 rfl) ?_
    refine G_X10_changeMany cx hV mk_6_157 dX10_changes_10 ?_
    obtain ⟨h1, h2⟩ := Prod.mk.inj (Option.some.inj h)
    subst h1
    subst h2
    subst hQ
    exact r_ireti cx hr hlk hV dX10_changes_13
  rw [hH, hlocs] at goal
  exact goal
theorem k_X10_changes {p : Program} {l : Launch} {e : Env} {R : Room} {s : State} {m : MethodId} {a : Array Value} {below : List Frame} {meth : Method} {c : Code} {H : Heap} {locs : List Loc} {cells slots : Nat} {Q : State → Prop} {cc : ByteArray} {own : String} {nL pc : Nat} {ls : Array Slot} {rest : List Value} {A : Nat → Prop} {E : EV} {X : va_W} {σ : St} {rv : Int32} {σf : St} (h : x_X10_changes σ = some (rv, σf)) (cx : CallFix p m c cc nL s a TBL own) (hV : AtW E (wM E σ ++ X) A s H locs) {idx : Nat} (w1 : Cond.methodLink own idx yX10_changes ∈ TBL) (hR : (rm_X10_changes).frames + 1 ≤ R.frames ∧ 8 + (1 + 11) + (rm_X10_changes).locals ≤ R.locals) (hcs : cells ≤ R.cells ∧ slots ≤ R.slots) (hls : ls.size = nL) (hcat : (rest.map fun v => v.category).sum ≤ 8) (d : decode cc pc = .ok (.invokevirtual idx, 3)) (kk : ∀ (H1 : Heap) (locs1 : List Loc), AtW E (wM E σf ++ X) A s H1 locs1 → W p l e R s m a below meth c H1 locs1 cells slots Q (F0 m (pc + 3) ls (.int rv :: rest))) : W p l e R s m a below meth c H locs cells slots Q (F0 m pc ls (.ref (eA E 0) :: rest)) :=
  r_calli (n := 0) (As := []) (q0 := 0) (ci := 10) (qq := (RX10, TX10, 64)) (c_X10_changes h) wM_fst rfl rfl mk_8_114 mk_8_115 mk_1_11 mk_8_116 (by decide +kernel) rfl ⟨rfl, rfl⟩ cx hV w1 hR hcs hls rfl hcat d kk
def x_X10_changed (p1 : Int32) (σ : St) : Option (Int32 × St) :=
  bd (some (sI σ 0 0)) fun σ1 =>
  bd (x_X10_findChanges σ1) fun σ2 =>
  bd (x_X10_within p1 0 ((gI σ2 22) - 1)) fun v3 =>
  (if v3 = 0 then
  some ((-1), σ2)
  else
  bd (ldI (gA σ2 33) (lenM 33) p1) fun v4 =>
  some (v4, σ2))
abbrev rm_X10_changed : Room := { frames := 1, cells := 0, slots := 0, locals := 22 }
set_option maxHeartbeats 4000000 in
set_option maxRecDepth 100000 in
theorem c_X10_changed {l : Launch} {E : EV} {X : va_W} {σ : St} {p1 : Int32} {rv : Int32} {σf : St} (h : x_X10_changed p1 σ = some (rv, σf)) : CM l yX10_changed cX10_changed 2 (some .int) rm_X10_changed [.ref (eA E 0), .int p1] E (wM E σ ++ X) (wM E σf ++ X) (qI rv) := by
  refine CM.start (by decide) (Nat.le_of_ble_eq_true rfl) (fun p e s m a below meth c A ls cx hr hlk hV hl => ?_)
  have cx : CallFix p m c cX10_changed 2 s a TBL RX10 := cx
  have hx := cx.1
  have hb := cx.2.1
  have hl : lv_has ls 2 [(0, .ref (eA E 0)), (1, .int p1)] := hl
  generalize hQ : EQ E (wM E σf ++ X) (qI rv) A s a below = QQ
  obtain ⟨H, hH⟩ : ∃ H, H = s.heap := ⟨_, rfl⟩
  obtain ⟨locs, hlocs⟩ : ∃ z, z = ([] : List Loc) := ⟨_, rfl⟩
  have hV : AtW E (wM E σ ++ X) A s H locs := by rw [hH, hlocs]; exact hV
  have goal : W p l e rm_X10_changed s m a below meth c H locs 0 0 QQ (F0 m 0 ls []) := by
    unfold x_X10_changed at h
    refine lv_aload_n hx hb dX10_changed_0 rfl (lv_at hl 0 rfl) ?_
    refine lv_iconst (v := 0) hx hb dX10_changed_1 (by decide) ?_
    refine bd_e h (fun σ1 hq h => ?_)
    refine P_X10_thrown cx hV hq mk_6_97 dX10_changed_2 (fun H locs hV => ?_)
    refine lv_aload_n hx hb dX10_changed_5 rfl (lv_at hl 0 rfl) ?_
    refine bd_e h (fun σ2 hq h => ?_)
    refine k_X10_findChanges hq cx hV mk_8_117 ⟨Nat.le_of_ble_eq_true rfl, Nat.le_of_ble_eq_true rfl⟩ ⟨Nat.zero_le _, Nat.zero_le _⟩ hl.1 (Nat.le_of_ble_eq_true rfl) dX10_changed_6 (fun H locs hV => ?_)
    refine lv_iload_n hx hb dX10_changed_9 rfl (lv_at hl 1 rfl) ?_
    refine lv_iconst (v := 0) hx hb dX10_changed_10 (by decide) ?_
    refine lv_aload_n hx hb dX10_changed_11 rfl (lv_at hl 0 rfl) ?_
    refine G_X10_changeMany cx hV mk_6_157 dX10_changed_12 ?_
    refine lv_iconst (v := 1) hx hb dX10_changed_15 (by decide) ?_
    refine lv_isub hx hb dX10_changed_16 ?_
    refine bd_e h (fun v3 hq h => ?_)
    refine k_X10_within hq cx hV mk_7_141 ⟨Nat.le_of_ble_eq_true rfl, Nat.le_of_ble_eq_true rfl⟩ ⟨Nat.zero_le _, Nat.zero_le _⟩ hl.1 (Nat.le_of_ble_eq_true rfl) dX10_changed_17 (fun H locs hV => ?_)
    refine lv_if_eq (tgt := 32) hx hb dX10_changed_20 (by decide) (fun hc => ?_) (fun hc => ?_)
    · have h := ifp hc h
      refine lv_iconst (v := (-1)) hx hb dX10_changed_32 (by decide) ?_
      obtain ⟨h1, h2⟩ := Prod.mk.inj (Option.some.inj h)
      subst h1
      subst h2
      subst hQ
      exact r_ireti cx hr hlk hV dX10_changed_33
    · have h := ifn hc h
      refine lv_aload_n hx hb dX10_changed_23 rfl (lv_at hl 0 rfl) ?_
      refine G_X10_change cx hV mk_6_156 dX10_changed_24 ?_
      refine lv_iload_n hx hb dX10_changed_27 rfl (lv_at hl 1 rfl) ?_
      refine bd_e h (fun v4 hq h => ?_)
      refine R_M_iald cx hV (by decide) hq dX10_changed_28 ?_
      refine lv_goto (tgt := 33) hx hb dX10_changed_29 (by decide) ?_
      obtain ⟨h1, h2⟩ := Prod.mk.inj (Option.some.inj h)
      subst h1
      subst h2
      subst hQ
      exact r_ireti cx hr hlk hV dX10_changed_33
  rw [hH, hlocs] at goal
  exact goal
theorem k_X10_changed {p : Program} {l : Launch} {e : Env} {R : Room} {s : State} {m : MethodId} {a : Array Value} {below : List Frame} {meth : Method} {c : Code} {H : Heap} {locs : List Loc} {cells slots : Nat} {Q : State → Prop} {cc : ByteArray} {own : String} {nL pc : Nat} {ls : Array Slot} {rest : List Value} {A : Nat → Prop} {E : EV} {X : va_W} {σ : St} {p1 : Int32} {rv : Int32} {σf : St} (h : x_X10_changed p1 σ = some (rv, σf)) (cx : CallFix p m c cc nL s a TBL own) (hV : AtW E (wM E σ ++ X) A s H locs) {idx : Nat} (w1 : Cond.methodLink own idx yX10_changed ∈ TBL) (hR : (rm_X10_changed).frames + 1 ≤ R.frames ∧ 8 + (2 + 11) + (rm_X10_changed).locals ≤ R.locals) (hcs : cells ≤ R.cells ∧ slots ≤ R.slots) (hls : ls.size = nL) (hcat : (rest.map fun v => v.category).sum ≤ 8) (d : decode cc pc = .ok (.invokevirtual idx, 3)) (kk : ∀ (H1 : Heap) (locs1 : List Loc), AtW E (wM E σf ++ X) A s H1 locs1 → W p l e R s m a below meth c H1 locs1 cells slots Q (F0 m (pc + 3) ls (.int rv :: rest))) : W p l e R s m a below meth c H locs cells slots Q (F0 m pc ls (.int p1 :: .ref (eA E 0) :: rest)) :=
  r_calli (n := 1) (As := [.int p1]) (q0 := 0) (ci := 10) (qq := (RX10, TX10, 64)) (c_X10_changed h) wM_fst rfl rfl mk_8_122 mk_8_123 mk_1_11 mk_8_124 (by decide +kernel) rfl ⟨rfl, rfl⟩ cx hV w1 hR hcs hls rfl hcat d kk
def x_X10_divider (p1 : Int32) (σ : St) : Option (Int32 × St) :=
  bd (some (sI σ 0 0)) fun σ1 =>
  bd (x_X10_within p1 0 ((gI σ1 8) - 1)) fun v2 =>
  (if v2 = 0 then
  some ((-1), σ1)
  else
  bd (ldI (gA σ1 18) (lenM 18) p1) fun v3 =>
  some (v3, σ1))
abbrev rm_X10_divider : Room := { frames := 1, cells := 0, slots := 0, locals := 22 }
set_option maxHeartbeats 4000000 in
set_option maxRecDepth 100000 in
theorem c_X10_divider {l : Launch} {E : EV} {X : va_W} {σ : St} {p1 : Int32} {rv : Int32} {σf : St} (h : x_X10_divider p1 σ = some (rv, σf)) : CM l yX10_divider cX10_divider 2 (some .int) rm_X10_divider [.ref (eA E 0), .int p1] E (wM E σ ++ X) (wM E σf ++ X) (qI rv) := by
  refine CM.start (by decide) (Nat.le_of_ble_eq_true rfl) (fun p e s m a below meth c A ls cx hr hlk hV hl => ?_)
  have cx : CallFix p m c cX10_divider 2 s a TBL RX10 := cx
  have hx := cx.1
  have hb := cx.2.1
  have hl : lv_has ls 2 [(0, .ref (eA E 0)), (1, .int p1)] := hl
  generalize hQ : EQ E (wM E σf ++ X) (qI rv) A s a below = QQ
  obtain ⟨H, hH⟩ : ∃ H, H = s.heap := ⟨_, rfl⟩
  obtain ⟨locs, hlocs⟩ : ∃ z, z = ([] : List Loc) := ⟨_, rfl⟩
  have hV : AtW E (wM E σ ++ X) A s H locs := by rw [hH, hlocs]; exact hV
  have goal : W p l e rm_X10_divider s m a below meth c H locs 0 0 QQ (F0 m 0 ls []) := by
    unfold x_X10_divider at h
    refine lv_aload_n hx hb dX10_divider_0 rfl (lv_at hl 0 rfl) ?_
    refine lv_iconst (v := 0) hx hb dX10_divider_1 (by decide) ?_
    refine bd_e h (fun σ1 hq h => ?_)
    refine P_X10_thrown cx hV hq mk_6_97 dX10_divider_2 (fun H locs hV => ?_)
    refine lv_iload_n hx hb dX10_divider_5 rfl (lv_at hl 1 rfl) ?_
    refine lv_iconst (v := 0) hx hb dX10_divider_6 (by decide) ?_
    refine lv_aload_n hx hb dX10_divider_7 rfl (lv_at hl 0 rfl) ?_
    refine G_X10_crates cx hV mk_6_121 dX10_divider_8 ?_
    refine lv_iconst (v := 1) hx hb dX10_divider_11 (by decide) ?_
    refine lv_isub hx hb dX10_divider_12 ?_
    refine bd_e h (fun v2 hq h => ?_)
    refine k_X10_within hq cx hV mk_7_141 ⟨Nat.le_of_ble_eq_true rfl, Nat.le_of_ble_eq_true rfl⟩ ⟨Nat.zero_le _, Nat.zero_le _⟩ hl.1 (Nat.le_of_ble_eq_true rfl) dX10_divider_13 (fun H locs hV => ?_)
    refine lv_if_eq (tgt := 28) hx hb dX10_divider_16 (by decide) (fun hc => ?_) (fun hc => ?_)
    · have h := ifp hc h
      refine lv_iconst (v := (-1)) hx hb dX10_divider_28 (by decide) ?_
      obtain ⟨h1, h2⟩ := Prod.mk.inj (Option.some.inj h)
      subst h1
      subst h2
      subst hQ
      exact r_ireti cx hr hlk hV dX10_divider_29
    · have h := ifn hc h
      refine lv_aload_n hx hb dX10_divider_19 rfl (lv_at hl 0 rfl) ?_
      refine G_X10_standing cx hV mk_6_131 dX10_divider_20 ?_
      refine lv_iload_n hx hb dX10_divider_23 rfl (lv_at hl 1 rfl) ?_
      refine bd_e h (fun v3 hq h => ?_)
      refine R_M_iald cx hV (by decide) hq dX10_divider_24 ?_
      refine lv_goto (tgt := 29) hx hb dX10_divider_25 (by decide) ?_
      obtain ⟨h1, h2⟩ := Prod.mk.inj (Option.some.inj h)
      subst h1
      subst h2
      subst hQ
      exact r_ireti cx hr hlk hV dX10_divider_29
  rw [hH, hlocs] at goal
  exact goal
theorem k_X10_divider {p : Program} {l : Launch} {e : Env} {R : Room} {s : State} {m : MethodId} {a : Array Value} {below : List Frame} {meth : Method} {c : Code} {H : Heap} {locs : List Loc} {cells slots : Nat} {Q : State → Prop} {cc : ByteArray} {own : String} {nL pc : Nat} {ls : Array Slot} {rest : List Value} {A : Nat → Prop} {E : EV} {X : va_W} {σ : St} {p1 : Int32} {rv : Int32} {σf : St} (h : x_X10_divider p1 σ = some (rv, σf)) (cx : CallFix p m c cc nL s a TBL own) (hV : AtW E (wM E σ ++ X) A s H locs) {idx : Nat} (w1 : Cond.methodLink own idx yX10_divider ∈ TBL) (hR : (rm_X10_divider).frames + 1 ≤ R.frames ∧ 8 + (2 + 11) + (rm_X10_divider).locals ≤ R.locals) (hcs : cells ≤ R.cells ∧ slots ≤ R.slots) (hls : ls.size = nL) (hcat : (rest.map fun v => v.category).sum ≤ 8) (d : decode cc pc = .ok (.invokevirtual idx, 3)) (kk : ∀ (H1 : Heap) (locs1 : List Loc), AtW E (wM E σf ++ X) A s H1 locs1 → W p l e R s m a below meth c H1 locs1 cells slots Q (F0 m (pc + 3) ls (.int rv :: rest))) : W p l e R s m a below meth c H locs cells slots Q (F0 m pc ls (.int p1 :: .ref (eA E 0) :: rest)) :=
  r_calli (n := 1) (As := [.int p1]) (q0 := 0) (ci := 10) (qq := (RX10, TX10, 64)) (c_X10_divider h) wM_fst rfl rfl mk_8_126 mk_8_127 mk_1_11 mk_8_128 (by decide +kernel) rfl ⟨rfl, rfl⟩ cx hV w1 hR hcs hls rfl hcat d kk
def x_X10_ones_L4 (u1 : Int32) (u2 : Int32) : Option (Bool × (Int32 × Int32)) :=
  (if u2 = 0 then
  some (false, (u1, u2))
  else
  some (true, ((u1 + 1), (u2 &&& (u2 - 1)))))
def x_X10_ones (p1 : Int32) : Option Int32 :=
  bd2 (lp (fun v : (Int32 × Int32) => x_X10_ones_L4 v.1 v.2) FU (0, p1)) fun z3 z4 =>
  some z3
abbrev rm_X10_ones : Room := { frames := 0, cells := 0, slots := 0, locals := 0 }
set_option maxHeartbeats 4000000 in
set_option maxRecDepth 100000 in
theorem c_X10_ones {l : Launch} {E : EV} {V : va_W} {p1 : Int32} {rv : Int32} (h : x_X10_ones p1 = some rv) : CM l yX10_ones cX10_ones 3 (some .int) rm_X10_ones [.int p1] E V V (qI rv) := by
  refine CM.start (by decide) (Nat.le_of_ble_eq_true rfl) (fun p e s m a below meth c A ls cx hr hlk hV hl => ?_)
  have cx : CallFix p m c cX10_ones 3 s a TBL RX10 := cx
  have hx := cx.1
  have hb := cx.2.1
  have hl : lv_has ls 3 [(0, .int p1)] := hl
  generalize hQ : EQ E V (qI rv) A s a below = QQ
  obtain ⟨H, hH⟩ : ∃ H, H = s.heap := ⟨_, rfl⟩
  obtain ⟨locs, hlocs⟩ : ∃ z, z = ([] : List Loc) := ⟨_, rfl⟩
  have hV : AtW E V A s H locs := by rw [hH, hlocs]; exact hV
  have goal : W p l e rm_X10_ones s m a below meth c H locs 0 0 QQ (F0 m 0 ls []) := by
    unfold x_X10_ones at h
    refine lv_iconst (v := 0) hx hb dX10_ones_0 (by decide) ?_
    refine lv_istore_n (lv' := [(1, .int 0), (0, .int p1)]) hx hb dX10_ones_1 rfl hl (by decide) rfl (fun ls hl => ?_)
    refine lv_iload_n hx hb dX10_ones_2 rfl (lv_at hl 1 rfl) ?_
    refine lv_istore_n (lv' := [(2, .int p1), (1, .int 0), (0, .int p1)]) hx hb dX10_ones_3 rfl hl (by decide) rfl (fun ls hl => ?_)
    refine bd2_e h (fun z3 z4 ho h => ?_)
    refine (lp_rule (G := (fun v : (Int32 × Int32) => ∀ (H : Heap) (locs : List Loc) (ls : Array Slot), AtW E V A s H locs → lv_has ls 3 [(1, .int v.1), (2, .int v.2)] → W p l e rm_X10_ones s m a below meth c H locs 0 0 QQ (F0 m 4 ls []))) (K := (fun v : (Int32 × Int32) => ∀ (H : Heap) (locs : List Loc) (ls : Array Slot), AtW E V A s H locs → lv_has ls 3 [(1, .int v.1)] → W p l e rm_X10_ones s m a below meth c H locs 0 0 QQ (F0 m 20 ls []))) (fun v b1 y1 h hT1 hF1 => ?_) ho (fun H locs ls hV hl => ?_)) _ _ _ hV (lv_sub hl [1, 0] rfl)
    · obtain ⟨u1, u2⟩ := v
      have h : x_X10_ones_L4 u1 u2 = some (b1, y1) := h
      intro H locs ls hV hl
      have hV : AtW E V A s H locs := hV
      have hl : lv_has ls 3 [(1, .int u1), (2, .int u2)] := hl
      unfold x_X10_ones_L4 at h
      refine lv_iload_n hx hb dX10_ones_4 rfl (lv_at hl 1 rfl) ?_
      refine lv_if_eq (tgt := 20) hx hb dX10_ones_5 (by decide) (fun hc => ?_) (fun hc => ?_)
      · have h := ifp hc h
        cases h
        exact hF1 rfl _ _ _ hV (lv_sub hl [0] rfl)
      · have h := ifn hc h
        refine lv_iinc (v := (u1 + 1)) (lv' := [(1, .int (u1 + 1)), (2, .int u2)]) hx hb dX10_ones_8 hl (k := 0) rfl rfl (by decide) rfl (fun ls hl => ?_)
        refine lv_iload_n hx hb dX10_ones_11 rfl (lv_at hl 1 rfl) ?_
        refine lv_iload_n hx hb dX10_ones_12 rfl (lv_at hl 1 rfl) ?_
        refine lv_iconst (v := 1) hx hb dX10_ones_13 (by decide) ?_
        refine lv_isub hx hb dX10_ones_14 ?_
        refine lv_iand hx hb dX10_ones_15 ?_
        refine lv_istore_n (lv' := [(2, .int (u2 &&& (u2 - 1))), (1, .int (u1 + 1))]) hx hb dX10_ones_16 rfl hl (by decide) rfl (fun ls hl => ?_)
        refine lv_goto (tgt := 4) hx hb dX10_ones_17 (by decide) ?_
        cases h
        exact hT1 rfl _ _ _ hV (lv_sub hl [1, 0] rfl)
    · have hV : AtW E V A s H locs := hV
      have hl : lv_has ls 3 [(1, .int z3)] := hl
      refine lv_iload_n hx hb dX10_ones_20 rfl (lv_at hl 0 rfl) ?_
      have h1 := Option.some.inj h
      subst h1
      subst hQ
      exact r_ireti cx hr hlk hV dX10_ones_21
  rw [hH, hlocs] at goal
  exact goal
theorem k_X10_ones {p : Program} {l : Launch} {e : Env} {R : Room} {s : State} {m : MethodId} {a : Array Value} {below : List Frame} {meth : Method} {c : Code} {H : Heap} {locs : List Loc} {cells slots : Nat} {Q : State → Prop} {cc : ByteArray} {own : String} {nL pc : Nat} {ls : Array Slot} {rest : List Value} {A : Nat → Prop} {E : EV} {V : va_W} {p1 : Int32} {rv : Int32} (h : x_X10_ones p1 = some rv) (cx : CallFix p m c cc nL s a TBL own) (hV : AtW E V A s H locs) {idx : Nat} (w1 : Cond.methodLink own idx yX10_ones ∈ TBL) (hR : (rm_X10_ones).frames + 1 ≤ R.frames ∧ 8 + (3 + 11) + (rm_X10_ones).locals ≤ R.locals) (hcs : cells ≤ R.cells ∧ slots ≤ R.slots) (hls : ls.size = nL) (hcat : (rest.map fun v => v.category).sum ≤ 8) (d : decode cc pc = .ok (.invokestatic idx, 3)) (kk : ∀ (H1 : Heap) (locs1 : List Loc), AtW E V A s H1 locs1 → W p l e R s m a below meth c H1 locs1 cells slots Q (F0 m (pc + 3) ls (.int rv :: rest))) : W p l e R s m a below meth c H locs cells slots Q (F0 m pc ls (.int p1 :: rest)) :=
  r_sti (n := 1) (As := [.int p1]) (c_X10_ones h) rfl mk_8_134 mk_1_11 mk_8_135 (by decide +kernel) rfl ⟨rfl, rfl⟩ cx hV w1 hR hcs hls rfl hcat d kk
def x_X10_mayStay_L4 (p1 : Int32) (σ : St) (u1 : Int32) (u2 : Int32) : Option ((Bool × (Int32 × Int32)) ⊕ Int32) :=
  (if (gI σ 8) ≤ u2 then
  some (.inl (false, (u1, u2)))
  else
  bd (ldI (gA σ 18) (lenM 18) u2) fun v3 =>
  (if ((p1 >>> (v3 &&& 31)) &&& 1) = 0 then
  some (.inl (true, (u1, (u2 + 1))))
  else
  bd (ldI (gA σ 18) (lenM 18) u2) fun v4 =>
  (if u1 ≤ v4 then
  bd (ldI (gA σ 18) (lenM 18) u2) fun v5 =>
  some (.inl (true, (v5, (u2 + 1))))
  else
  some (.inr 0))))
def x_X10_mayStay (p1 : Int32) (σ : St) : Option Int32 :=
  bs2 (lpr (fun v : (Int32 × Int32) => x_X10_mayStay_L4 p1 σ v.1 v.2) FU ((-1), 0)) (fun z6 z7 =>
  some 1) some
abbrev rm_X10_mayStay : Room := { frames := 0, cells := 0, slots := 0, locals := 0 }
set_option maxHeartbeats 4000000 in
set_option maxRecDepth 100000 in
theorem c_X10_mayStay {l : Launch} {E : EV} {X : va_W} {σ : St} {p1 : Int32} {rv : Int32} (h : x_X10_mayStay p1 σ = some rv) : CM l yX10_mayStay cX10_mayStay 4 (some .boolean) rm_X10_mayStay [.ref (eA E 0), .int p1] E (wM E σ ++ X) (wM E σ ++ X) (qI rv) := by
  refine CM.start (by decide) (Nat.le_of_ble_eq_true rfl) (fun p e s m a below meth c A ls cx hr hlk hV hl => ?_)
  have cx : CallFix p m c cX10_mayStay 4 s a TBL RX10 := cx
  have hx := cx.1
  have hb := cx.2.1
  have hl : lv_has ls 4 [(0, .ref (eA E 0)), (1, .int p1)] := hl
  generalize hQ : EQ E (wM E σ ++ X) (qI rv) A s a below = QQ
  obtain ⟨H, hH⟩ : ∃ H, H = s.heap := ⟨_, rfl⟩
  obtain ⟨locs, hlocs⟩ : ∃ z, z = ([] : List Loc) := ⟨_, rfl⟩
  have hV : AtW E (wM E σ ++ X) A s H locs := by rw [hH, hlocs]; exact hV
  have goal : W p l e rm_X10_mayStay s m a below meth c H locs 0 0 QQ (F0 m 0 ls []) := by
    unfold x_X10_mayStay at h
    refine lv_iconst (v := (-1)) hx hb dX10_mayStay_0 (by decide) ?_
    refine lv_istore_n (lv' := [(2, .int (-1)), (0, .ref (eA E 0)), (1, .int p1)]) hx hb dX10_mayStay_1 rfl hl (by decide) rfl (fun ls hl => ?_)
    refine lv_iconst (v := 0) hx hb dX10_mayStay_2 (by decide) ?_
    refine lv_istore_n (lv' := [(3, .int 0), (2, .int (-1)), (0, .ref (eA E 0)), (1, .int p1)]) hx hb dX10_mayStay_3 rfl hl (by decide) rfl (fun ls hl => ?_)
    obtain ⟨o1, ho⟩ := bs2_get h
    rw [ho] at h
    refine (lpr_rule (G := (fun v : (Int32 × Int32) => ∀ (H : Heap) (locs : List Loc) (ls : Array Slot), AtW E (wM E σ ++ X) A s H locs → lv_has ls 4 [(0, .ref (eA E 0)), (1, .int p1), (2, .int v.1), (3, .int v.2)] → W p l e rm_X10_mayStay s m a below meth c H locs 0 0 QQ (F0 m 4 ls []))) (K := (fun v : (Int32 × Int32) => ∀ (H : Heap) (locs : List Loc) (ls : Array Slot), AtW E (wM E σ ++ X) A s H locs → lv_has ls 4 [] → W p l e rm_X10_mayStay s m a below meth c H locs 0 0 QQ (F0 m 53 ls []))) (KR := (fun r => some r = some rv)) (fun v e1 h hT1 hF1 hR1 => ?_) ho (fun v hv => ?_) (fun r hv => ?_)) _ _ _ hV (lv_sub hl [2, 3, 1, 0] rfl)
    · obtain ⟨u1, u2⟩ := v
      have h : x_X10_mayStay_L4 p1 σ u1 u2 = some e1 := h
      intro H locs ls hV hl
      have hV : AtW E (wM E σ ++ X) A s H locs := hV
      have hl : lv_has ls 4 [(0, .ref (eA E 0)), (1, .int p1), (2, .int u1), (3, .int u2)] := hl
      unfold x_X10_mayStay_L4 at h
      refine lv_iload_n hx hb dX10_mayStay_4 rfl (lv_at hl 3 rfl) ?_
      refine lv_aload_n hx hb dX10_mayStay_5 rfl (lv_at hl 0 rfl) ?_
      refine G_X10_crates cx hV mk_6_121 dX10_mayStay_6 ?_
      refine lv_icmp_ge (tgt := 53) hx hb dX10_mayStay_9 (by decide) (fun hc => ?_) (fun hc => ?_)
      · have h := ifp hc h
        cases h
        exact hF1 _ rfl _ _ _ hV (lv_sub hl [] rfl)
      · have h := ifn hc h
        refine lv_iload_n hx hb dX10_mayStay_12 rfl (lv_at hl 1 rfl) ?_
        refine lv_aload_n hx hb dX10_mayStay_13 rfl (lv_at hl 0 rfl) ?_
        refine G_X10_standing cx hV mk_6_131 dX10_mayStay_14 ?_
        refine lv_iload_n hx hb dX10_mayStay_17 rfl (lv_at hl 3 rfl) ?_
        refine bd_e h (fun v3 hq h => ?_)
        refine R_M_iald cx hV (by decide) hq dX10_mayStay_18 ?_
        refine lv_ishr hx hb dX10_mayStay_19 ?_
        refine lv_iconst (v := 1) hx hb dX10_mayStay_20 (by decide) ?_
        refine lv_iand hx hb dX10_mayStay_21 ?_
        refine lv_if_ne (tgt := 28) hx hb dX10_mayStay_22 (by decide) (fun hc => ?_) (fun hc => ?_)
        · have h := ifn hc h
          refine lv_aload_n hx hb dX10_mayStay_28 rfl (lv_at hl 0 rfl) ?_
          refine G_X10_standing cx hV mk_6_131 dX10_mayStay_29 ?_
          refine lv_iload_n hx hb dX10_mayStay_32 rfl (lv_at hl 3 rfl) ?_
          refine bd_e h (fun v4 hq h => ?_)
          refine R_M_iald cx hV (by decide) hq dX10_mayStay_33 ?_
          refine lv_iload_n hx hb dX10_mayStay_34 rfl (lv_at hl 2 rfl) ?_
          refine lv_icmp_ge (tgt := 40) hx hb dX10_mayStay_35 (by decide) (fun hc => ?_) (fun hc => ?_)
          · have h := ifp hc h
            refine lv_aload_n hx hb dX10_mayStay_40 rfl (lv_at hl 0 rfl) ?_
            refine G_X10_standing cx hV mk_6_131 dX10_mayStay_41 ?_
            refine lv_iload_n hx hb dX10_mayStay_44 rfl (lv_at hl 3 rfl) ?_
            refine bd_e h (fun v5 hq h => ?_)
            refine R_M_iald cx hV (by decide) hq dX10_mayStay_45 ?_
            refine lv_istore_n (lv' := [(2, .int v5), (0, .ref (eA E 0)), (1, .int p1), (3, .int u2)]) hx hb dX10_mayStay_46 rfl hl (by decide) rfl (fun ls hl => ?_)
            refine lv_iinc (v := (u2 + 1)) (lv' := [(3, .int (u2 + 1)), (2, .int v5), (0, .ref (eA E 0)), (1, .int p1)]) hx hb dX10_mayStay_47 hl (k := 3) rfl rfl (by decide) rfl (fun ls hl => ?_)
            refine lv_goto (tgt := 4) hx hb dX10_mayStay_50 (by decide) ?_
            cases h
            exact hT1 _ rfl _ _ _ hV (lv_sub hl [2, 3, 1, 0] rfl)
          · have h := ifn hc h
            refine lv_iconst (v := 0) hx hb dX10_mayStay_38 (by decide) ?_
            cases h
            have h := hR1 _ rfl
            cases h
            subst hQ
            exact r_zreti cx hr hlk hV (Or.inl rfl) dX10_mayStay_39
        · have h := ifp hc h
          refine lv_goto (tgt := 47) hx hb dX10_mayStay_25 (by decide) ?_
          refine lv_iinc (v := (u2 + 1)) (lv' := [(3, .int (u2 + 1)), (0, .ref (eA E 0)), (1, .int p1), (2, .int u1)]) hx hb dX10_mayStay_47 hl (k := 3) rfl rfl (by decide) rfl (fun ls hl => ?_)
          refine lv_goto (tgt := 4) hx hb dX10_mayStay_50 (by decide) ?_
          cases h
          exact hT1 _ rfl _ _ _ hV (lv_sub hl [1, 2, 3, 0] rfl)
    · subst hv
      obtain ⟨z6, z7⟩ := v
      intro H locs ls hV hl
      have hV : AtW E (wM E σ ++ X) A s H locs := hV
      have hl : lv_has ls 4 [] := hl
      have h := bs2_inl h
      refine lv_iconst (v := 1) hx hb dX10_mayStay_53 (by decide) ?_
      have h1 := Option.some.inj h
      subst h1
      subst hQ
      exact r_zreti cx hr hlk hV (Or.inr rfl) dX10_mayStay_54
    · subst hv
      exact bs2_inr h
  rw [hH, hlocs] at goal
  exact goal
theorem k_X10_mayStay {p : Program} {l : Launch} {e : Env} {R : Room} {s : State} {m : MethodId} {a : Array Value} {below : List Frame} {meth : Method} {c : Code} {H : Heap} {locs : List Loc} {cells slots : Nat} {Q : State → Prop} {cc : ByteArray} {own : String} {nL pc : Nat} {ls : Array Slot} {rest : List Value} {A : Nat → Prop} {E : EV} {X : va_W} {σ : St} {p1 : Int32} {rv : Int32} (h : x_X10_mayStay p1 σ = some rv) (cx : CallFix p m c cc nL s a TBL own) (hV : AtW E (wM E σ ++ X) A s H locs) {idx : Nat} (w1 : Cond.methodLink own idx yX10_mayStay ∈ TBL) (hR : (rm_X10_mayStay).frames + 1 ≤ R.frames ∧ 8 + (4 + 11) + (rm_X10_mayStay).locals ≤ R.locals) (hcs : cells ≤ R.cells ∧ slots ≤ R.slots) (hls : ls.size = nL) (hcat : (rest.map fun v => v.category).sum ≤ 8) (d : decode cc pc = .ok (.invokevirtual idx, 3)) (kk : ∀ (H1 : Heap) (locs1 : List Loc), AtW E (wM E σ ++ X) A s H1 locs1 → W p l e R s m a below meth c H1 locs1 cells slots Q (F0 m (pc + 3) ls (.int rv :: rest))) : W p l e R s m a below meth c H locs cells slots Q (F0 m pc ls (.int p1 :: .ref (eA E 0) :: rest)) :=
  r_calli (n := 1) (As := [.int p1]) (q0 := 0) (ci := 10) (qq := (RX10, TX10, 64)) (c_X10_mayStay h) rfl rfl rfl mk_8_138 mk_P_103 mk_1_11 mk_8_139 (by decide +kernel) rfl ⟨rfl, rfl⟩ cx hV w1 hR hcs hls rfl hcat d kk
def x_X10_moves_L26 (p1 : Int32) (σ4 : St) (u5 : Int32) (u6 : Int32) : Option (Bool × (Int32 × Int32)) :=
  (if (1 <<< ((gI σ4 8) &&& 31)) ≤ u6 then
  some (false, (u5, u6))
  else
  bd (x_X10_ones u6) fun v7 =>
  bd (x_X10_ones u5) fun v8 =>
  (if v7 ≤ v8 then
  some (true, (u5, (u6 + 1)))
  else
  bd (x_X10_mayStay u6 σ4) fun v9 =>
  (if v9 = 0 then
  some (true, (u5, (u6 + 1)))
  else
  some (true, (u6, (u6 + 1))))))
def x_X10_moves (p1 : Int32) (σ : St) : Option (Int32 × St) :=
  bd (some (sI σ 0 0)) fun σ1 =>
  bd (x_X10_within p1 0 1) fun v2 =>
  bd2 (x_X10_may v2 1 2 σ1) fun v3 σ4 =>
  (if v3 = 0 then
  some (0, σ4)
  else
  bd2 (lp (fun v : (Int32 × Int32) => x_X10_moves_L26 p1 σ4 v.1 v.2) FU (0, 1)) fun z10 z11 =>
  (if p1 = 0 then
  bd (x_X10_ones z10) fun v12 =>
  some (((gI σ4 8) - v12), σ4)
  else
  some (z10, σ4)))
abbrev rm_X10_moves : Room := { frames := 1, cells := 0, slots := 0, locals := 23 }
set_option maxHeartbeats 4000000 in
set_option maxRecDepth 100000 in
theorem c_X10_moves {l : Launch} {E : EV} {X : va_W} {σ : St} {p1 : Int32} {rv : Int32} {σf : St} (h : x_X10_moves p1 σ = some (rv, σf)) : CM l yX10_moves cX10_moves 4 (some .int) rm_X10_moves [.ref (eA E 0), .int p1] E (wM E σ ++ X) (wM E σf ++ X) (qI rv) := by
  refine CM.start (by decide) (Nat.le_of_ble_eq_true rfl) (fun p e s m a below meth c A ls cx hr hlk hV hl => ?_)
  have cx : CallFix p m c cX10_moves 4 s a TBL RX10 := cx
  have hx := cx.1
  have hb := cx.2.1
  have hl : lv_has ls 4 [(0, .ref (eA E 0)), (1, .int p1)] := hl
  generalize hQ : EQ E (wM E σf ++ X) (qI rv) A s a below = QQ
  obtain ⟨H, hH⟩ : ∃ H, H = s.heap := ⟨_, rfl⟩
  obtain ⟨locs, hlocs⟩ : ∃ z, z = ([] : List Loc) := ⟨_, rfl⟩
  have hV : AtW E (wM E σ ++ X) A s H locs := by rw [hH, hlocs]; exact hV
  have goal : W p l e rm_X10_moves s m a below meth c H locs 0 0 QQ (F0 m 0 ls []) := by
    unfold x_X10_moves at h
    refine lv_aload_n hx hb dX10_moves_0 rfl (lv_at hl 0 rfl) ?_
    refine lv_iconst (v := 0) hx hb dX10_moves_1 (by decide) ?_
    refine bd_e h (fun σ1 hq h => ?_)
    refine P_X10_thrown cx hV hq mk_6_97 dX10_moves_2 (fun H locs hV => ?_)
    refine lv_aload_n hx hb dX10_moves_5 rfl (lv_at hl 0 rfl) ?_
    refine lv_iload_n hx hb dX10_moves_6 rfl (lv_at hl 1 rfl) ?_
    refine lv_iconst (v := 0) hx hb dX10_moves_7 (by decide) ?_
    refine lv_iconst (v := 1) hx hb dX10_moves_8 (by decide) ?_
    refine bd_e h (fun v2 hq h => ?_)
    refine k_X10_within hq cx hV mk_7_141 ⟨Nat.le_of_ble_eq_true rfl, Nat.le_of_ble_eq_true rfl⟩ ⟨Nat.zero_le _, Nat.zero_le _⟩ hl.1 (Nat.le_of_ble_eq_true rfl) dX10_moves_9 (fun H locs hV => ?_)
    refine lv_iconst (v := 1) hx hb dX10_moves_12 (by decide) ?_
    refine lv_iconst (v := 2) hx hb dX10_moves_13 (by decide) ?_
    refine bd2_e h (fun v3 σ4 hq h => ?_)
    refine k_X10_may hq cx hV mk_7_62 ⟨Nat.le_of_ble_eq_true rfl, Nat.le_of_ble_eq_true rfl⟩ ⟨Nat.zero_le _, Nat.zero_le _⟩ hl.1 (Nat.le_of_ble_eq_true rfl) dX10_moves_14 (fun H locs hV => ?_)
    refine lv_if_ne (tgt := 22) hx hb dX10_moves_17 (by decide) (fun hc => ?_) (fun hc => ?_)
    · have h := ifn hc h
      refine lv_iconst (v := 0) hx hb dX10_moves_22 (by decide) ?_
      refine lv_istore_n (lv' := [(2, .int 0), (0, .ref (eA E 0)), (1, .int p1)]) hx hb dX10_moves_23 rfl hl (by decide) rfl (fun ls hl => ?_)
      refine lv_iconst (v := 1) hx hb dX10_moves_24 (by decide) ?_
      refine lv_istore_n (lv' := [(3, .int 1), (2, .int 0), (0, .ref (eA E 0)), (1, .int p1)]) hx hb dX10_moves_25 rfl hl (by decide) rfl (fun ls hl => ?_)
      refine bd2_e h (fun z10 z11 ho h => ?_)
      refine (lp_rule (G := (fun v : (Int32 × Int32) => ∀ (H : Heap) (locs : List Loc) (ls : Array Slot), AtW E (wM E σ4 ++ X) A s H locs → lv_has ls 4 [(0, .ref (eA E 0)), (1, .int p1), (2, .int v.1), (3, .int v.2)] → W p l e rm_X10_moves s m a below meth c H locs 0 0 QQ (F0 m 26 ls []))) (K := (fun v : (Int32 × Int32) => ∀ (H : Heap) (locs : List Loc) (ls : Array Slot), AtW E (wM E σ4 ++ X) A s H locs → lv_has ls 4 [(0, .ref (eA E 0)), (1, .int p1), (2, .int v.1)] → W p l e rm_X10_moves s m a below meth c H locs 0 0 QQ (F0 m 63 ls []))) (fun v b1 y1 h hT1 hF1 => ?_) ho (fun H locs ls hV hl => ?_)) _ _ _ hV (lv_sub hl [2, 3, 1, 0] rfl)
      · obtain ⟨u5, u6⟩ := v
        have h : x_X10_moves_L26 p1 σ4 u5 u6 = some (b1, y1) := h
        intro H locs ls hV hl
        have hV : AtW E (wM E σ4 ++ X) A s H locs := hV
        have hl : lv_has ls 4 [(0, .ref (eA E 0)), (1, .int p1), (2, .int u5), (3, .int u6)] := hl
        unfold x_X10_moves_L26 at h
        refine lv_iload_n hx hb dX10_moves_26 rfl (lv_at hl 3 rfl) ?_
        refine lv_iconst (v := 1) hx hb dX10_moves_27 (by decide) ?_
        refine lv_aload_n hx hb dX10_moves_28 rfl (lv_at hl 0 rfl) ?_
        refine G_X10_crates cx hV mk_6_121 dX10_moves_29 ?_
        refine lv_ishl hx hb dX10_moves_32 ?_
        refine lv_icmp_ge (tgt := 63) hx hb dX10_moves_33 (by decide) (fun hc => ?_) (fun hc => ?_)
        · have h := ifp hc h
          cases h
          exact hF1 rfl _ _ _ hV (lv_sub hl [0, 1, 2] rfl)
        · have h := ifn hc h
          refine lv_iload_n hx hb dX10_moves_36 rfl (lv_at hl 3 rfl) ?_
          refine bd_e h (fun v7 hq h => ?_)
          refine k_X10_ones hq cx hV mk_8_133 ⟨Nat.le_of_ble_eq_true rfl, Nat.le_of_ble_eq_true rfl⟩ ⟨Nat.zero_le _, Nat.zero_le _⟩ hl.1 (Nat.le_of_ble_eq_true rfl) dX10_moves_37 (fun H locs hV => ?_)
          refine lv_iload_n hx hb dX10_moves_40 rfl (lv_at hl 2 rfl) ?_
          refine bd_e h (fun v8 hq h => ?_)
          refine k_X10_ones hq cx hV mk_8_133 ⟨Nat.le_of_ble_eq_true rfl, Nat.le_of_ble_eq_true rfl⟩ ⟨Nat.zero_le _, Nat.zero_le _⟩ hl.1 (Nat.le_of_ble_eq_true rfl) dX10_moves_41 (fun H locs hV => ?_)
          refine lv_icmp_le (tgt := 57) hx hb dX10_moves_44 (by decide) (fun hc => ?_) (fun hc => ?_)
          · have h := ifp hc h
            refine lv_iinc (v := (u6 + 1)) (lv' := [(3, .int (u6 + 1)), (0, .ref (eA E 0)), (1, .int p1), (2, .int u5)]) hx hb dX10_moves_57 hl (k := 3) rfl rfl (by decide) rfl (fun ls hl => ?_)
            refine lv_goto (tgt := 26) hx hb dX10_moves_60 (by decide) ?_
            cases h
            exact hT1 rfl _ _ _ hV (lv_sub hl [1, 2, 3, 0] rfl)
          · have h := ifn hc h
            refine lv_aload_n hx hb dX10_moves_47 rfl (lv_at hl 0 rfl) ?_
            refine lv_iload_n hx hb dX10_moves_48 rfl (lv_at hl 3 rfl) ?_
            refine bd_e h (fun v9 hq h => ?_)
            refine k_X10_mayStay hq cx hV mk_8_136 ⟨Nat.le_of_ble_eq_true rfl, Nat.le_of_ble_eq_true rfl⟩ ⟨Nat.zero_le _, Nat.zero_le _⟩ hl.1 (Nat.le_of_ble_eq_true rfl) dX10_moves_49 (fun H locs hV => ?_)
            refine lv_if_eq (tgt := 57) hx hb dX10_moves_52 (by decide) (fun hc => ?_) (fun hc => ?_)
            · have h := ifp hc h
              refine lv_iinc (v := (u6 + 1)) (lv' := [(3, .int (u6 + 1)), (0, .ref (eA E 0)), (1, .int p1), (2, .int u5)]) hx hb dX10_moves_57 hl (k := 3) rfl rfl (by decide) rfl (fun ls hl => ?_)
              refine lv_goto (tgt := 26) hx hb dX10_moves_60 (by decide) ?_
              cases h
              exact hT1 rfl _ _ _ hV (lv_sub hl [1, 2, 3, 0] rfl)
            · have h := ifn hc h
              refine lv_iload_n hx hb dX10_moves_55 rfl (lv_at hl 3 rfl) ?_
              refine lv_istore_n (lv' := [(2, .int u6), (0, .ref (eA E 0)), (1, .int p1), (3, .int u6)]) hx hb dX10_moves_56 rfl hl (by decide) rfl (fun ls hl => ?_)
              refine lv_iinc (v := (u6 + 1)) (lv' := [(3, .int (u6 + 1)), (2, .int u6), (0, .ref (eA E 0)), (1, .int p1)]) hx hb dX10_moves_57 hl (k := 3) rfl rfl (by decide) rfl (fun ls hl => ?_)
              refine lv_goto (tgt := 26) hx hb dX10_moves_60 (by decide) ?_
              cases h
              exact hT1 rfl _ _ _ hV (lv_sub hl [2, 3, 1, 0] rfl)
      · have hV : AtW E (wM E σ4 ++ X) A s H locs := hV
        have hl : lv_has ls 4 [(0, .ref (eA E 0)), (1, .int p1), (2, .int z10)] := hl
        refine lv_iload_n hx hb dX10_moves_63 rfl (lv_at hl 1 rfl) ?_
        refine lv_if_ne (tgt := 79) hx hb dX10_moves_64 (by decide) (fun hc => ?_) (fun hc => ?_)
        · have h := ifn hc h
          refine lv_iload_n hx hb dX10_moves_79 rfl (lv_at hl 2 rfl) ?_
          obtain ⟨h1, h2⟩ := Prod.mk.inj (Option.some.inj h)
          subst h1
          subst h2
          subst hQ
          exact r_ireti cx hr hlk hV dX10_moves_80
        · have h := ifp hc h
          refine lv_aload_n hx hb dX10_moves_67 rfl (lv_at hl 0 rfl) ?_
          refine G_X10_crates cx hV mk_6_121 dX10_moves_68 ?_
          refine lv_iload_n hx hb dX10_moves_71 rfl (lv_at hl 2 rfl) ?_
          refine bd_e h (fun v12 hq h => ?_)
          refine k_X10_ones hq cx hV mk_8_133 ⟨Nat.le_of_ble_eq_true rfl, Nat.le_of_ble_eq_true rfl⟩ ⟨Nat.zero_le _, Nat.zero_le _⟩ hl.1 (Nat.le_of_ble_eq_true rfl) dX10_moves_72 (fun H locs hV => ?_)
          refine lv_isub hx hb dX10_moves_75 ?_
          refine lv_goto (tgt := 80) hx hb dX10_moves_76 (by decide) ?_
          obtain ⟨h1, h2⟩ := Prod.mk.inj (Option.some.inj h)
          subst h1
          subst h2
          subst hQ
          exact r_ireti cx hr hlk hV dX10_moves_80
    · have h := ifp hc h
      refine lv_iconst (v := 0) hx hb dX10_moves_20 (by decide) ?_
      obtain ⟨h1, h2⟩ := Prod.mk.inj (Option.some.inj h)
      subst h1
      subst h2
      subst hQ
      exact r_ireti cx hr hlk hV dX10_moves_21
  rw [hH, hlocs] at goal
  exact goal
theorem k_X10_moves {p : Program} {l : Launch} {e : Env} {R : Room} {s : State} {m : MethodId} {a : Array Value} {below : List Frame} {meth : Method} {c : Code} {H : Heap} {locs : List Loc} {cells slots : Nat} {Q : State → Prop} {cc : ByteArray} {own : String} {nL pc : Nat} {ls : Array Slot} {rest : List Value} {A : Nat → Prop} {E : EV} {X : va_W} {σ : St} {p1 : Int32} {rv : Int32} {σf : St} (h : x_X10_moves p1 σ = some (rv, σf)) (cx : CallFix p m c cc nL s a TBL own) (hV : AtW E (wM E σ ++ X) A s H locs) {idx : Nat} (w1 : Cond.methodLink own idx yX10_moves ∈ TBL) (hR : (rm_X10_moves).frames + 1 ≤ R.frames ∧ 8 + (4 + 11) + (rm_X10_moves).locals ≤ R.locals) (hcs : cells ≤ R.cells ∧ slots ≤ R.slots) (hls : ls.size = nL) (hcat : (rest.map fun v => v.category).sum ≤ 8) (d : decode cc pc = .ok (.invokevirtual idx, 3)) (kk : ∀ (H1 : Heap) (locs1 : List Loc), AtW E (wM E σf ++ X) A s H1 locs1 → W p l e R s m a below meth c H1 locs1 cells slots Q (F0 m (pc + 3) ls (.int rv :: rest))) : W p l e R s m a below meth c H locs cells slots Q (F0 m pc ls (.int p1 :: .ref (eA E 0) :: rest)) :=
  r_calli (n := 1) (As := [.int p1]) (q0 := 0) (ci := 10) (qq := (RX10, TX10, 64)) (c_X10_moves h) wM_fst rfl rfl mk_8_130 mk_8_131 mk_1_11 mk_8_132 (by decide +kernel) rfl ⟨rfl, rfl⟩ cx hV w1 hR hcs hls rfl hcat d kk
def x_X10_gets_b90 (w1 : Int32) (w2 : Int32) (w3 : Int32) (w4 : Int32) (σ : St) : Option Int32 :=
  bd (ldI (gA σ 34) (lenM 34) w1) fun v5 =>
  some (w4 - ((12 * w3) * ((w2 - 1) - v5)))
def x_X10_gets_b9_39 (p1 : Int32) (p2 : Int32) (p3 : Int32) (p4 : Int32) (p5 : Int32) (w9 : Int32) (w10 : Int32) (w11 : Int32) (σ : St) : Option (Bool × (Int32 × Int32 × Int32)) :=
  bd (ldI (gA σ 34) (lenM 34) w11) fun v12 =>
  (if v12 = w9 then
  some (true, (w9, (w10 + 1), (w11 + 1)))
  else
  some (true, (w9, (w10 + 0), (w11 + 1))))
def x_X10_gets_L9 (p1 : Int32) (p2 : Int32) (p3 : Int32) (p4 : Int32) (p5 : Int32) (σ : St) (u6 : Int32) (u7 : Int32) (u8 : Int32) : Option (Bool × (Int32 × Int32 × Int32)) :=
  (if p2 ≤ u8 then
  some (false, (u6, u7, u8))
  else
  bd (ldI (gA σ 34) (lenM 34) u8) fun v13 =>
  (if u6 ≤ v13 then
  x_X10_gets_b9_39 p1 p2 p3 p4 p5 u6 u7 u8 σ
  else
  bd (ldI (gA σ 34) (lenM 34) u8) fun v14 =>
  x_X10_gets_b9_39 p1 p2 p3 p4 p5 v14 0 u8 σ))
def x_X10_gets (p1 : Int32) (p2 : Int32) (p3 : Int32) (p4 : Int32) (p5 : Int32) (σ : St) : Option Int32 :=
  bd3 (lp (fun v : (Int32 × Int32 × Int32) => x_X10_gets_L9 p1 p2 p3 p4 p5 σ v.1 v.2.1 v.2.2) FU (p3, 0, 0)) fun z15 z16 z17 =>
  bd (ldI (gA σ 34) (lenM 34) p1) fun v18 =>
  (if v18 = z15 then
  bd (dvI (12 * p5) z16) fun v19 =>
  x_X10_gets_b90 p1 p3 p4 v19 σ
  else
  x_X10_gets_b90 p1 p3 p4 0 σ)
abbrev rm_X10_gets : Room := { frames := 0, cells := 0, slots := 0, locals := 0 }
set_option maxHeartbeats 4000000 in
set_option maxRecDepth 100000 in
theorem c_X10_gets {l : Launch} {E : EV} {X : va_W} {σ : St} {p1 : Int32} {p2 : Int32} {p3 : Int32} {p4 : Int32} {p5 : Int32} {rv : Int32} (h : x_X10_gets p1 p2 p3 p4 p5 σ = some rv) : CM l yX10_gets cX10_gets 9 (some .int) rm_X10_gets [.ref (eA E 0), .int p1, .int p2, .int p3, .int p4, .int p5] E (wM E σ ++ X) (wM E σ ++ X) (qI rv) := by
  refine CM.start (by decide) (Nat.le_of_ble_eq_true rfl) (fun p e s m a below meth c A ls cx hr hlk hV hl => ?_)
  have cx : CallFix p m c cX10_gets 9 s a TBL RX10 := cx
  have hx := cx.1
  have hb := cx.2.1
  have hl : lv_has ls 9 [(0, .ref (eA E 0)), (1, .int p1), (2, .int p2), (3, .int p3), (4, .int p4), (5, .int p5)] := hl
  generalize hQ : EQ E (wM E σ ++ X) (qI rv) A s a below = QQ
  obtain ⟨H, hH⟩ : ∃ H, H = s.heap := ⟨_, rfl⟩
  obtain ⟨locs, hlocs⟩ : ∃ z, z = ([] : List Loc) := ⟨_, rfl⟩
  have hV : AtW E (wM E σ ++ X) A s H locs := by rw [hH, hlocs]; exact hV
  have goal : W p l e rm_X10_gets s m a below meth c H locs 0 0 QQ (F0 m 0 ls []) := by
    unfold x_X10_gets at h
    have hj90 : ∀ (w1 : Int32) (w2 : Int32) (w3 : Int32) (w4 : Int32) (H : Heap) (locs : List Loc) (ls : Array Slot), x_X10_gets_b90 w1 w2 w3 w4 σ = some rv → AtW E (wM E σ ++ X) A s H locs → lv_has ls 9 [(0, .ref (eA E 0)), (1, .int w1), (3, .int w2), (4, .int w3)] → W p l e rm_X10_gets s m a below meth c H locs 0 0 QQ (F0 m 90 ls [.int w4]) := by
      intro w1 w2 w3 w4 H locs ls h hV hl
      unfold x_X10_gets_b90 at h
      refine lv_bipush (v := 12) hx hb dX10_gets_90 (by decide) ?_
      refine lv_iload hx hb dX10_gets_92 (lv_at hl 3 rfl) ?_
      refine lv_imul hx hb dX10_gets_94 ?_
      refine lv_iload_n hx hb dX10_gets_95 rfl (lv_at hl 2 rfl) ?_
      refine lv_iconst (v := 1) hx hb dX10_gets_96 (by decide) ?_
      refine lv_isub hx hb dX10_gets_97 ?_
      refine lv_aload_n hx hb dX10_gets_98 rfl (lv_at hl 0 rfl) ?_
      refine G_X10_hour cx hV mk_6_158 dX10_gets_99 ?_
      refine lv_iload_n hx hb dX10_gets_102 rfl (lv_at hl 1 rfl) ?_
      refine bd_e h (fun v5 hq h => ?_)
      refine R_M_iald cx hV (by decide) hq dX10_gets_103 ?_
      refine lv_isub hx hb dX10_gets_104 ?_
      refine lv_imul hx hb dX10_gets_105 ?_
      refine lv_isub hx hb dX10_gets_106 ?_
      have h1 := Option.some.inj h
      subst h1
      subst hQ
      exact r_ireti cx hr hlk hV dX10_gets_107
    refine lv_iload_n hx hb dX10_gets_0 rfl (lv_at hl 3 rfl) ?_
    refine lv_istore (lv' := [(6, .int p3), (0, .ref (eA E 0)), (1, .int p1), (2, .int p2), (3, .int p3), (4, .int p4), (5, .int p5)]) hx hb dX10_gets_1 hl (by decide) rfl (fun ls hl => ?_)
    refine lv_iconst (v := 0) hx hb dX10_gets_3 (by decide) ?_
    refine lv_istore (lv' := [(7, .int 0), (6, .int p3), (0, .ref (eA E 0)), (1, .int p1), (2, .int p2), (3, .int p3), (4, .int p4), (5, .int p5)]) hx hb dX10_gets_4 hl (by decide) rfl (fun ls hl => ?_)
    refine lv_iconst (v := 0) hx hb dX10_gets_6 (by decide) ?_
    refine lv_istore (lv' := [(8, .int 0), (7, .int 0), (6, .int p3), (0, .ref (eA E 0)), (1, .int p1), (2, .int p2), (3, .int p3), (4, .int p4), (5, .int p5)]) hx hb dX10_gets_7 hl (by decide) rfl (fun ls hl => ?_)
    refine bd3_e h (fun z15 z16 z17 ho h => ?_)
    refine (lp_rule (G := (fun v : (Int32 × Int32 × Int32) => ∀ (H : Heap) (locs : List Loc) (ls : Array Slot), AtW E (wM E σ ++ X) A s H locs → lv_has ls 9 [(0, .ref (eA E 0)), (1, .int p1), (2, .int p2), (3, .int p3), (4, .int p4), (5, .int p5), (6, .int v.1), (7, .int v.2.1), (8, .int v.2.2)] → W p l e rm_X10_gets s m a below meth c H locs 0 0 QQ (F0 m 9 ls []))) (K := (fun v : (Int32 × Int32 × Int32) => ∀ (H : Heap) (locs : List Loc) (ls : Array Slot), AtW E (wM E σ ++ X) A s H locs → lv_has ls 9 [(0, .ref (eA E 0)), (1, .int p1), (3, .int p3), (4, .int p4), (5, .int p5), (6, .int v.1), (7, .int v.2.1)] → W p l e rm_X10_gets s m a below meth c H locs 0 0 QQ (F0 m 67 ls []))) (fun v b1 y1 h hT1 hF1 => ?_) ho (fun H locs ls hV hl => ?_)) _ _ _ hV (lv_sub hl [3, 4, 5, 6, 7, 8, 2, 1, 0] rfl)
    · have hj9_39 : ∀ (w9 : Int32) (w10 : Int32) (w11 : Int32) (H : Heap) (locs : List Loc) (ls : Array Slot), x_X10_gets_b9_39 p1 p2 p3 p4 p5 w9 w10 w11 σ = some (b1, y1) → AtW E (wM E σ ++ X) A s H locs → lv_has ls 9 [(0, .ref (eA E 0)), (1, .int p1), (2, .int p2), (3, .int p3), (4, .int p4), (5, .int p5), (6, .int w9), (7, .int w10), (8, .int w11)] → W p l e rm_X10_gets s m a below meth c H locs 0 0 QQ (F0 m 39 ls []) := by
        intro w9 w10 w11 H locs ls h hV hl
        unfold x_X10_gets_b9_39 at h
        refine lv_iload hx hb dX10_gets_39 (lv_at hl 7 rfl) ?_
        refine lv_aload_n hx hb dX10_gets_41 rfl (lv_at hl 0 rfl) ?_
        refine G_X10_hour cx hV mk_6_158 dX10_gets_42 ?_
        refine lv_iload hx hb dX10_gets_45 (lv_at hl 8 rfl) ?_
        refine bd_e h (fun v12 hq h => ?_)
        refine R_M_iald cx hV (by decide) hq dX10_gets_47 ?_
        refine lv_iload hx hb dX10_gets_48 (lv_at hl 6 rfl) ?_
        refine lv_icmp_ne (tgt := 57) hx hb dX10_gets_50 (by decide) (fun hc => ?_) (fun hc => ?_)
        · have h := ifn hc h
          refine lv_iconst (v := 0) hx hb dX10_gets_57 (by decide) ?_
          refine lv_iadd hx hb dX10_gets_58 ?_
          refine lv_istore (lv' := [(7, .int (w10 + 0)), (0, .ref (eA E 0)), (1, .int p1), (2, .int p2), (3, .int p3), (4, .int p4), (5, .int p5), (6, .int w9), (8, .int w11)]) hx hb dX10_gets_59 hl (by decide) rfl (fun ls hl => ?_)
          refine lv_iinc (v := (w11 + 1)) (lv' := [(8, .int (w11 + 1)), (7, .int (w10 + 0)), (0, .ref (eA E 0)), (1, .int p1), (2, .int p2), (3, .int p3), (4, .int p4), (5, .int p5), (6, .int w9)]) hx hb dX10_gets_61 hl (k := 8) rfl rfl (by decide) rfl (fun ls hl => ?_)
          refine lv_goto (tgt := 9) hx hb dX10_gets_64 (by decide) ?_
          cases h
          exact hT1 rfl _ _ _ hV (lv_sub hl [2, 3, 4, 5, 6, 7, 8, 1, 0] rfl)
        · have h := ifp hc h
          refine lv_iconst (v := 1) hx hb dX10_gets_53 (by decide) ?_
          refine lv_goto (tgt := 58) hx hb dX10_gets_54 (by decide) ?_
          refine lv_iadd hx hb dX10_gets_58 ?_
          refine lv_istore (lv' := [(7, .int (w10 + 1)), (0, .ref (eA E 0)), (1, .int p1), (2, .int p2), (3, .int p3), (4, .int p4), (5, .int p5), (6, .int w9), (8, .int w11)]) hx hb dX10_gets_59 hl (by decide) rfl (fun ls hl => ?_)
          refine lv_iinc (v := (w11 + 1)) (lv' := [(8, .int (w11 + 1)), (7, .int (w10 + 1)), (0, .ref (eA E 0)), (1, .int p1), (2, .int p2), (3, .int p3), (4, .int p4), (5, .int p5), (6, .int w9)]) hx hb dX10_gets_61 hl (k := 8) rfl rfl (by decide) rfl (fun ls hl => ?_)
          refine lv_goto (tgt := 9) hx hb dX10_gets_64 (by decide) ?_
          cases h
          exact hT1 rfl _ _ _ hV (lv_sub hl [2, 3, 4, 5, 6, 7, 8, 1, 0] rfl)
      obtain ⟨u6, u7, u8⟩ := v
      have h : x_X10_gets_L9 p1 p2 p3 p4 p5 σ u6 u7 u8 = some (b1, y1) := h
      intro H locs ls hV hl
      have hV : AtW E (wM E σ ++ X) A s H locs := hV
      have hl : lv_has ls 9 [(0, .ref (eA E 0)), (1, .int p1), (2, .int p2), (3, .int p3), (4, .int p4), (5, .int p5), (6, .int u6), (7, .int u7), (8, .int u8)] := hl
      unfold x_X10_gets_L9 at h
      refine lv_iload hx hb dX10_gets_9 (lv_at hl 8 rfl) ?_
      refine lv_iload_n hx hb dX10_gets_11 rfl (lv_at hl 2 rfl) ?_
      refine lv_icmp_ge (tgt := 67) hx hb dX10_gets_12 (by decide) (fun hc => ?_) (fun hc => ?_)
      · have h := ifp hc h
        cases h
        exact hF1 rfl _ _ _ hV (lv_sub hl [0, 1, 3, 4, 5, 6, 7] rfl)
      · have h := ifn hc h
        refine lv_aload_n hx hb dX10_gets_15 rfl (lv_at hl 0 rfl) ?_
        refine G_X10_hour cx hV mk_6_158 dX10_gets_16 ?_
        refine lv_iload hx hb dX10_gets_19 (lv_at hl 8 rfl) ?_
        refine bd_e h (fun v13 hq h => ?_)
        refine R_M_iald cx hV (by decide) hq dX10_gets_21 ?_
        refine lv_iload hx hb dX10_gets_22 (lv_at hl 6 rfl) ?_
        refine lv_icmp_ge (tgt := 39) hx hb dX10_gets_24 (by decide) (fun hc => ?_) (fun hc => ?_)
        · have h := ifp hc h
          exact hj9_39 u6 u7 u8 _ _ _ h hV (lv_sub hl [0, 1, 2, 3, 4, 5, 6, 7, 8] rfl)
        · have h := ifn hc h
          refine lv_aload_n hx hb dX10_gets_27 rfl (lv_at hl 0 rfl) ?_
          refine G_X10_hour cx hV mk_6_158 dX10_gets_28 ?_
          refine lv_iload hx hb dX10_gets_31 (lv_at hl 8 rfl) ?_
          refine bd_e h (fun v14 hq h => ?_)
          refine R_M_iald cx hV (by decide) hq dX10_gets_33 ?_
          refine lv_istore (lv' := [(6, .int v14), (0, .ref (eA E 0)), (1, .int p1), (2, .int p2), (3, .int p3), (4, .int p4), (5, .int p5), (7, .int u7), (8, .int u8)]) hx hb dX10_gets_34 hl (by decide) rfl (fun ls hl => ?_)
          refine lv_iconst (v := 0) hx hb dX10_gets_36 (by decide) ?_
          refine lv_istore (lv' := [(7, .int 0), (6, .int v14), (0, .ref (eA E 0)), (1, .int p1), (2, .int p2), (3, .int p3), (4, .int p4), (5, .int p5), (8, .int u8)]) hx hb dX10_gets_37 hl (by decide) rfl (fun ls hl => ?_)
          exact hj9_39 v14 0 u8 _ _ _ h hV (lv_sub hl [2, 3, 4, 5, 6, 7, 1, 0, 8] rfl)
    · have hV : AtW E (wM E σ ++ X) A s H locs := hV
      have hl : lv_has ls 9 [(0, .ref (eA E 0)), (1, .int p1), (3, .int p3), (4, .int p4), (5, .int p5), (6, .int z15), (7, .int z16)] := hl
      refine lv_aload_n hx hb dX10_gets_67 rfl (lv_at hl 0 rfl) ?_
      refine G_X10_hour cx hV mk_6_158 dX10_gets_68 ?_
      refine lv_iload_n hx hb dX10_gets_71 rfl (lv_at hl 1 rfl) ?_
      refine bd_e h (fun v18 hq h => ?_)
      refine R_M_iald cx hV (by decide) hq dX10_gets_72 ?_
      refine lv_iload hx hb dX10_gets_73 (lv_at hl 5 rfl) ?_
      refine lv_icmp_ne (tgt := 89) hx hb dX10_gets_75 (by decide) (fun hc => ?_) (fun hc => ?_)
      · have h := ifn hc h
        refine lv_iconst (v := 0) hx hb dX10_gets_89 (by decide) ?_
        exact hj90 p1 p3 p4 0 _ _ _ h hV (lv_sub hl [0, 1, 2, 3] rfl)
      · have h := ifp hc h
        refine lv_bipush (v := 12) hx hb dX10_gets_78 (by decide) ?_
        refine lv_iload hx hb dX10_gets_80 (lv_at hl 4 rfl) ?_
        refine lv_imul hx hb dX10_gets_82 ?_
        refine lv_iload hx hb dX10_gets_83 (lv_at hl 6 rfl) ?_
        refine bd_e h (fun v19 hq h => ?_)
        obtain ⟨hne, hq⟩ := dvI_e hq
        refine lv_idiv hx hb dX10_gets_85 hne ?_
        rw [hq]
        refine lv_goto (tgt := 90) hx hb dX10_gets_86 (by decide) ?_
        exact hj90 p1 p3 p4 v19 _ _ _ h hV (lv_sub hl [0, 1, 2, 3] rfl)
  rw [hH, hlocs] at goal
  exact goal
theorem k_X10_gets {p : Program} {l : Launch} {e : Env} {R : Room} {s : State} {m : MethodId} {a : Array Value} {below : List Frame} {meth : Method} {c : Code} {H : Heap} {locs : List Loc} {cells slots : Nat} {Q : State → Prop} {cc : ByteArray} {own : String} {nL pc : Nat} {ls : Array Slot} {rest : List Value} {A : Nat → Prop} {E : EV} {X : va_W} {σ : St} {p1 : Int32} {p2 : Int32} {p3 : Int32} {p4 : Int32} {p5 : Int32} {rv : Int32} (h : x_X10_gets p1 p2 p3 p4 p5 σ = some rv) (cx : CallFix p m c cc nL s a TBL own) (hV : AtW E (wM E σ ++ X) A s H locs) {idx : Nat} (w1 : Cond.methodLink own idx yX10_gets ∈ TBL) (hR : (rm_X10_gets).frames + 1 ≤ R.frames ∧ 8 + (9 + 11) + (rm_X10_gets).locals ≤ R.locals) (hcs : cells ≤ R.cells ∧ slots ≤ R.slots) (hls : ls.size = nL) (hcat : (rest.map fun v => v.category).sum ≤ 8) (d : decode cc pc = .ok (.invokevirtual idx, 3)) (kk : ∀ (H1 : Heap) (locs1 : List Loc), AtW E (wM E σ ++ X) A s H1 locs1 → W p l e R s m a below meth c H1 locs1 cells slots Q (F0 m (pc + 3) ls (.int rv :: rest))) : W p l e R s m a below meth c H locs cells slots Q (F0 m pc ls (.int p5 :: .int p4 :: .int p3 :: .int p2 :: .int p1 :: .ref (eA E 0) :: rest)) :=
  r_calli (n := 5) (As := [.int p1, .int p2, .int p3, .int p4, .int p5]) (q0 := 0) (ci := 10) (qq := (RX10, TX10, 64)) (c_X10_gets h) rfl rfl rfl mk_8_150 mk_P_105 mk_1_11 mk_8_151 (by decide +kernel) rfl ⟨rfl, rfl⟩ cx hV w1 hR hcs hls rfl hcat d kk
def x_X10_doRest_L37 (p1 : Int32) (p2 : Int32) (p3 : Int32) (p4 : Int32) (u1 : Int32) (v3 : Int32) (v4 : Int32) (u5 : Int32) (u6 : Int32) (σ7 : St) : Option (Bool × (Int32 × Int32 × St)) :=
  (if p2 ≤ u6 then
  some (false, (u5, u6, σ7))
  else
  bd (stI σ7 34 (lenM 34) u1 u6) fun σ8 =>
  (if u5 = 0 then
  bd (x_X10_gets u1 p1 p2 p3 p4 σ8) fun v9 =>
  (if v9 ≤ v4 then
  some (true, (0, (u6 + 1), σ8))
  else
  some (true, (1, (u6 + 1), σ8)))
  else
  some (true, (1, (u6 + 1), σ8))))
def x_X10_doRest_L3 (p1 : Int32) (p2 : Int32) (p3 : Int32) (p4 : Int32) (u1 : Int32) (σ2 : St) : Option ((Bool × (Int32 × St)) ⊕ (Int32 × St)) :=
  (if p1 ≤ u1 then
  some (.inl (false, (u1, σ2)))
  else
  bd (ldI (gA σ2 34) (lenM 34) u1) fun v3 =>
  bd (x_X10_gets u1 p1 p2 p3 p4 σ2) fun v4 =>
  bd3 (lp (fun v : (Int32 × Int32 × St) => x_X10_doRest_L37 p1 p2 p3 p4 u1 v3 v4 v.1 v.2.1 v.2.2) FU (0, 0, σ2)) fun z10 z11 σ12 =>
  bd (stI σ12 34 (lenM 34) u1 v3) fun σ13 =>
  (if z10 = 0 then
  some (.inl (true, ((u1 + 1), σ13)))
  else
  some (.inr (0, σ13))))
def x_X10_doRest (p1 : Int32) (p2 : Int32) (p3 : Int32) (p4 : Int32) (σ : St) : Option (Int32 × St) :=
  bs2 (lpr (fun v : (Int32 × St) => x_X10_doRest_L3 p1 p2 p3 p4 v.1 v.2) FU (0, σ)) (fun z14 σ15 =>
  some (1, σ15)) some
abbrev rm_X10_doRest : Room := { frames := 1, cells := 0, slots := 0, locals := 28 }
set_option maxHeartbeats 4000000 in
set_option maxRecDepth 100000 in
theorem c_X10_doRest {l : Launch} {E : EV} {X : va_W} {σ : St} {p1 : Int32} {p2 : Int32} {p3 : Int32} {p4 : Int32} {rv : Int32} {σf : St} (h : x_X10_doRest p1 p2 p3 p4 σ = some (rv, σf)) : CM l yX10_doRest cX10_doRest 10 (some .boolean) rm_X10_doRest [.ref (eA E 0), .int p1, .int p2, .int p3, .int p4] E (wM E σ ++ X) (wM E σf ++ X) (qI rv) := by
  refine CM.start (by decide) (Nat.le_of_ble_eq_true rfl) (fun p e s m a below meth c A ls cx hr hlk hV hl => ?_)
  have cx : CallFix p m c cX10_doRest 10 s a TBL RX10 := cx
  have hx := cx.1
  have hb := cx.2.1
  have hl : lv_has ls 10 [(0, .ref (eA E 0)), (1, .int p1), (2, .int p2), (3, .int p3), (4, .int p4)] := hl
  generalize hQ : EQ E (wM E σf ++ X) (qI rv) A s a below = QQ
  obtain ⟨H, hH⟩ : ∃ H, H = s.heap := ⟨_, rfl⟩
  obtain ⟨locs, hlocs⟩ : ∃ z, z = ([] : List Loc) := ⟨_, rfl⟩
  have hV : AtW E (wM E σ ++ X) A s H locs := by rw [hH, hlocs]; exact hV
  have goal : W p l e rm_X10_doRest s m a below meth c H locs 0 0 QQ (F0 m 0 ls []) := by
    unfold x_X10_doRest at h
    refine lv_iconst (v := 0) hx hb dX10_doRest_0 (by decide) ?_
    refine lv_istore (lv' := [(5, .int 0), (0, .ref (eA E 0)), (1, .int p1), (2, .int p2), (3, .int p3), (4, .int p4)]) hx hb dX10_doRest_1 hl (by decide) rfl (fun ls hl => ?_)
    obtain ⟨o1, ho⟩ := bs2_get h
    rw [ho] at h
    refine (lpr_rule (G := (fun v : (Int32 × St) => ∀ (H : Heap) (locs : List Loc) (ls : Array Slot), AtW E (wM E v.2 ++ X) A s H locs → lv_has ls 10 [(0, .ref (eA E 0)), (1, .int p1), (2, .int p2), (3, .int p3), (4, .int p4), (5, .int v.1)] → W p l e rm_X10_doRest s m a below meth c H locs 0 0 QQ (F0 m 3 ls []))) (K := (fun v : (Int32 × St) => ∀ (H : Heap) (locs : List Loc) (ls : Array Slot), AtW E (wM E v.2 ++ X) A s H locs → lv_has ls 10 [] → W p l e rm_X10_doRest s m a below meth c H locs 0 0 QQ (F0 m 108 ls []))) (KR := (fun r => some r = some (rv, σf))) (fun v e1 h hT1 hF1 hR1 => ?_) ho (fun v hv => ?_) (fun r hv => ?_)) _ _ _ hV (lv_sub hl [1, 2, 3, 4, 5, 0] rfl)
    · obtain ⟨u1, σ2⟩ := v
      have h : x_X10_doRest_L3 p1 p2 p3 p4 u1 σ2 = some e1 := h
      intro H locs ls hV hl
      have hV : AtW E (wM E σ2 ++ X) A s H locs := hV
      have hl : lv_has ls 10 [(0, .ref (eA E 0)), (1, .int p1), (2, .int p2), (3, .int p3), (4, .int p4), (5, .int u1)] := hl
      unfold x_X10_doRest_L3 at h
      refine lv_iload hx hb dX10_doRest_3 (lv_at hl 5 rfl) ?_
      refine lv_iload_n hx hb dX10_doRest_5 rfl (lv_at hl 1 rfl) ?_
      refine lv_icmp_ge (tgt := 108) hx hb dX10_doRest_6 (by decide) (fun hc => ?_) (fun hc => ?_)
      · have h := ifp hc h
        cases h
        exact hF1 _ rfl _ _ _ hV (lv_sub hl [] rfl)
      · have h := ifn hc h
        refine lv_aload_n hx hb dX10_doRest_9 rfl (lv_at hl 0 rfl) ?_
        refine G_X10_hour cx hV mk_6_158 dX10_doRest_10 ?_
        refine lv_iload hx hb dX10_doRest_13 (lv_at hl 5 rfl) ?_
        refine bd_e h (fun v3 hq h => ?_)
        refine R_M_iald cx hV (by decide) hq dX10_doRest_15 ?_
        refine lv_istore (lv' := [(6, .int v3), (0, .ref (eA E 0)), (1, .int p1), (2, .int p2), (3, .int p3), (4, .int p4), (5, .int u1)]) hx hb dX10_doRest_16 hl (by decide) rfl (fun ls hl => ?_)
        refine lv_aload_n hx hb dX10_doRest_18 rfl (lv_at hl 1 rfl) ?_
        refine lv_iload hx hb dX10_doRest_19 (lv_at hl 6 rfl) ?_
        refine lv_iload_n hx hb dX10_doRest_21 rfl (lv_at hl 2 rfl) ?_
        refine lv_iload_n hx hb dX10_doRest_22 rfl (lv_at hl 3 rfl) ?_
        refine lv_iload_n hx hb dX10_doRest_23 rfl (lv_at hl 4 rfl) ?_
        refine lv_iload hx hb dX10_doRest_24 (lv_at hl 5 rfl) ?_
        refine bd_e h (fun v4 hq h => ?_)
        refine k_X10_gets hq cx hV mk_8_148 ⟨Nat.le_of_ble_eq_true rfl, Nat.le_of_ble_eq_true rfl⟩ ⟨Nat.zero_le _, Nat.zero_le _⟩ hl.1 (Nat.le_of_ble_eq_true rfl) dX10_doRest_26 (fun H locs hV => ?_)
        refine lv_istore (lv' := [(7, .int v4), (6, .int v3), (0, .ref (eA E 0)), (1, .int p1), (2, .int p2), (3, .int p3), (4, .int p4), (5, .int u1)]) hx hb dX10_doRest_29 hl (by decide) rfl (fun ls hl => ?_)
        refine lv_iconst (v := 0) hx hb dX10_doRest_31 (by decide) ?_
        refine lv_istore (lv' := [(8, .int 0), (7, .int v4), (6, .int v3), (0, .ref (eA E 0)), (1, .int p1), (2, .int p2), (3, .int p3), (4, .int p4), (5, .int u1)]) hx hb dX10_doRest_32 hl (by decide) rfl (fun ls hl => ?_)
        refine lv_iconst (v := 0) hx hb dX10_doRest_34 (by decide) ?_
        refine lv_istore (lv' := [(9, .int 0), (8, .int 0), (7, .int v4), (6, .int v3), (0, .ref (eA E 0)), (1, .int p1), (2, .int p2), (3, .int p3), (4, .int p4), (5, .int u1)]) hx hb dX10_doRest_35 hl (by decide) rfl (fun ls hl => ?_)
        refine bd3_e h (fun z10 z11 σ12 ho h => ?_)
        refine (lp_rule (G := (fun v : (Int32 × Int32 × St) => ∀ (H : Heap) (locs : List Loc) (ls : Array Slot), AtW E (wM E v.2.2 ++ X) A s H locs → lv_has ls 10 [(0, .ref (eA E 0)), (1, .int p1), (2, .int p2), (3, .int p3), (4, .int p4), (5, .int u1), (6, .int v3), (7, .int v4), (8, .int v.1), (9, .int v.2.1)] → W p l e rm_X10_doRest s m a below meth c H locs 0 0 QQ (F0 m 37 ls []))) (K := (fun v : (Int32 × Int32 × St) => ∀ (H : Heap) (locs : List Loc) (ls : Array Slot), AtW E (wM E v.2.2 ++ X) A s H locs → lv_has ls 10 [(0, .ref (eA E 0)), (1, .int p1), (2, .int p2), (3, .int p3), (4, .int p4), (5, .int u1), (6, .int v3), (8, .int v.1)] → W p l e rm_X10_doRest s m a below meth c H locs 0 0 QQ (F0 m 86 ls []))) (fun v b2 y2 h hT2 hF2 => ?_) ho (fun H locs ls hV hl => ?_)) _ _ _ hV (lv_sub hl [4, 5, 6, 7, 8, 9, 3, 2, 1, 0] rfl)
        · obtain ⟨u5, u6, σ7⟩ := v
          have h : x_X10_doRest_L37 p1 p2 p3 p4 u1 v3 v4 u5 u6 σ7 = some (b2, y2) := h
          intro H locs ls hV hl
          have hV : AtW E (wM E σ7 ++ X) A s H locs := hV
          have hl : lv_has ls 10 [(0, .ref (eA E 0)), (1, .int p1), (2, .int p2), (3, .int p3), (4, .int p4), (5, .int u1), (6, .int v3), (7, .int v4), (8, .int u5), (9, .int u6)] := hl
          unfold x_X10_doRest_L37 at h
          refine lv_iload hx hb dX10_doRest_37 (lv_at hl 9 rfl) ?_
          refine lv_iload_n hx hb dX10_doRest_39 rfl (lv_at hl 2 rfl) ?_
          refine lv_icmp_ge (tgt := 86) hx hb dX10_doRest_40 (by decide) (fun hc => ?_) (fun hc => ?_)
          · have h := ifp hc h
            cases h
            exact hF2 rfl _ _ _ hV (lv_sub hl [0, 1, 2, 3, 4, 5, 6, 8] rfl)
          · have h := ifn hc h
            refine lv_aload_n hx hb dX10_doRest_43 rfl (lv_at hl 0 rfl) ?_
            refine G_X10_hour cx hV mk_6_158 dX10_doRest_44 ?_
            refine lv_iload hx hb dX10_doRest_47 (lv_at hl 5 rfl) ?_
            refine lv_iload hx hb dX10_doRest_49 (lv_at hl 9 rfl) ?_
            refine bd_e h (fun σ8 hq h => ?_)
            refine R_M_iast cx hV (by decide) hq dX10_doRest_51 (fun H locs hV => ?_)
            refine lv_iload hx hb dX10_doRest_52 (lv_at hl 8 rfl) ?_
            refine lv_if_ne (tgt := 73) hx hb dX10_doRest_54 (by decide) (fun hc => ?_) (fun hc => ?_)
            · have h := ifn hc h
              refine lv_iconst (v := 1) hx hb dX10_doRest_73 (by decide) ?_
              refine lv_goto (tgt := 78) hx hb dX10_doRest_74 (by decide) ?_
              refine lv_istore (lv' := [(8, .int 1), (0, .ref (eA E 0)), (1, .int p1), (2, .int p2), (3, .int p3), (4, .int p4), (5, .int u1), (6, .int v3), (7, .int v4), (9, .int u6)]) hx hb dX10_doRest_78 hl (by decide) rfl (fun ls hl => ?_)
              refine lv_iinc (v := (u6 + 1)) (lv' := [(9, .int (u6 + 1)), (8, .int 1), (0, .ref (eA E 0)), (1, .int p1), (2, .int p2), (3, .int p3), (4, .int p4), (5, .int u1), (6, .int v3), (7, .int v4)]) hx hb dX10_doRest_80 hl (k := 9) rfl rfl (by decide) rfl (fun ls hl => ?_)
              refine lv_goto (tgt := 37) hx hb dX10_doRest_83 (by decide) ?_
              cases h
              exact hT2 rfl _ _ _ hV (lv_sub hl [2, 3, 4, 5, 6, 7, 8, 9, 1, 0] rfl)
            · have h := ifp hc h
              refine lv_aload_n hx hb dX10_doRest_57 rfl (lv_at hl 0 rfl) ?_
              refine lv_iload hx hb dX10_doRest_58 (lv_at hl 5 rfl) ?_
              refine lv_iload_n hx hb dX10_doRest_60 rfl (lv_at hl 1 rfl) ?_
              refine lv_iload_n hx hb dX10_doRest_61 rfl (lv_at hl 2 rfl) ?_
              refine lv_iload_n hx hb dX10_doRest_62 rfl (lv_at hl 3 rfl) ?_
              refine lv_iload hx hb dX10_doRest_63 (lv_at hl 4 rfl) ?_
              refine bd_e h (fun v9 hq h => ?_)
              refine k_X10_gets hq cx hV mk_8_148 ⟨Nat.le_of_ble_eq_true rfl, Nat.le_of_ble_eq_true rfl⟩ ⟨Nat.zero_le _, Nat.zero_le _⟩ hl.1 (Nat.le_of_ble_eq_true rfl) dX10_doRest_65 (fun H locs hV => ?_)
              refine lv_iload hx hb dX10_doRest_68 (lv_at hl 7 rfl) ?_
              refine lv_icmp_le (tgt := 77) hx hb dX10_doRest_70 (by decide) (fun hc => ?_) (fun hc => ?_)
              · have h := ifp hc h
                refine lv_iconst (v := 0) hx hb dX10_doRest_77 (by decide) ?_
                refine lv_istore (lv' := [(8, .int 0), (0, .ref (eA E 0)), (1, .int p1), (2, .int p2), (3, .int p3), (4, .int p4), (5, .int u1), (6, .int v3), (7, .int v4), (9, .int u6)]) hx hb dX10_doRest_78 hl (by decide) rfl (fun ls hl => ?_)
                refine lv_iinc (v := (u6 + 1)) (lv' := [(9, .int (u6 + 1)), (8, .int 0), (0, .ref (eA E 0)), (1, .int p1), (2, .int p2), (3, .int p3), (4, .int p4), (5, .int u1), (6, .int v3), (7, .int v4)]) hx hb dX10_doRest_80 hl (k := 9) rfl rfl (by decide) rfl (fun ls hl => ?_)
                refine lv_goto (tgt := 37) hx hb dX10_doRest_83 (by decide) ?_
                cases h
                exact hT2 rfl _ _ _ hV (lv_sub hl [2, 3, 4, 5, 6, 7, 8, 9, 1, 0] rfl)
              · have h := ifn hc h
                refine lv_iconst (v := 1) hx hb dX10_doRest_73 (by decide) ?_
                refine lv_goto (tgt := 78) hx hb dX10_doRest_74 (by decide) ?_
                refine lv_istore (lv' := [(8, .int 1), (0, .ref (eA E 0)), (1, .int p1), (2, .int p2), (3, .int p3), (4, .int p4), (5, .int u1), (6, .int v3), (7, .int v4), (9, .int u6)]) hx hb dX10_doRest_78 hl (by decide) rfl (fun ls hl => ?_)
                refine lv_iinc (v := (u6 + 1)) (lv' := [(9, .int (u6 + 1)), (8, .int 1), (0, .ref (eA E 0)), (1, .int p1), (2, .int p2), (3, .int p3), (4, .int p4), (5, .int u1), (6, .int v3), (7, .int v4)]) hx hb dX10_doRest_80 hl (k := 9) rfl rfl (by decide) rfl (fun ls hl => ?_)
                refine lv_goto (tgt := 37) hx hb dX10_doRest_83 (by decide) ?_
                cases h
                exact hT2 rfl _ _ _ hV (lv_sub hl [2, 3, 4, 5, 6, 7, 8, 9, 1, 0] rfl)
        · have hV : AtW E (wM E σ12 ++ X) A s H locs := hV
          have hl : lv_has ls 10 [(0, .ref (eA E 0)), (1, .int p1), (2, .int p2), (3, .int p3), (4, .int p4), (5, .int u1), (6, .int v3), (8, .int z10)] := hl
          refine lv_aload_n hx hb dX10_doRest_86 rfl (lv_at hl 0 rfl) ?_
          refine G_X10_hour cx hV mk_6_158 dX10_doRest_87 ?_
          refine lv_iload hx hb dX10_doRest_90 (lv_at hl 5 rfl) ?_
          refine lv_iload hx hb dX10_doRest_92 (lv_at hl 6 rfl) ?_
          refine bd_e h (fun σ13 hq h => ?_)
          refine R_M_iast cx hV (by decide) hq dX10_doRest_94 (fun H locs hV => ?_)
          refine lv_iload hx hb dX10_doRest_95 (lv_at hl 7 rfl) ?_
          refine lv_if_eq (tgt := 102) hx hb dX10_doRest_97 (by decide) (fun hc => ?_) (fun hc => ?_)
          · have h := ifp hc h
            refine lv_iinc (v := (u1 + 1)) (lv' := [(5, .int (u1 + 1)), (0, .ref (eA E 0)), (1, .int p1), (2, .int p2), (3, .int p3), (4, .int p4), (6, .int v3), (8, .int z10)]) hx hb dX10_doRest_102 hl (k := 5) rfl rfl (by decide) rfl (fun ls hl => ?_)
            refine lv_goto (tgt := 3) hx hb dX10_doRest_105 (by decide) ?_
            cases h
            exact hT1 _ rfl _ _ _ hV (lv_sub hl [1, 2, 3, 4, 5, 0] rfl)
          · have h := ifn hc h
            refine lv_iconst (v := 0) hx hb dX10_doRest_100 (by decide) ?_
            cases h
            have h := hR1 _ rfl
            cases h
            subst hQ
            exact r_zreti cx hr hlk hV (Or.inl rfl) dX10_doRest_101
    · subst hv
      obtain ⟨z14, σ15⟩ := v
      intro H locs ls hV hl
      have hV : AtW E (wM E σ15 ++ X) A s H locs := hV
      have hl : lv_has ls 10 [] := hl
      have h := bs2_inl h
      refine lv_iconst (v := 1) hx hb dX10_doRest_108 (by decide) ?_
      obtain ⟨h1, h2⟩ := Prod.mk.inj (Option.some.inj h)
      subst h1
      subst h2
      subst hQ
      exact r_zreti cx hr hlk hV (Or.inr rfl) dX10_doRest_109
    · subst hv
      exact bs2_inr h
  rw [hH, hlocs] at goal
  exact goal
theorem k_X10_doRest {p : Program} {l : Launch} {e : Env} {R : Room} {s : State} {m : MethodId} {a : Array Value} {below : List Frame} {meth : Method} {c : Code} {H : Heap} {locs : List Loc} {cells slots : Nat} {Q : State → Prop} {cc : ByteArray} {own : String} {nL pc : Nat} {ls : Array Slot} {rest : List Value} {A : Nat → Prop} {E : EV} {X : va_W} {σ : St} {p1 : Int32} {p2 : Int32} {p3 : Int32} {p4 : Int32} {rv : Int32} {σf : St} (h : x_X10_doRest p1 p2 p3 p4 σ = some (rv, σf)) (cx : CallFix p m c cc nL s a TBL own) (hV : AtW E (wM E σ ++ X) A s H locs) {idx : Nat} (w1 : Cond.methodLink own idx yX10_doRest ∈ TBL) (hR : (rm_X10_doRest).frames + 1 ≤ R.frames ∧ 8 + (10 + 11) + (rm_X10_doRest).locals ≤ R.locals) (hcs : cells ≤ R.cells ∧ slots ≤ R.slots) (hls : ls.size = nL) (hcat : (rest.map fun v => v.category).sum ≤ 8) (d : decode cc pc = .ok (.invokevirtual idx, 3)) (kk : ∀ (H1 : Heap) (locs1 : List Loc), AtW E (wM E σf ++ X) A s H1 locs1 → W p l e R s m a below meth c H1 locs1 cells slots Q (F0 m (pc + 3) ls (.int rv :: rest))) : W p l e R s m a below meth c H locs cells slots Q (F0 m pc ls (.int p4 :: .int p3 :: .int p2 :: .int p1 :: .ref (eA E 0) :: rest)) :=
  r_calli (n := 4) (As := [.int p1, .int p2, .int p3, .int p4]) (q0 := 0) (ci := 10) (qq := (RX10, TX10, 64)) (c_X10_doRest h) wM_fst rfl rfl mk_8_146 mk_P_104 mk_1_11 mk_8_147 (by decide +kernel) rfl ⟨rfl, rfl⟩ cx hV w1 hR hcs hls rfl hcat d kk
def x_X10_rests_L77 (w1 : Int32) (w2 : Int32) (w3 : Int32) (w4 : Int32) (w5 : Int32) (σ9 : St) (u10 : Int32) (u11 : Int32) : Option (Bool × (Int32 × Int32)) :=
  (if w1 ≤ u11 then
  some (false, (u10, u11))
  else
  some (true, ((u10 * w2), (u11 + 1))))
def x_X10_rests_L123 (w1 : Int32) (w2 : Int32) (w3 : Int32) (w4 : Int32) (w5 : Int32) (z12 : Int32) (u14 : Int32) (u15 : Int32) (u16 : Int32) (w18 : Int32) (u19 : Int32) (u20 : Int32) (σ21 : St) : Option (Bool × (Int32 × Int32 × St)) :=
  (if u20 < 0 then
  some (false, (u19, u20, σ21))
  else
  bd (rmI u19 w2) fun v22 =>
  bd (stI σ21 34 (lenM 34) u20 v22) fun σ23 =>
  bd (dvI u19 w2) fun v24 =>
  some (true, (v24, (u20 + (-1)), σ23)))
def x_X10_rests_L154 (w1 : Int32) (w2 : Int32) (w3 : Int32) (w4 : Int32) (w5 : Int32) (z12 : Int32) (u14 : Int32) (u15 : Int32) (u16 : Int32) (σ27 : St) (u28 : Int32) (u29 : Int32) : Option (Bool × (Int32 × Int32)) :=
  (if w1 ≤ u29 then
  some (false, (u28, u29))
  else
  bd (ldI (gA σ27 34) (lenM 34) u29) fun v30 =>
  some (true, (((10 * u28) + v30), (u29 + 1))))
def x_X10_rests_L104 (w1 : Int32) (w2 : Int32) (w3 : Int32) (w4 : Int32) (w5 : Int32) (z12 : Int32) (u14 : Int32) (u15 : Int32) (u16 : Int32) (σ17 : St) : Option (Bool × (Int32 × Int32 × Int32 × St)) :=
  (if z12 ≤ u16 then
  some (false, (u14, u15, u16, σ17))
  else
  bd (some 0) fun w18 =>
  bd3 (lp (fun v : (Int32 × Int32 × St) => x_X10_rests_L123 w1 w2 w3 w4 w5 z12 u14 u15 u16 w18 v.1 v.2.1 v.2.2) FU (u16, (w1 - 1), σ17)) fun z25 z26 σ27 =>
  bd2 (lp (fun v : (Int32 × Int32) => x_X10_rests_L154 w1 w2 w3 w4 w5 z12 u14 u15 u16 σ27 v.1 v.2) FU (w18, 0)) fun z31 z32 =>
  bd2 (x_X10_doRest w1 w2 w3 w4 σ27) fun v33 σ34 =>
  (if v33 = 0 then
  some (true, (u14, u15, (u16 + 1), σ34))
  else
  (if u15 = (-1) then
  some (true, ((u14 + 1), z31, (u16 + 1), σ34))
  else
  some (true, ((u14 + 1), u15, (u16 + 1), σ34)))))
def x_X10_rests_b61 (w1 : Int32) (w2 : Int32) (w3 : Int32) (w4 : Int32) (w5 : Int32) (w6 : Int32) (σ7 : St) : Option (Int32 × St) :=
  bd2 (x_X10_may w6 1 2 σ7) fun v8 σ9 =>
  (if v8 = 0 then
  some (0, σ9)
  else
  bd2 (lp (fun v : (Int32 × Int32) => x_X10_rests_L77 w1 w2 w3 w4 w5 σ9 v.1 v.2) FU (1, 0)) fun z12 z13 =>
  bd4 (lp (fun v : (Int32 × Int32 × Int32 × St) => x_X10_rests_L104 w1 w2 w3 w4 w5 z12 v.1 v.2.1 v.2.2.1 v.2.2.2) FU (0, (-1), 0, σ9)) fun z35 z36 z37 σ38 =>
  (if w5 = 0 then
  some (z35, σ38)
  else
  some (z36, σ38)))
def x_X10_rests_b60 (w39 : Int32) (w40 : Int32) (w41 : Int32) (w42 : Int32) (w43 : Int32) (σ44 : St) : Option (Int32 × St) :=
  x_X10_rests_b61 w39 w40 w41 w42 w43 0 σ44
def x_X10_rests (p1 : Int32) (p2 : Int32) (p3 : Int32) (p4 : Int32) (p5 : Int32) (σ : St) : Option (Int32 × St) :=
  bd (some (sI σ 0 0)) fun σ45 =>
  bd (x_X10_within p1 2 4) fun v46 =>
  (if v46 = 0 then
  x_X10_rests_b60 p1 p2 p3 p4 p5 σ45
  else
  bd (x_X10_within p2 2 4) fun v47 =>
  (if v47 = 0 then
  x_X10_rests_b60 p1 p2 p3 p4 p5 σ45
  else
  bd (x_X10_within p3 0 99) fun v48 =>
  (if v48 = 0 then
  x_X10_rests_b60 p1 p2 p3 p4 p5 σ45
  else
  bd (x_X10_within p4 1 999) fun v49 =>
  (if v49 = 0 then
  x_X10_rests_b60 p1 p2 p3 p4 p5 σ45
  else
  bd (x_X10_within p5 0 1) fun v50 =>
  (if v50 = 0 then
  x_X10_rests_b60 p1 p2 p3 p4 p5 σ45
  else
  x_X10_rests_b61 p1 p2 p3 p4 p5 1 σ45)))))
abbrev rm_X10_rests : Room := { frames := 2, cells := 0, slots := 0, locals := 57 }
set_option maxHeartbeats 4000000 in
set_option maxRecDepth 100000 in
theorem c_X10_rests {l : Launch} {E : EV} {X : va_W} {σ : St} {p1 : Int32} {p2 : Int32} {p3 : Int32} {p4 : Int32} {p5 : Int32} {rv : Int32} {σf : St} (h : x_X10_rests p1 p2 p3 p4 p5 σ = some (rv, σf)) : CM l yX10_rests cX10_rests 13 (some .int) rm_X10_rests [.ref (eA E 0), .int p1, .int p2, .int p3, .int p4, .int p5] E (wM E σ ++ X) (wM E σf ++ X) (qI rv) := by
  refine CM.start (by decide) (Nat.le_of_ble_eq_true rfl) (fun p e s m a below meth c A ls cx hr hlk hV hl => ?_)
  have cx : CallFix p m c cX10_rests 13 s a TBL RX10 := cx
  have hx := cx.1
  have hb := cx.2.1
  have hl : lv_has ls 13 [(0, .ref (eA E 0)), (1, .int p1), (2, .int p2), (3, .int p3), (4, .int p4), (5, .int p5)] := hl
  generalize hQ : EQ E (wM E σf ++ X) (qI rv) A s a below = QQ
  obtain ⟨H, hH⟩ : ∃ H, H = s.heap := ⟨_, rfl⟩
  obtain ⟨locs, hlocs⟩ : ∃ z, z = ([] : List Loc) := ⟨_, rfl⟩
  have hV : AtW E (wM E σ ++ X) A s H locs := by rw [hH, hlocs]; exact hV
  have goal : W p l e rm_X10_rests s m a below meth c H locs 0 0 QQ (F0 m 0 ls []) := by
    unfold x_X10_rests at h
    have hj61 : ∀ (w1 : Int32) (w2 : Int32) (w3 : Int32) (w4 : Int32) (w5 : Int32) (w6 : Int32) (σ7 : St) (H : Heap) (locs : List Loc) (ls : Array Slot), x_X10_rests_b61 w1 w2 w3 w4 w5 w6 σ7 = some (rv, σf) → AtW E (wM E σ7 ++ X) A s H locs → lv_has ls 13 [(0, .ref (eA E 0)), (1, .int w1), (2, .int w2), (3, .int w3), (4, .int w4), (5, .int w5)] → W p l e rm_X10_rests s m a below meth c H locs 0 0 QQ (F0 m 61 ls [.int w6, .ref (eA E 0)]) := by
      intro w1 w2 w3 w4 w5 w6 σ7 H locs ls h hV hl
      unfold x_X10_rests_b61 at h
      refine lv_iconst (v := 1) hx hb dX10_rests_61 (by decide) ?_
      refine lv_iconst (v := 2) hx hb dX10_rests_62 (by decide) ?_
      refine bd2_e h (fun v8 σ9 hq h => ?_)
      refine k_X10_may hq cx hV mk_7_62 ⟨Nat.le_of_ble_eq_true rfl, Nat.le_of_ble_eq_true rfl⟩ ⟨Nat.zero_le _, Nat.zero_le _⟩ hl.1 (Nat.le_of_ble_eq_true rfl) dX10_rests_63 (fun H locs hV => ?_)
      refine lv_if_ne (tgt := 71) hx hb dX10_rests_66 (by decide) (fun hc => ?_) (fun hc => ?_)
      · have h := ifn hc h
        refine lv_iconst (v := 1) hx hb dX10_rests_71 (by decide) ?_
        refine lv_istore (lv' := [(6, .int 1), (0, .ref (eA E 0)), (1, .int w1), (2, .int w2), (3, .int w3), (4, .int w4), (5, .int w5)]) hx hb dX10_rests_72 hl (by decide) rfl (fun ls hl => ?_)
        refine lv_iconst (v := 0) hx hb dX10_rests_74 (by decide) ?_
        refine lv_istore (lv' := [(7, .int 0), (6, .int 1), (0, .ref (eA E 0)), (1, .int w1), (2, .int w2), (3, .int w3), (4, .int w4), (5, .int w5)]) hx hb dX10_rests_75 hl (by decide) rfl (fun ls hl => ?_)
        refine bd2_e h (fun z12 z13 ho h => ?_)
        refine (lp_rule (G := (fun v : (Int32 × Int32) => ∀ (H : Heap) (locs : List Loc) (ls : Array Slot), AtW E (wM E σ9 ++ X) A s H locs → lv_has ls 13 [(0, .ref (eA E 0)), (1, .int w1), (2, .int w2), (3, .int w3), (4, .int w4), (5, .int w5), (6, .int v.1), (7, .int v.2)] → W p l e rm_X10_rests s m a below meth c H locs 0 0 QQ (F0 m 77 ls []))) (K := (fun v : (Int32 × Int32) => ∀ (H : Heap) (locs : List Loc) (ls : Array Slot), AtW E (wM E σ9 ++ X) A s H locs → lv_has ls 13 [(0, .ref (eA E 0)), (1, .int w1), (2, .int w2), (3, .int w3), (4, .int w4), (5, .int w5), (6, .int v.1)] → W p l e rm_X10_rests s m a below meth c H locs 0 0 QQ (F0 m 95 ls []))) (fun v b1 y1 h hT1 hF1 => ?_) ho (fun H locs ls hV hl => ?_)) _ _ _ hV (lv_sub hl [2, 3, 4, 5, 6, 7, 1, 0] rfl)
        · obtain ⟨u10, u11⟩ := v
          have h : x_X10_rests_L77 w1 w2 w3 w4 w5 σ9 u10 u11 = some (b1, y1) := h
          intro H locs ls hV hl
          have hV : AtW E (wM E σ9 ++ X) A s H locs := hV
          have hl : lv_has ls 13 [(0, .ref (eA E 0)), (1, .int w1), (2, .int w2), (3, .int w3), (4, .int w4), (5, .int w5), (6, .int u10), (7, .int u11)] := hl
          unfold x_X10_rests_L77 at h
          refine lv_iload hx hb dX10_rests_77 (lv_at hl 7 rfl) ?_
          refine lv_iload_n hx hb dX10_rests_79 rfl (lv_at hl 1 rfl) ?_
          refine lv_icmp_ge (tgt := 95) hx hb dX10_rests_80 (by decide) (fun hc => ?_) (fun hc => ?_)
          · have h := ifp hc h
            cases h
            exact hF1 rfl _ _ _ hV (lv_sub hl [0, 1, 2, 3, 4, 5, 6] rfl)
          · have h := ifn hc h
            refine lv_iload hx hb dX10_rests_83 (lv_at hl 6 rfl) ?_
            refine lv_iload_n hx hb dX10_rests_85 rfl (lv_at hl 2 rfl) ?_
            refine lv_imul hx hb dX10_rests_86 ?_
            refine lv_istore (lv' := [(6, .int (u10 * w2)), (0, .ref (eA E 0)), (1, .int w1), (2, .int w2), (3, .int w3), (4, .int w4), (5, .int w5), (7, .int u11)]) hx hb dX10_rests_87 hl (by decide) rfl (fun ls hl => ?_)
            refine lv_iinc (v := (u11 + 1)) (lv' := [(7, .int (u11 + 1)), (6, .int (u10 * w2)), (0, .ref (eA E 0)), (1, .int w1), (2, .int w2), (3, .int w3), (4, .int w4), (5, .int w5)]) hx hb dX10_rests_89 hl (k := 7) rfl rfl (by decide) rfl (fun ls hl => ?_)
            refine lv_goto (tgt := 77) hx hb dX10_rests_92 (by decide) ?_
            cases h
            exact hT1 rfl _ _ _ hV (lv_sub hl [2, 3, 4, 5, 6, 7, 1, 0] rfl)
        · have hV : AtW E (wM E σ9 ++ X) A s H locs := hV
          have hl : lv_has ls 13 [(0, .ref (eA E 0)), (1, .int w1), (2, .int w2), (3, .int w3), (4, .int w4), (5, .int w5), (6, .int z12)] := hl
          refine lv_iconst (v := 0) hx hb dX10_rests_95 (by decide) ?_
          refine lv_istore (lv' := [(7, .int 0), (0, .ref (eA E 0)), (1, .int w1), (2, .int w2), (3, .int w3), (4, .int w4), (5, .int w5), (6, .int z12)]) hx hb dX10_rests_96 hl (by decide) rfl (fun ls hl => ?_)
          refine lv_iconst (v := (-1)) hx hb dX10_rests_98 (by decide) ?_
          refine lv_istore (lv' := [(8, .int (-1)), (7, .int 0), (0, .ref (eA E 0)), (1, .int w1), (2, .int w2), (3, .int w3), (4, .int w4), (5, .int w5), (6, .int z12)]) hx hb dX10_rests_99 hl (by decide) rfl (fun ls hl => ?_)
          refine lv_iconst (v := 0) hx hb dX10_rests_101 (by decide) ?_
          refine lv_istore (lv' := [(9, .int 0), (8, .int (-1)), (7, .int 0), (0, .ref (eA E 0)), (1, .int w1), (2, .int w2), (3, .int w3), (4, .int w4), (5, .int w5), (6, .int z12)]) hx hb dX10_rests_102 hl (by decide) rfl (fun ls hl => ?_)
          refine bd4_e h (fun z35 z36 z37 σ38 ho h => ?_)
          refine (lp_rule (G := (fun v : (Int32 × Int32 × Int32 × St) => ∀ (H : Heap) (locs : List Loc) (ls : Array Slot), AtW E (wM E v.2.2.2 ++ X) A s H locs → lv_has ls 13 [(0, .ref (eA E 0)), (1, .int w1), (2, .int w2), (3, .int w3), (4, .int w4), (5, .int w5), (6, .int z12), (7, .int v.1), (8, .int v.2.1), (9, .int v.2.2.1)] → W p l e rm_X10_rests s m a below meth c H locs 0 0 QQ (F0 m 104 ls []))) (K := (fun v : (Int32 × Int32 × Int32 × St) => ∀ (H : Heap) (locs : List Loc) (ls : Array Slot), AtW E (wM E v.2.2.2 ++ X) A s H locs → lv_has ls 13 [(5, .int w5), (7, .int v.1), (8, .int v.2.1)] → W p l e rm_X10_rests s m a below meth c H locs 0 0 QQ (F0 m 215 ls []))) (fun v b1 y1 h hT1 hF1 => ?_) ho (fun H locs ls hV hl => ?_)) _ _ _ hV (lv_sub hl [3, 4, 5, 6, 7, 8, 9, 2, 1, 0] rfl)
          · obtain ⟨u14, u15, u16, σ17⟩ := v
            have h : x_X10_rests_L104 w1 w2 w3 w4 w5 z12 u14 u15 u16 σ17 = some (b1, y1) := h
            intro H locs ls hV hl
            have hV : AtW E (wM E σ17 ++ X) A s H locs := hV
            have hl : lv_has ls 13 [(0, .ref (eA E 0)), (1, .int w1), (2, .int w2), (3, .int w3), (4, .int w4), (5, .int w5), (6, .int z12), (7, .int u14), (8, .int u15), (9, .int u16)] := hl
            unfold x_X10_rests_L104 at h
            refine lv_iload hx hb dX10_rests_104 (lv_at hl 9 rfl) ?_
            refine lv_iload hx hb dX10_rests_106 (lv_at hl 6 rfl) ?_
            refine lv_icmp_ge (tgt := 215) hx hb dX10_rests_108 (by decide) (fun hc => ?_) (fun hc => ?_)
            · have h := ifp hc h
              cases h
              exact hF1 rfl _ _ _ hV (lv_sub hl [5, 7, 8] rfl)
            · have h := ifn hc h
              refine lv_iload hx hb dX10_rests_111 (lv_at hl 9 rfl) ?_
              refine lv_istore (lv' := [(10, .int u16), (0, .ref (eA E 0)), (1, .int w1), (2, .int w2), (3, .int w3), (4, .int w4), (5, .int w5), (6, .int z12), (7, .int u14), (8, .int u15), (9, .int u16)]) hx hb dX10_rests_113 hl (by decide) rfl (fun ls hl => ?_)
              refine lv_iconst (v := 0) hx hb dX10_rests_115 (by decide) ?_
              refine lv_istore (lv' := [(11, .int 0), (10, .int u16), (0, .ref (eA E 0)), (1, .int w1), (2, .int w2), (3, .int w3), (4, .int w4), (5, .int w5), (6, .int z12), (7, .int u14), (8, .int u15), (9, .int u16)]) hx hb dX10_rests_116 hl (by decide) rfl (fun ls hl => ?_)
              refine lv_iload_n hx hb dX10_rests_118 rfl (lv_at hl 3 rfl) ?_
              refine lv_iconst (v := 1) hx hb dX10_rests_119 (by decide) ?_
              refine lv_isub hx hb dX10_rests_120 ?_
              refine lv_istore (lv' := [(12, .int (w1 - 1)), (11, .int 0), (10, .int u16), (0, .ref (eA E 0)), (1, .int w1), (2, .int w2), (3, .int w3), (4, .int w4), (5, .int w5), (6, .int z12), (7, .int u14), (8, .int u15), (9, .int u16)]) hx hb dX10_rests_121 hl (by decide) rfl (fun ls hl => ?_)
              refine bd_e h (fun w18 hq h => ?_)
              have hq := Option.some.inj hq
              have hl : lv_has ls 13 [(12, .int (w1 - 1)), (11, .int w18), (10, .int u16), (0, .ref (eA E 0)), (1, .int w1), (2, .int w2), (3, .int w3), (4, .int w4), (5, .int w5), (6, .int z12), (7, .int u14), (8, .int u15), (9, .int u16)] := by rw [← hq]; exact hl
              refine bd3_e h (fun z25 z26 σ27 ho h => ?_)
              refine (lp_rule (G := (fun v : (Int32 × Int32 × St) => ∀ (H : Heap) (locs : List Loc) (ls : Array Slot), AtW E (wM E v.2.2 ++ X) A s H locs → lv_has ls 13 [(0, .ref (eA E 0)), (1, .int w1), (2, .int w2), (3, .int w3), (4, .int w4), (5, .int w5), (6, .int z12), (7, .int u14), (8, .int u15), (9, .int u16), (10, .int v.1), (11, .int w18), (12, .int v.2.1)] → W p l e rm_X10_rests s m a below meth c H locs 0 0 QQ (F0 m 123 ls []))) (K := (fun v : (Int32 × Int32 × St) => ∀ (H : Heap) (locs : List Loc) (ls : Array Slot), AtW E (wM E v.2.2 ++ X) A s H locs → lv_has ls 13 [(0, .ref (eA E 0)), (1, .int w1), (2, .int w2), (3, .int w3), (4, .int w4), (5, .int w5), (6, .int z12), (7, .int u14), (8, .int u15), (9, .int u16), (11, .int w18)] → W p l e rm_X10_rests s m a below meth c H locs 0 0 QQ (F0 m 151 ls []))) (fun v b2 y2 h hT2 hF2 => ?_) ho (fun H locs ls hV hl => ?_)) _ _ _ hV (lv_sub hl [3, 4, 5, 6, 7, 8, 9, 10, 11, 12, 2, 1, 0] rfl)
              · obtain ⟨u19, u20, σ21⟩ := v
                have h : x_X10_rests_L123 w1 w2 w3 w4 w5 z12 u14 u15 u16 w18 u19 u20 σ21 = some (b2, y2) := h
                intro H locs ls hV hl
                have hV : AtW E (wM E σ21 ++ X) A s H locs := hV
                have hl : lv_has ls 13 [(0, .ref (eA E 0)), (1, .int w1), (2, .int w2), (3, .int w3), (4, .int w4), (5, .int w5), (6, .int z12), (7, .int u14), (8, .int u15), (9, .int u16), (10, .int u19), (11, .int w18), (12, .int u20)] := hl
                unfold x_X10_rests_L123 at h
                refine lv_iload hx hb dX10_rests_123 (lv_at hl 12 rfl) ?_
                refine lv_if_lt (tgt := 151) hx hb dX10_rests_125 (by decide) (fun hc => ?_) (fun hc => ?_)
                · have h := ifp hc h
                  cases h
                  exact hF2 rfl _ _ _ hV (lv_sub hl [0, 1, 2, 3, 4, 5, 6, 7, 8, 9, 11] rfl)
                · have h := ifn hc h
                  refine lv_aload_n hx hb dX10_rests_128 rfl (lv_at hl 0 rfl) ?_
                  refine G_X10_hour cx hV mk_6_158 dX10_rests_129 ?_
                  refine lv_iload hx hb dX10_rests_132 (lv_at hl 12 rfl) ?_
                  refine lv_iload hx hb dX10_rests_134 (lv_at hl 10 rfl) ?_
                  refine lv_iload_n hx hb dX10_rests_136 rfl (lv_at hl 2 rfl) ?_
                  refine bd_e h (fun v22 hq h => ?_)
                  obtain ⟨hne, hq⟩ := rmI_e hq
                  refine lv_irem hx hb dX10_rests_137 hne ?_
                  rw [hq]
                  refine bd_e h (fun σ23 hq h => ?_)
                  refine R_M_iast cx hV (by decide) hq dX10_rests_138 (fun H locs hV => ?_)
                  refine lv_iload hx hb dX10_rests_139 (lv_at hl 10 rfl) ?_
                  refine lv_iload_n hx hb dX10_rests_141 rfl (lv_at hl 2 rfl) ?_
                  refine bd_e h (fun v24 hq h => ?_)
                  obtain ⟨hne, hq⟩ := dvI_e hq
                  refine lv_idiv hx hb dX10_rests_142 hne ?_
                  rw [hq]
                  refine lv_istore (lv' := [(10, .int v24), (0, .ref (eA E 0)), (1, .int w1), (2, .int w2), (3, .int w3), (4, .int w4), (5, .int w5), (6, .int z12), (7, .int u14), (8, .int u15), (9, .int u16), (11, .int w18), (12, .int u20)]) hx hb dX10_rests_143 hl (by decide) rfl (fun ls hl => ?_)
                  refine lv_iinc (v := (u20 + (-1))) (lv' := [(12, .int (u20 + (-1))), (10, .int v24), (0, .ref (eA E 0)), (1, .int w1), (2, .int w2), (3, .int w3), (4, .int w4), (5, .int w5), (6, .int z12), (7, .int u14), (8, .int u15), (9, .int u16), (11, .int w18)]) hx hb dX10_rests_145 hl (k := 12) rfl rfl (by decide) rfl (fun ls hl => ?_)
                  refine lv_goto (tgt := 123) hx hb dX10_rests_148 (by decide) ?_
                  cases h
                  exact hT2 rfl _ _ _ hV (lv_sub hl [2, 3, 4, 5, 6, 7, 8, 9, 10, 11, 1, 12, 0] rfl)
              · have hV : AtW E (wM E σ27 ++ X) A s H locs := hV
                have hl : lv_has ls 13 [(0, .ref (eA E 0)), (1, .int w1), (2, .int w2), (3, .int w3), (4, .int w4), (5, .int w5), (6, .int z12), (7, .int u14), (8, .int u15), (9, .int u16), (11, .int w18)] := hl
                refine lv_iconst (v := 0) hx hb dX10_rests_151 (by decide) ?_
                refine lv_istore (lv' := [(12, .int 0), (0, .ref (eA E 0)), (1, .int w1), (2, .int w2), (3, .int w3), (4, .int w4), (5, .int w5), (6, .int z12), (7, .int u14), (8, .int u15), (9, .int u16), (11, .int w18)]) hx hb dX10_rests_152 hl (by decide) rfl (fun ls hl => ?_)
                refine bd2_e h (fun z31 z32 ho h => ?_)
                refine (lp_rule (G := (fun v : (Int32 × Int32) => ∀ (H : Heap) (locs : List Loc) (ls : Array Slot), AtW E (wM E σ27 ++ X) A s H locs → lv_has ls 13 [(0, .ref (eA E 0)), (1, .int w1), (2, .int w2), (3, .int w3), (4, .int w4), (5, .int w5), (6, .int z12), (7, .int u14), (8, .int u15), (9, .int u16), (11, .int v.1), (12, .int v.2)] → W p l e rm_X10_rests s m a below meth c H locs 0 0 QQ (F0 m 154 ls []))) (K := (fun v : (Int32 × Int32) => ∀ (H : Heap) (locs : List Loc) (ls : Array Slot), AtW E (wM E σ27 ++ X) A s H locs → lv_has ls 13 [(0, .ref (eA E 0)), (1, .int w1), (2, .int w2), (3, .int w3), (4, .int w4), (5, .int w5), (6, .int z12), (7, .int u14), (8, .int u15), (9, .int u16), (11, .int v.1)] → W p l e rm_X10_rests s m a below meth c H locs 0 0 QQ (F0 m 181 ls []))) (fun v b2 y2 h hT2 hF2 => ?_) ho (fun H locs ls hV hl => ?_)) _ _ _ hV (lv_sub hl [1, 2, 3, 4, 5, 6, 7, 8, 9, 10, 11, 0] rfl)
                · obtain ⟨u28, u29⟩ := v
                  have h : x_X10_rests_L154 w1 w2 w3 w4 w5 z12 u14 u15 u16 σ27 u28 u29 = some (b2, y2) := h
                  intro H locs ls hV hl
                  have hV : AtW E (wM E σ27 ++ X) A s H locs := hV
                  have hl : lv_has ls 13 [(0, .ref (eA E 0)), (1, .int w1), (2, .int w2), (3, .int w3), (4, .int w4), (5, .int w5), (6, .int z12), (7, .int u14), (8, .int u15), (9, .int u16), (11, .int u28), (12, .int u29)] := hl
                  unfold x_X10_rests_L154 at h
                  refine lv_iload hx hb dX10_rests_154 (lv_at hl 11 rfl) ?_
                  refine lv_iload_n hx hb dX10_rests_156 rfl (lv_at hl 1 rfl) ?_
                  refine lv_icmp_ge (tgt := 181) hx hb dX10_rests_157 (by decide) (fun hc => ?_) (fun hc => ?_)
                  · have h := ifp hc h
                    cases h
                    exact hF2 rfl _ _ _ hV (lv_sub hl [0, 1, 2, 3, 4, 5, 6, 7, 8, 9, 10] rfl)
                  · have h := ifn hc h
                    refine lv_bipush (v := 10) hx hb dX10_rests_160 (by decide) ?_
                    refine lv_iload hx hb dX10_rests_162 (lv_at hl 10 rfl) ?_
                    refine lv_imul hx hb dX10_rests_164 ?_
                    refine lv_aload_n hx hb dX10_rests_165 rfl (lv_at hl 0 rfl) ?_
                    refine G_X10_hour cx hV mk_6_158 dX10_rests_166 ?_
                    refine lv_iload hx hb dX10_rests_169 (lv_at hl 11 rfl) ?_
                    refine bd_e h (fun v30 hq h => ?_)
                    refine R_M_iald cx hV (by decide) hq dX10_rests_171 ?_
                    refine lv_iadd hx hb dX10_rests_172 ?_
                    refine lv_istore (lv' := [(11, .int ((10 * u28) + v30)), (0, .ref (eA E 0)), (1, .int w1), (2, .int w2), (3, .int w3), (4, .int w4), (5, .int w5), (6, .int z12), (7, .int u14), (8, .int u15), (9, .int u16), (12, .int u29)]) hx hb dX10_rests_173 hl (by decide) rfl (fun ls hl => ?_)
                    refine lv_iinc (v := (u29 + 1)) (lv' := [(12, .int (u29 + 1)), (11, .int ((10 * u28) + v30)), (0, .ref (eA E 0)), (1, .int w1), (2, .int w2), (3, .int w3), (4, .int w4), (5, .int w5), (6, .int z12), (7, .int u14), (8, .int u15), (9, .int u16)]) hx hb dX10_rests_175 hl (k := 11) rfl rfl (by decide) rfl (fun ls hl => ?_)
                    refine lv_goto (tgt := 154) hx hb dX10_rests_178 (by decide) ?_
                    cases h
                    exact hT2 rfl _ _ _ hV (lv_sub hl [2, 3, 4, 5, 6, 7, 8, 9, 10, 11, 1, 0] rfl)
                · have hV : AtW E (wM E σ27 ++ X) A s H locs := hV
                  have hl : lv_has ls 13 [(0, .ref (eA E 0)), (1, .int w1), (2, .int w2), (3, .int w3), (4, .int w4), (5, .int w5), (6, .int z12), (7, .int u14), (8, .int u15), (9, .int u16), (11, .int z31)] := hl
                  refine lv_aload_n hx hb dX10_rests_181 rfl (lv_at hl 0 rfl) ?_
                  refine lv_iload_n hx hb dX10_rests_182 rfl (lv_at hl 1 rfl) ?_
                  refine lv_iload_n hx hb dX10_rests_183 rfl (lv_at hl 2 rfl) ?_
                  refine lv_iload_n hx hb dX10_rests_184 rfl (lv_at hl 3 rfl) ?_
                  refine lv_iload hx hb dX10_rests_185 (lv_at hl 4 rfl) ?_
                  refine bd2_e h (fun v33 σ34 hq h => ?_)
                  refine k_X10_doRest hq cx hV mk_8_144 ⟨Nat.le_of_ble_eq_true rfl, Nat.le_of_ble_eq_true rfl⟩ ⟨Nat.zero_le _, Nat.zero_le _⟩ hl.1 (Nat.le_of_ble_eq_true rfl) dX10_rests_187 (fun H locs hV => ?_)
                  refine lv_if_ne (tgt := 196) hx hb dX10_rests_190 (by decide) (fun hc => ?_) (fun hc => ?_)
                  · have h := ifn hc h
                    refine lv_iinc (v := (u14 + 1)) (lv' := [(7, .int (u14 + 1)), (0, .ref (eA E 0)), (1, .int w1), (2, .int w2), (3, .int w3), (4, .int w4), (5, .int w5), (6, .int z12), (8, .int u15), (9, .int u16), (11, .int z31)]) hx hb dX10_rests_196 hl (k := 7) rfl rfl (by decide) rfl (fun ls hl => ?_)
                    refine lv_iload hx hb dX10_rests_199 (lv_at hl 8 rfl) ?_
                    refine lv_iconst (v := (-1)) hx hb dX10_rests_201 (by decide) ?_
                    refine lv_icmp_ne (tgt := 209) hx hb dX10_rests_202 (by decide) (fun hc => ?_) (fun hc => ?_)
                    · have h := ifn hc h
                      refine lv_iinc (v := (u16 + 1)) (lv' := [(9, .int (u16 + 1)), (7, .int (u14 + 1)), (0, .ref (eA E 0)), (1, .int w1), (2, .int w2), (3, .int w3), (4, .int w4), (5, .int w5), (6, .int z12), (8, .int u15), (11, .int z31)]) hx hb dX10_rests_209 hl (k := 9) rfl rfl (by decide) rfl (fun ls hl => ?_)
                      refine lv_goto (tgt := 104) hx hb dX10_rests_212 (by decide) ?_
                      cases h
                      exact hT1 rfl _ _ _ hV (lv_sub hl [2, 3, 4, 5, 6, 7, 8, 1, 9, 0] rfl)
                    · have h := ifp hc h
                      refine lv_iload hx hb dX10_rests_205 (lv_at hl 10 rfl) ?_
                      refine lv_istore (lv' := [(8, .int z31), (7, .int (u14 + 1)), (0, .ref (eA E 0)), (1, .int w1), (2, .int w2), (3, .int w3), (4, .int w4), (5, .int w5), (6, .int z12), (9, .int u16), (11, .int z31)]) hx hb dX10_rests_207 hl (by decide) rfl (fun ls hl => ?_)
                      refine lv_iinc (v := (u16 + 1)) (lv' := [(9, .int (u16 + 1)), (8, .int z31), (7, .int (u14 + 1)), (0, .ref (eA E 0)), (1, .int w1), (2, .int w2), (3, .int w3), (4, .int w4), (5, .int w5), (6, .int z12), (11, .int z31)]) hx hb dX10_rests_209 hl (k := 9) rfl rfl (by decide) rfl (fun ls hl => ?_)
                      refine lv_goto (tgt := 104) hx hb dX10_rests_212 (by decide) ?_
                      cases h
                      exact hT1 rfl _ _ _ hV (lv_sub hl [3, 4, 5, 6, 7, 8, 9, 2, 1, 0] rfl)
                  · have h := ifp hc h
                    refine lv_goto (tgt := 209) hx hb dX10_rests_193 (by decide) ?_
                    refine lv_iinc (v := (u16 + 1)) (lv' := [(9, .int (u16 + 1)), (0, .ref (eA E 0)), (1, .int w1), (2, .int w2), (3, .int w3), (4, .int w4), (5, .int w5), (6, .int z12), (7, .int u14), (8, .int u15), (11, .int z31)]) hx hb dX10_rests_209 hl (k := 9) rfl rfl (by decide) rfl (fun ls hl => ?_)
                    refine lv_goto (tgt := 104) hx hb dX10_rests_212 (by decide) ?_
                    cases h
                    exact hT1 rfl _ _ _ hV (lv_sub hl [1, 2, 3, 4, 5, 6, 7, 8, 9, 0] rfl)
          · have hV : AtW E (wM E σ38 ++ X) A s H locs := hV
            have hl : lv_has ls 13 [(5, .int w5), (7, .int z35), (8, .int z36)] := hl
            refine lv_iload hx hb dX10_rests_215 (lv_at hl 0 rfl) ?_
            refine lv_if_ne (tgt := 225) hx hb dX10_rests_217 (by decide) (fun hc => ?_) (fun hc => ?_)
            · have h := ifn hc h
              refine lv_iload hx hb dX10_rests_225 (lv_at hl 2 rfl) ?_
              obtain ⟨h1, h2⟩ := Prod.mk.inj (Option.some.inj h)
              subst h1
              subst h2
              subst hQ
              exact r_ireti cx hr hlk hV dX10_rests_227
            · have h := ifp hc h
              refine lv_iload hx hb dX10_rests_220 (lv_at hl 1 rfl) ?_
              refine lv_goto (tgt := 227) hx hb dX10_rests_222 (by decide) ?_
              obtain ⟨h1, h2⟩ := Prod.mk.inj (Option.some.inj h)
              subst h1
              subst h2
              subst hQ
              exact r_ireti cx hr hlk hV dX10_rests_227
      · have h := ifp hc h
        refine lv_iconst (v := 0) hx hb dX10_rests_69 (by decide) ?_
        obtain ⟨h1, h2⟩ := Prod.mk.inj (Option.some.inj h)
        subst h1
        subst h2
        subst hQ
        exact r_ireti cx hr hlk hV dX10_rests_70
    have hj60 : ∀ (w39 : Int32) (w40 : Int32) (w41 : Int32) (w42 : Int32) (w43 : Int32) (σ44 : St) (H : Heap) (locs : List Loc) (ls : Array Slot), x_X10_rests_b60 w39 w40 w41 w42 w43 σ44 = some (rv, σf) → AtW E (wM E σ44 ++ X) A s H locs → lv_has ls 13 [(0, .ref (eA E 0)), (1, .int w39), (2, .int w40), (3, .int w41), (4, .int w42), (5, .int w43)] → W p l e rm_X10_rests s m a below meth c H locs 0 0 QQ (F0 m 60 ls [.ref (eA E 0)]) := by
      intro w39 w40 w41 w42 w43 σ44 H locs ls h hV hl
      unfold x_X10_rests_b60 at h
      refine lv_iconst (v := 0) hx hb dX10_rests_60 (by decide) ?_
      exact hj61 w39 w40 w41 w42 w43 0 σ44 _ _ _ h hV (lv_sub hl [0, 1, 2, 3, 4, 5] rfl)
    refine lv_aload_n hx hb dX10_rests_0 rfl (lv_at hl 0 rfl) ?_
    refine lv_iconst (v := 0) hx hb dX10_rests_1 (by decide) ?_
    refine bd_e h (fun σ45 hq h => ?_)
    refine P_X10_thrown cx hV hq mk_6_97 dX10_rests_2 (fun H locs hV => ?_)
    refine lv_aload_n hx hb dX10_rests_5 rfl (lv_at hl 0 rfl) ?_
    refine lv_iload_n hx hb dX10_rests_6 rfl (lv_at hl 1 rfl) ?_
    refine lv_iconst (v := 2) hx hb dX10_rests_7 (by decide) ?_
    refine lv_iconst (v := 4) hx hb dX10_rests_8 (by decide) ?_
    refine bd_e h (fun v46 hq h => ?_)
    refine k_X10_within hq cx hV mk_7_141 ⟨Nat.le_of_ble_eq_true rfl, Nat.le_of_ble_eq_true rfl⟩ ⟨Nat.zero_le _, Nat.zero_le _⟩ hl.1 (Nat.le_of_ble_eq_true rfl) dX10_rests_9 (fun H locs hV => ?_)
    refine lv_if_eq (tgt := 60) hx hb dX10_rests_12 (by decide) (fun hc => ?_) (fun hc => ?_)
    · have h := ifp hc h
      exact hj60 p1 p2 p3 p4 p5 σ45 _ _ _ h hV (lv_sub hl [0, 1, 2, 3, 4, 5] rfl)
    · have h := ifn hc h
      refine lv_iload_n hx hb dX10_rests_15 rfl (lv_at hl 2 rfl) ?_
      refine lv_iconst (v := 2) hx hb dX10_rests_16 (by decide) ?_
      refine lv_iconst (v := 4) hx hb dX10_rests_17 (by decide) ?_
      refine bd_e h (fun v47 hq h => ?_)
      refine k_X10_within hq cx hV mk_7_141 ⟨Nat.le_of_ble_eq_true rfl, Nat.le_of_ble_eq_true rfl⟩ ⟨Nat.zero_le _, Nat.zero_le _⟩ hl.1 (Nat.le_of_ble_eq_true rfl) dX10_rests_18 (fun H locs hV => ?_)
      refine lv_if_eq (tgt := 60) hx hb dX10_rests_21 (by decide) (fun hc => ?_) (fun hc => ?_)
      · have h := ifp hc h
        exact hj60 p1 p2 p3 p4 p5 σ45 _ _ _ h hV (lv_sub hl [0, 1, 2, 3, 4, 5] rfl)
      · have h := ifn hc h
        refine lv_iload_n hx hb dX10_rests_24 rfl (lv_at hl 3 rfl) ?_
        refine lv_iconst (v := 0) hx hb dX10_rests_25 (by decide) ?_
        refine lv_bipush (v := 99) hx hb dX10_rests_26 (by decide) ?_
        refine bd_e h (fun v48 hq h => ?_)
        refine k_X10_within hq cx hV mk_7_141 ⟨Nat.le_of_ble_eq_true rfl, Nat.le_of_ble_eq_true rfl⟩ ⟨Nat.zero_le _, Nat.zero_le _⟩ hl.1 (Nat.le_of_ble_eq_true rfl) dX10_rests_28 (fun H locs hV => ?_)
        refine lv_if_eq (tgt := 60) hx hb dX10_rests_31 (by decide) (fun hc => ?_) (fun hc => ?_)
        · have h := ifp hc h
          exact hj60 p1 p2 p3 p4 p5 σ45 _ _ _ h hV (lv_sub hl [0, 1, 2, 3, 4, 5] rfl)
        · have h := ifn hc h
          refine lv_iload hx hb dX10_rests_34 (lv_at hl 4 rfl) ?_
          refine lv_iconst (v := 1) hx hb dX10_rests_36 (by decide) ?_
          refine lv_sipush (v := 999) hx hb dX10_rests_37 (by decide) ?_
          refine bd_e h (fun v49 hq h => ?_)
          refine k_X10_within hq cx hV mk_7_141 ⟨Nat.le_of_ble_eq_true rfl, Nat.le_of_ble_eq_true rfl⟩ ⟨Nat.zero_le _, Nat.zero_le _⟩ hl.1 (Nat.le_of_ble_eq_true rfl) dX10_rests_40 (fun H locs hV => ?_)
          refine lv_if_eq (tgt := 60) hx hb dX10_rests_43 (by decide) (fun hc => ?_) (fun hc => ?_)
          · have h := ifp hc h
            exact hj60 p1 p2 p3 p4 p5 σ45 _ _ _ h hV (lv_sub hl [0, 1, 2, 3, 4, 5] rfl)
          · have h := ifn hc h
            refine lv_iload hx hb dX10_rests_46 (lv_at hl 5 rfl) ?_
            refine lv_iconst (v := 0) hx hb dX10_rests_48 (by decide) ?_
            refine lv_iconst (v := 1) hx hb dX10_rests_49 (by decide) ?_
            refine bd_e h (fun v50 hq h => ?_)
            refine k_X10_within hq cx hV mk_7_141 ⟨Nat.le_of_ble_eq_true rfl, Nat.le_of_ble_eq_true rfl⟩ ⟨Nat.zero_le _, Nat.zero_le _⟩ hl.1 (Nat.le_of_ble_eq_true rfl) dX10_rests_50 (fun H locs hV => ?_)
            refine lv_if_eq (tgt := 60) hx hb dX10_rests_53 (by decide) (fun hc => ?_) (fun hc => ?_)
            · have h := ifp hc h
              exact hj60 p1 p2 p3 p4 p5 σ45 _ _ _ h hV (lv_sub hl [0, 1, 2, 3, 4, 5] rfl)
            · have h := ifn hc h
              refine lv_iconst (v := 1) hx hb dX10_rests_56 (by decide) ?_
              refine lv_goto (tgt := 61) hx hb dX10_rests_57 (by decide) ?_
              exact hj61 p1 p2 p3 p4 p5 1 σ45 _ _ _ h hV (lv_sub hl [0, 1, 2, 3, 4, 5] rfl)
  rw [hH, hlocs] at goal
  exact goal
theorem k_X10_rests {p : Program} {l : Launch} {e : Env} {R : Room} {s : State} {m : MethodId} {a : Array Value} {below : List Frame} {meth : Method} {c : Code} {H : Heap} {locs : List Loc} {cells slots : Nat} {Q : State → Prop} {cc : ByteArray} {own : String} {nL pc : Nat} {ls : Array Slot} {rest : List Value} {A : Nat → Prop} {E : EV} {X : va_W} {σ : St} {p1 : Int32} {p2 : Int32} {p3 : Int32} {p4 : Int32} {p5 : Int32} {rv : Int32} {σf : St} (h : x_X10_rests p1 p2 p3 p4 p5 σ = some (rv, σf)) (cx : CallFix p m c cc nL s a TBL own) (hV : AtW E (wM E σ ++ X) A s H locs) {idx : Nat} (w1 : Cond.methodLink own idx yX10_rests ∈ TBL) (hR : (rm_X10_rests).frames + 1 ≤ R.frames ∧ 8 + (13 + 11) + (rm_X10_rests).locals ≤ R.locals) (hcs : cells ≤ R.cells ∧ slots ≤ R.slots) (hls : ls.size = nL) (hcat : (rest.map fun v => v.category).sum ≤ 8) (d : decode cc pc = .ok (.invokevirtual idx, 3)) (kk : ∀ (H1 : Heap) (locs1 : List Loc), AtW E (wM E σf ++ X) A s H1 locs1 → W p l e R s m a below meth c H1 locs1 cells slots Q (F0 m (pc + 3) ls (.int rv :: rest))) : W p l e R s m a below meth c H locs cells slots Q (F0 m pc ls (.int p5 :: .int p4 :: .int p3 :: .int p2 :: .int p1 :: .ref (eA E 0) :: rest)) :=
  r_calli (n := 5) (As := [.int p1, .int p2, .int p3, .int p4, .int p5]) (q0 := 0) (ci := 10) (qq := (RX10, TX10, 64)) (c_X10_rests h) wM_fst rfl rfl mk_8_141 mk_8_142 mk_1_11 mk_8_143 (by decide +kernel) rfl ⟨rfl, rfl⟩ cx hV w1 hR hcs hls rfl hcat d kk
def x_X10_copies_L3 (j2 : Nat) (p1 : Int32) (p3 : Int32) (p4 : Int32) (u1 : Int32) (σ2 : St) : Option (Bool × (Int32 × St)) :=
  (if p3 ≤ u1 then
  some (false, (u1, σ2))
  else
  (if p4 = 0 then
  bd (ldI (gA σ2 35) (lenM 35) (p1 + u1)) fun v3 =>
  bd (stI σ2 j2 (lenM j2) u1 v3) fun σ4 =>
  some (true, ((u1 + 1), σ4))
  else
  bd (ldI (gA σ2 j2) (lenM j2) u1) fun v5 =>
  bd (stI σ2 35 (lenM 35) (p1 + u1) v5) fun σ6 =>
  some (true, ((u1 + 1), σ6))))
def x_X10_copies (j2 : Nat) (p1 : Int32) (p3 : Int32) (p4 : Int32) (σ : St) : Option (Int32 × St) :=
  bd2 (lp (fun v : (Int32 × St) => x_X10_copies_L3 j2 p1 p3 p4 v.1 v.2) FU (0, σ)) fun z7 σ8 =>
  some ((p1 + p3), σ8)
abbrev rm_X10_copies : Room := { frames := 0, cells := 0, slots := 0, locals := 0 }
set_option maxHeartbeats 4000000 in
set_option maxRecDepth 100000 in
theorem c_X10_copies {l : Launch} {E : EV} {X : va_W} {σ : St} {j2 : Nat} {p1 : Int32} {p3 : Int32} {p4 : Int32} {rv : Int32} {σf : St} (hj2 : j2 < 36) (h : x_X10_copies j2 p1 p3 p4 σ = some (rv, σf)) : CM l yX10_copies cX10_copies 6 (some .int) rm_X10_copies [.ref (eA E 0), .int p1, .ref (eA E (pM j2)), .int p3, .int p4] E (wM E σ ++ X) (wM E σf ++ X) (qI rv) := by
  refine CM.start (by decide) (Nat.le_of_ble_eq_true rfl) (fun p e s m a below meth c A ls cx hr hlk hV hl => ?_)
  have cx : CallFix p m c cX10_copies 6 s a TBL RX10 := cx
  have hx := cx.1
  have hb := cx.2.1
  have hl : lv_has ls 6 [(0, .ref (eA E 0)), (1, .int p1), (2, .ref (eA E (pM j2))), (3, .int p3), (4, .int p4)] := hl
  generalize hQ : EQ E (wM E σf ++ X) (qI rv) A s a below = QQ
  obtain ⟨H, hH⟩ : ∃ H, H = s.heap := ⟨_, rfl⟩
  obtain ⟨locs, hlocs⟩ : ∃ z, z = ([] : List Loc) := ⟨_, rfl⟩
  have hV : AtW E (wM E σ ++ X) A s H locs := by rw [hH, hlocs]; exact hV
  have goal : W p l e rm_X10_copies s m a below meth c H locs 0 0 QQ (F0 m 0 ls []) := by
    unfold x_X10_copies at h
    refine lv_iconst (v := 0) hx hb dX10_copies_0 (by decide) ?_
    refine lv_istore (lv' := [(5, .int 0), (0, .ref (eA E 0)), (1, .int p1), (2, .ref (eA E (pM j2))), (3, .int p3), (4, .int p4)]) hx hb dX10_copies_1 hl (by decide) rfl (fun ls hl => ?_)
    refine bd2_e h (fun z7 σ8 ho h => ?_)
    refine (lp_rule (G := (fun v : (Int32 × St) => ∀ (H : Heap) (locs : List Loc) (ls : Array Slot), AtW E (wM E v.2 ++ X) A s H locs → lv_has ls 6 [(0, .ref (eA E 0)), (1, .int p1), (2, .ref (eA E (pM j2))), (3, .int p3), (4, .int p4), (5, .int v.1)] → W p l e rm_X10_copies s m a below meth c H locs 0 0 QQ (F0 m 3 ls []))) (K := (fun v : (Int32 × St) => ∀ (H : Heap) (locs : List Loc) (ls : Array Slot), AtW E (wM E v.2 ++ X) A s H locs → lv_has ls 6 [(1, .int p1), (3, .int p3)] → W p l e rm_X10_copies s m a below meth c H locs 0 0 QQ (F0 m 49 ls []))) (fun v b1 y1 h hT1 hF1 => ?_) ho (fun H locs ls hV hl => ?_)) _ _ _ hV (lv_sub hl [1, 2, 3, 4, 5, 0] rfl)
    · obtain ⟨u1, σ2⟩ := v
      have h : x_X10_copies_L3 j2 p1 p3 p4 u1 σ2 = some (b1, y1) := h
      intro H locs ls hV hl
      have hV : AtW E (wM E σ2 ++ X) A s H locs := hV
      have hl : lv_has ls 6 [(0, .ref (eA E 0)), (1, .int p1), (2, .ref (eA E (pM j2))), (3, .int p3), (4, .int p4), (5, .int u1)] := hl
      unfold x_X10_copies_L3 at h
      refine lv_iload hx hb dX10_copies_3 (lv_at hl 5 rfl) ?_
      refine lv_iload_n hx hb dX10_copies_5 rfl (lv_at hl 3 rfl) ?_
      refine lv_icmp_ge (tgt := 49) hx hb dX10_copies_6 (by decide) (fun hc => ?_) (fun hc => ?_)
      · have h := ifp hc h
        cases h
        exact hF1 rfl _ _ _ hV (lv_sub hl [1, 3] rfl)
      · have h := ifn hc h
        refine lv_iload hx hb dX10_copies_9 (lv_at hl 4 rfl) ?_
        refine lv_if_eq (tgt := 30) hx hb dX10_copies_11 (by decide) (fun hc => ?_) (fun hc => ?_)
        · have h := ifp hc h
          refine lv_aload_n hx hb dX10_copies_30 rfl (lv_at hl 2 rfl) ?_
          refine lv_iload hx hb dX10_copies_31 (lv_at hl 5 rfl) ?_
          refine lv_aload_n hx hb dX10_copies_33 rfl (lv_at hl 0 rfl) ?_
          refine G_X10_image cx hV mk_6_159 dX10_copies_34 ?_
          refine lv_iload_n hx hb dX10_copies_37 rfl (lv_at hl 1 rfl) ?_
          refine lv_iload hx hb dX10_copies_38 (lv_at hl 5 rfl) ?_
          refine lv_iadd hx hb dX10_copies_40 ?_
          refine bd_e h (fun v3 hq h => ?_)
          refine R_M_iald cx hV (by decide) hq dX10_copies_41 ?_
          refine bd_e h (fun σ4 hq h => ?_)
          refine R_M_iast cx hV hj2 hq dX10_copies_42 (fun H locs hV => ?_)
          refine lv_iinc (v := (u1 + 1)) (lv' := [(5, .int (u1 + 1)), (0, .ref (eA E 0)), (1, .int p1), (2, .ref (eA E (pM j2))), (3, .int p3), (4, .int p4)]) hx hb dX10_copies_43 hl (k := 5) rfl rfl (by decide) rfl (fun ls hl => ?_)
          refine lv_goto (tgt := 3) hx hb dX10_copies_46 (by decide) ?_
          cases h
          exact hT1 rfl _ _ _ hV (lv_sub hl [1, 2, 3, 4, 5, 0] rfl)
        · have h := ifn hc h
          refine lv_aload_n hx hb dX10_copies_14 rfl (lv_at hl 0 rfl) ?_
          refine G_X10_image cx hV mk_6_159 dX10_copies_15 ?_
          refine lv_iload_n hx hb dX10_copies_18 rfl (lv_at hl 1 rfl) ?_
          refine lv_iload hx hb dX10_copies_19 (lv_at hl 5 rfl) ?_
          refine lv_iadd hx hb dX10_copies_21 ?_
          refine lv_aload_n hx hb dX10_copies_22 rfl (lv_at hl 2 rfl) ?_
          refine lv_iload hx hb dX10_copies_23 (lv_at hl 5 rfl) ?_
          refine bd_e h (fun v5 hq h => ?_)
          refine R_M_iald cx hV hj2 hq dX10_copies_25 ?_
          refine bd_e h (fun σ6 hq h => ?_)
          refine R_M_iast cx hV (by decide) hq dX10_copies_26 (fun H locs hV => ?_)
          refine lv_goto (tgt := 43) hx hb dX10_copies_27 (by decide) ?_
          refine lv_iinc (v := (u1 + 1)) (lv' := [(5, .int (u1 + 1)), (0, .ref (eA E 0)), (1, .int p1), (2, .ref (eA E (pM j2))), (3, .int p3), (4, .int p4)]) hx hb dX10_copies_43 hl (k := 5) rfl rfl (by decide) rfl (fun ls hl => ?_)
          refine lv_goto (tgt := 3) hx hb dX10_copies_46 (by decide) ?_
          cases h
          exact hT1 rfl _ _ _ hV (lv_sub hl [1, 2, 3, 4, 5, 0] rfl)
    · have hV : AtW E (wM E σ8 ++ X) A s H locs := hV
      have hl : lv_has ls 6 [(1, .int p1), (3, .int p3)] := hl
      refine lv_iload_n hx hb dX10_copies_49 rfl (lv_at hl 0 rfl) ?_
      refine lv_iload_n hx hb dX10_copies_50 rfl (lv_at hl 1 rfl) ?_
      refine lv_iadd hx hb dX10_copies_51 ?_
      obtain ⟨h1, h2⟩ := Prod.mk.inj (Option.some.inj h)
      subst h1
      subst h2
      subst hQ
      exact r_ireti cx hr hlk hV dX10_copies_52
  rw [hH, hlocs] at goal
  exact goal
theorem k_X10_copies {p : Program} {l : Launch} {e : Env} {R : Room} {s : State} {m : MethodId} {a : Array Value} {below : List Frame} {meth : Method} {c : Code} {H : Heap} {locs : List Loc} {cells slots : Nat} {Q : State → Prop} {cc : ByteArray} {own : String} {nL pc : Nat} {ls : Array Slot} {rest : List Value} {A : Nat → Prop} {E : EV} {X : va_W} {σ : St} {j2 : Nat} {p1 : Int32} {p3 : Int32} {p4 : Int32} {rv : Int32} {σf : St} (hj2 : j2 < 36) (h : x_X10_copies j2 p1 p3 p4 σ = some (rv, σf)) (cx : CallFix p m c cc nL s a TBL own) (hV : AtW E (wM E σ ++ X) A s H locs) {idx : Nat} (w1 : Cond.methodLink own idx yX10_copies ∈ TBL) (hR : (rm_X10_copies).frames + 1 ≤ R.frames ∧ 8 + (6 + 11) + (rm_X10_copies).locals ≤ R.locals) (hcs : cells ≤ R.cells ∧ slots ≤ R.slots) (hls : ls.size = nL) (hcat : (rest.map fun v => v.category).sum ≤ 8) (d : decode cc pc = .ok (.invokevirtual idx, 3)) (kk : ∀ (H1 : Heap) (locs1 : List Loc), AtW E (wM E σf ++ X) A s H1 locs1 → W p l e R s m a below meth c H1 locs1 cells slots Q (F0 m (pc + 3) ls (.int rv :: rest))) : W p l e R s m a below meth c H locs cells slots Q (F0 m pc ls (.int p4 :: .int p3 :: .ref (eA E (pM j2)) :: .int p1 :: .ref (eA E 0) :: rest)) :=
  r_calli (n := 4) (As := [.int p1, .ref (eA E (pM j2)), .int p3, .int p4]) (q0 := 0) (ci := 10) (qq := (RX10, TX10, 64)) (c_X10_copies hj2 h) wM_fst rfl rfl mk_8_162 mk_P_107 mk_1_11 mk_8_163 (by decide +kernel) rfl ⟨rfl, rfl⟩ cx hV w1 hR hcs hls rfl hcat d kk
def x_X10_copies_ (p1 : Int32) (p2 : Int32) (σ : St) : Option St :=
  bd2 (x_X10_copies 17 (256 * p1) 192 p2 σ) fun v1 σ2 =>
  bd2 (x_X10_copies 16 v1 8 p2 σ2) fun v3 σ4 =>
  bd2 (x_X10_copies 18 v3 8 p2 σ4) fun v5 σ6 =>
  bd2 (x_X10_copies 7 v5 24 p2 σ6) fun v7 σ8 =>
  bd2 (x_X10_copies 8 v7 24 p2 σ8) fun v9 σ10 =>
  some σ10
abbrev rm_X10_copies_ : Room := { frames := 1, cells := 0, slots := 0, locals := 25 }
set_option maxHeartbeats 4000000 in
set_option maxRecDepth 100000 in
theorem c_X10_copies_ {l : Launch} {E : EV} {X : va_W} {σ : St} {p1 : Int32} {p2 : Int32} {σf : St} (h : x_X10_copies_ p1 p2 σ = some σf) : CM l yX10_copies_ cX10_copies_ 4 none rm_X10_copies_ [.ref (eA E 0), .int p1, .int p2] E (wM E σ ++ X) (wM E σf ++ X) qV := by
  refine CM.start (by decide) (Nat.le_of_ble_eq_true rfl) (fun p e s m a below meth c A ls cx hr hlk hV hl => ?_)
  have cx : CallFix p m c cX10_copies_ 4 s a TBL RX10 := cx
  have hx := cx.1
  have hb := cx.2.1
  have hl : lv_has ls 4 [(0, .ref (eA E 0)), (1, .int p1), (2, .int p2)] := hl
  generalize hQ : EQ E (wM E σf ++ X) qV A s a below = QQ
  obtain ⟨H, hH⟩ : ∃ H, H = s.heap := ⟨_, rfl⟩
  obtain ⟨locs, hlocs⟩ : ∃ z, z = ([] : List Loc) := ⟨_, rfl⟩
  have hV : AtW E (wM E σ ++ X) A s H locs := by rw [hH, hlocs]; exact hV
  have goal : W p l e rm_X10_copies_ s m a below meth c H locs 0 0 QQ (F0 m 0 ls []) := by
    unfold x_X10_copies_ at h
    refine lv_aload_n hx hb dX10_copies__0 rfl (lv_at hl 0 rfl) ?_
    refine lv_sipush (v := 256) hx hb dX10_copies__1 (by decide) ?_
    refine lv_iload_n hx hb dX10_copies__4 rfl (lv_at hl 1 rfl) ?_
    refine lv_imul hx hb dX10_copies__5 ?_
    refine lv_aload_n hx hb dX10_copies__6 rfl (lv_at hl 0 rfl) ?_
    refine G_X10_row cx hV mk_6_130 dX10_copies__7 ?_
    refine lv_sipush (v := 192) hx hb dX10_copies__10 (by decide) ?_
    refine lv_iload_n hx hb dX10_copies__13 rfl (lv_at hl 2 rfl) ?_
    refine bd2_e h (fun v1 σ2 hq h => ?_)
    refine k_X10_copies (by decide) hq cx hV mk_8_160 ⟨Nat.le_of_ble_eq_true rfl, Nat.le_of_ble_eq_true rfl⟩ ⟨Nat.zero_le _, Nat.zero_le _⟩ hl.1 (Nat.le_of_ble_eq_true rfl) dX10_copies__14 (fun H locs hV => ?_)
    refine lv_istore_n (lv' := [(3, .int v1), (0, .ref (eA E 0)), (1, .int p1), (2, .int p2)]) hx hb dX10_copies__17 rfl hl (by decide) rfl (fun ls hl => ?_)
    refine lv_aload_n hx hb dX10_copies__18 rfl (lv_at hl 1 rfl) ?_
    refine lv_iload_n hx hb dX10_copies__19 rfl (lv_at hl 0 rfl) ?_
    refine lv_aload_n hx hb dX10_copies__20 rfl (lv_at hl 1 rfl) ?_
    refine G_X10_many cx hV mk_6_129 dX10_copies__21 ?_
    refine lv_bipush (v := 8) hx hb dX10_copies__24 (by decide) ?_
    refine lv_iload_n hx hb dX10_copies__26 rfl (lv_at hl 3 rfl) ?_
    refine bd2_e h (fun v3 σ4 hq h => ?_)
    refine k_X10_copies (by decide) hq cx hV mk_8_160 ⟨Nat.le_of_ble_eq_true rfl, Nat.le_of_ble_eq_true rfl⟩ ⟨Nat.zero_le _, Nat.zero_le _⟩ hl.1 (Nat.le_of_ble_eq_true rfl) dX10_copies__27 (fun H locs hV => ?_)
    refine lv_istore_n (lv' := [(3, .int v3), (0, .ref (eA E 0)), (1, .int p1), (2, .int p2)]) hx hb dX10_copies__30 rfl hl (by decide) rfl (fun ls hl => ?_)
    refine lv_aload_n hx hb dX10_copies__31 rfl (lv_at hl 1 rfl) ?_
    refine lv_iload_n hx hb dX10_copies__32 rfl (lv_at hl 0 rfl) ?_
    refine lv_aload_n hx hb dX10_copies__33 rfl (lv_at hl 1 rfl) ?_
    refine G_X10_standing cx hV mk_6_131 dX10_copies__34 ?_
    refine lv_bipush (v := 8) hx hb dX10_copies__37 (by decide) ?_
    refine lv_iload_n hx hb dX10_copies__39 rfl (lv_at hl 3 rfl) ?_
    refine bd2_e h (fun v5 σ6 hq h => ?_)
    refine k_X10_copies (by decide) hq cx hV mk_8_160 ⟨Nat.le_of_ble_eq_true rfl, Nat.le_of_ble_eq_true rfl⟩ ⟨Nat.zero_le _, Nat.zero_le _⟩ hl.1 (Nat.le_of_ble_eq_true rfl) dX10_copies__40 (fun H locs hV => ?_)
    refine lv_istore_n (lv' := [(3, .int v5), (0, .ref (eA E 0)), (1, .int p1), (2, .int p2)]) hx hb dX10_copies__43 rfl hl (by decide) rfl (fun ls hl => ?_)
    refine lv_aload_n hx hb dX10_copies__44 rfl (lv_at hl 1 rfl) ?_
    refine lv_iload_n hx hb dX10_copies__45 rfl (lv_at hl 0 rfl) ?_
    refine lv_aload_n hx hb dX10_copies__46 rfl (lv_at hl 1 rfl) ?_
    refine G_X10_liesAt cx hV mk_6_112 dX10_copies__47 ?_
    refine lv_bipush (v := 24) hx hb dX10_copies__50 (by decide) ?_
    refine lv_iload_n hx hb dX10_copies__52 rfl (lv_at hl 3 rfl) ?_
    refine bd2_e h (fun v7 σ8 hq h => ?_)
    refine k_X10_copies (by decide) hq cx hV mk_8_160 ⟨Nat.le_of_ble_eq_true rfl, Nat.le_of_ble_eq_true rfl⟩ ⟨Nat.zero_le _, Nat.zero_le _⟩ hl.1 (Nat.le_of_ble_eq_true rfl) dX10_copies__53 (fun H locs hV => ?_)
    refine lv_istore_n (lv' := [(3, .int v7), (0, .ref (eA E 0)), (1, .int p1), (2, .int p2)]) hx hb dX10_copies__56 rfl hl (by decide) rfl (fun ls hl => ?_)
    refine lv_aload_n hx hb dX10_copies__57 rfl (lv_at hl 1 rfl) ?_
    refine lv_iload_n hx hb dX10_copies__58 rfl (lv_at hl 0 rfl) ?_
    refine lv_aload_n hx hb dX10_copies__59 rfl (lv_at hl 1 rfl) ?_
    refine G_X10_discAt cx hV mk_6_113 dX10_copies__60 ?_
    refine lv_bipush (v := 24) hx hb dX10_copies__63 (by decide) ?_
    refine lv_iload_n hx hb dX10_copies__65 rfl (lv_at hl 3 rfl) ?_
    refine bd2_e h (fun v9 σ10 hq h => ?_)
    refine k_X10_copies (by decide) hq cx hV mk_8_160 ⟨Nat.le_of_ble_eq_true rfl, Nat.le_of_ble_eq_true rfl⟩ ⟨Nat.zero_le _, Nat.zero_le _⟩ hl.1 (Nat.le_of_ble_eq_true rfl) dX10_copies__66 (fun H locs hV => ?_)
    refine lv_pop hx hb dX10_copies__69 rfl ?_
    have h1 := Option.some.inj h
    subst h1
    subst hQ
    exact r_vret cx hr hlk hV dX10_copies__70
  rw [hH, hlocs] at goal
  exact goal
theorem k_X10_copies_ {p : Program} {l : Launch} {e : Env} {R : Room} {s : State} {m : MethodId} {a : Array Value} {below : List Frame} {meth : Method} {c : Code} {H : Heap} {locs : List Loc} {cells slots : Nat} {Q : State → Prop} {cc : ByteArray} {own : String} {nL pc : Nat} {ls : Array Slot} {rest : List Value} {A : Nat → Prop} {E : EV} {X : va_W} {σ : St} {p1 : Int32} {p2 : Int32} {σf : St} (h : x_X10_copies_ p1 p2 σ = some σf) (cx : CallFix p m c cc nL s a TBL own) (hV : AtW E (wM E σ ++ X) A s H locs) {idx : Nat} (w1 : Cond.methodLink own idx yX10_copies_ ∈ TBL) (hR : (rm_X10_copies_).frames + 1 ≤ R.frames ∧ 8 + (4 + 11) + (rm_X10_copies_).locals ≤ R.locals) (hcs : cells ≤ R.cells ∧ slots ≤ R.slots) (hls : ls.size = nL) (hcat : (rest.map fun v => v.category).sum ≤ 8) (d : decode cc pc = .ok (.invokevirtual idx, 3)) (kk : ∀ (H1 : Heap) (locs1 : List Loc), AtW E (wM E σf ++ X) A s H1 locs1 → W p l e R s m a below meth c H1 locs1 cells slots Q (F0 m (pc + 3) ls (rest))) : W p l e R s m a below meth c H locs cells slots Q (F0 m pc ls (.int p2 :: .int p1 :: .ref (eA E 0) :: rest)) :=
  r_callv (n := 2) (As := [.int p1, .int p2]) (q0 := 0) (ci := 10) (qq := (RX10, TX10, 64)) (c_X10_copies_ h) wM_fst rfl rfl mk_8_158 mk_P_106 mk_1_11 mk_8_159 (by decide +kernel) rfl ⟨rfl, rfl⟩ cx hV w1 hR hcs hls rfl hcat d kk
def x_X10_image (σ : St) : Option (Int32 × St) :=
  bd (some (sI σ 0 0)) fun σ1 =>
  (if (gI σ1 23) = 3 then
  some ((-1), σ1)
  else
  bd (x_X10_copies_ (gI σ1 23) 1 σ1) fun σ2 =>
  bd (some (sI σ2 23 ((gI σ2 23) + 1))) fun σ3 =>
  some ((gI σ3 23), σ3))
abbrev rm_X10_image : Room := { frames := 2, cells := 0, slots := 0, locals := 48 }
set_option maxHeartbeats 4000000 in
set_option maxRecDepth 100000 in
theorem c_X10_image {l : Launch} {E : EV} {X : va_W} {σ : St} {rv : Int32} {σf : St} (h : x_X10_image σ = some (rv, σf)) : CM l yX10_image cX10_image 1 (some .int) rm_X10_image [.ref (eA E 0)] E (wM E σ ++ X) (wM E σf ++ X) (qI rv) := by
  refine CM.start (by decide) (Nat.le_of_ble_eq_true rfl) (fun p e s m a below meth c A ls cx hr hlk hV hl => ?_)
  have cx : CallFix p m c cX10_image 1 s a TBL RX10 := cx
  have hx := cx.1
  have hb := cx.2.1
  have hl : lv_has ls 1 [(0, .ref (eA E 0))] := hl
  generalize hQ : EQ E (wM E σf ++ X) (qI rv) A s a below = QQ
  obtain ⟨H, hH⟩ : ∃ H, H = s.heap := ⟨_, rfl⟩
  obtain ⟨locs, hlocs⟩ : ∃ z, z = ([] : List Loc) := ⟨_, rfl⟩
  have hV : AtW E (wM E σ ++ X) A s H locs := by rw [hH, hlocs]; exact hV
  have goal : W p l e rm_X10_image s m a below meth c H locs 0 0 QQ (F0 m 0 ls []) := by
    unfold x_X10_image at h
    refine lv_aload_n hx hb dX10_image_0 rfl (lv_at hl 0 rfl) ?_
    refine lv_iconst (v := 0) hx hb dX10_image_1 (by decide) ?_
    refine bd_e h (fun σ1 hq h => ?_)
    refine P_X10_thrown cx hV hq mk_6_97 dX10_image_2 (fun H locs hV => ?_)
    refine lv_aload_n hx hb dX10_image_5 rfl (lv_at hl 0 rfl) ?_
    refine G_X10_images cx hV mk_6_160 dX10_image_6 ?_
    refine lv_iconst (v := 3) hx hb dX10_image_9 (by decide) ?_
    refine lv_icmp_ne (tgt := 15) hx hb dX10_image_10 (by decide) (fun hc => ?_) (fun hc => ?_)
    · have h := ifn hc h
      refine lv_aload_n hx hb dX10_image_15 rfl (lv_at hl 0 rfl) ?_
      refine lv_aload_n hx hb dX10_image_16 rfl (lv_at hl 0 rfl) ?_
      refine G_X10_images cx hV mk_6_160 dX10_image_17 ?_
      refine lv_iconst (v := 1) hx hb dX10_image_20 (by decide) ?_
      refine bd_e h (fun σ2 hq h => ?_)
      refine k_X10_copies_ hq cx hV mk_8_156 ⟨Nat.le_of_ble_eq_true rfl, Nat.le_of_ble_eq_true rfl⟩ ⟨Nat.zero_le _, Nat.zero_le _⟩ hl.1 (Nat.le_of_ble_eq_true rfl) dX10_image_21 (fun H locs hV => ?_)
      refine lv_aload_n hx hb dX10_image_24 rfl (lv_at hl 0 rfl) ?_
      refine lv_dup hx hb dX10_image_25 rfl ?_
      refine G_X10_images cx hV mk_6_160 dX10_image_26 ?_
      refine lv_iconst (v := 1) hx hb dX10_image_29 (by decide) ?_
      refine lv_iadd hx hb dX10_image_30 ?_
      refine bd_e h (fun σ3 hq h => ?_)
      refine P_X10_images cx hV hq mk_6_160 dX10_image_31 (fun H locs hV => ?_)
      refine lv_aload_n hx hb dX10_image_34 rfl (lv_at hl 0 rfl) ?_
      refine G_X10_images cx hV mk_6_160 dX10_image_35 ?_
      obtain ⟨h1, h2⟩ := Prod.mk.inj (Option.some.inj h)
      subst h1
      subst h2
      subst hQ
      exact r_ireti cx hr hlk hV dX10_image_38
    · have h := ifp hc h
      refine lv_iconst (v := (-1)) hx hb dX10_image_13 (by decide) ?_
      obtain ⟨h1, h2⟩ := Prod.mk.inj (Option.some.inj h)
      subst h1
      subst h2
      subst hQ
      exact r_ireti cx hr hlk hV dX10_image_14
  rw [hH, hlocs] at goal
  exact goal
theorem k_X10_image {p : Program} {l : Launch} {e : Env} {R : Room} {s : State} {m : MethodId} {a : Array Value} {below : List Frame} {meth : Method} {c : Code} {H : Heap} {locs : List Loc} {cells slots : Nat} {Q : State → Prop} {cc : ByteArray} {own : String} {nL pc : Nat} {ls : Array Slot} {rest : List Value} {A : Nat → Prop} {E : EV} {X : va_W} {σ : St} {rv : Int32} {σf : St} (h : x_X10_image σ = some (rv, σf)) (cx : CallFix p m c cc nL s a TBL own) (hV : AtW E (wM E σ ++ X) A s H locs) {idx : Nat} (w1 : Cond.methodLink own idx yX10_image ∈ TBL) (hR : (rm_X10_image).frames + 1 ≤ R.frames ∧ 8 + (1 + 11) + (rm_X10_image).locals ≤ R.locals) (hcs : cells ≤ R.cells ∧ slots ≤ R.slots) (hls : ls.size = nL) (hcat : (rest.map fun v => v.category).sum ≤ 8) (d : decode cc pc = .ok (.invokevirtual idx, 3)) (kk : ∀ (H1 : Heap) (locs1 : List Loc), AtW E (wM E σf ++ X) A s H1 locs1 → W p l e R s m a below meth c H1 locs1 cells slots Q (F0 m (pc + 3) ls (.int rv :: rest))) : W p l e R s m a below meth c H locs cells slots Q (F0 m pc ls (.ref (eA E 0) :: rest)) :=
  r_calli (n := 0) (As := []) (q0 := 0) (ci := 10) (qq := (RX10, TX10, 64)) (c_X10_image h) wM_fst rfl rfl mk_8_153 mk_8_154 mk_1_11 mk_8_155 (by decide +kernel) rfl ⟨rfl, rfl⟩ cx hV w1 hR hcs hls rfl hcat d kk
def x_X10_restore (σ : St) : Option (Int32 × St) :=
  bd (some (sI σ 0 0)) fun σ1 =>
  (if (gI σ1 23) = 0 then
  some ((-1), σ1)
  else
  bd (some (sI σ1 23 ((gI σ1 23) - 1))) fun σ2 =>
  bd (x_X10_copies_ (gI σ2 23) 0 σ2) fun σ3 =>
  some ((gI σ3 23), σ3))
abbrev rm_X10_restore : Room := { frames := 2, cells := 0, slots := 0, locals := 48 }
set_option maxHeartbeats 4000000 in
set_option maxRecDepth 100000 in
theorem c_X10_restore {l : Launch} {E : EV} {X : va_W} {σ : St} {rv : Int32} {σf : St} (h : x_X10_restore σ = some (rv, σf)) : CM l yX10_restore cX10_restore 1 (some .int) rm_X10_restore [.ref (eA E 0)] E (wM E σ ++ X) (wM E σf ++ X) (qI rv) := by
  refine CM.start (by decide) (Nat.le_of_ble_eq_true rfl) (fun p e s m a below meth c A ls cx hr hlk hV hl => ?_)
  have cx : CallFix p m c cX10_restore 1 s a TBL RX10 := cx
  have hx := cx.1
  have hb := cx.2.1
  have hl : lv_has ls 1 [(0, .ref (eA E 0))] := hl
  generalize hQ : EQ E (wM E σf ++ X) (qI rv) A s a below = QQ
  obtain ⟨H, hH⟩ : ∃ H, H = s.heap := ⟨_, rfl⟩
  obtain ⟨locs, hlocs⟩ : ∃ z, z = ([] : List Loc) := ⟨_, rfl⟩
  have hV : AtW E (wM E σ ++ X) A s H locs := by rw [hH, hlocs]; exact hV
  have goal : W p l e rm_X10_restore s m a below meth c H locs 0 0 QQ (F0 m 0 ls []) := by
    unfold x_X10_restore at h
    refine lv_aload_n hx hb dX10_restore_0 rfl (lv_at hl 0 rfl) ?_
    refine lv_iconst (v := 0) hx hb dX10_restore_1 (by decide) ?_
    refine bd_e h (fun σ1 hq h => ?_)
    refine P_X10_thrown cx hV hq mk_6_97 dX10_restore_2 (fun H locs hV => ?_)
    refine lv_aload_n hx hb dX10_restore_5 rfl (lv_at hl 0 rfl) ?_
    refine G_X10_images cx hV mk_6_160 dX10_restore_6 ?_
    refine lv_if_ne (tgt := 14) hx hb dX10_restore_9 (by decide) (fun hc => ?_) (fun hc => ?_)
    · have h := ifn hc h
      refine lv_aload_n hx hb dX10_restore_14 rfl (lv_at hl 0 rfl) ?_
      refine lv_dup hx hb dX10_restore_15 rfl ?_
      refine G_X10_images cx hV mk_6_160 dX10_restore_16 ?_
      refine lv_iconst (v := 1) hx hb dX10_restore_19 (by decide) ?_
      refine lv_isub hx hb dX10_restore_20 ?_
      refine bd_e h (fun σ2 hq h => ?_)
      refine P_X10_images cx hV hq mk_6_160 dX10_restore_21 (fun H locs hV => ?_)
      refine lv_aload_n hx hb dX10_restore_24 rfl (lv_at hl 0 rfl) ?_
      refine lv_aload_n hx hb dX10_restore_25 rfl (lv_at hl 0 rfl) ?_
      refine G_X10_images cx hV mk_6_160 dX10_restore_26 ?_
      refine lv_iconst (v := 0) hx hb dX10_restore_29 (by decide) ?_
      refine bd_e h (fun σ3 hq h => ?_)
      refine k_X10_copies_ hq cx hV mk_8_156 ⟨Nat.le_of_ble_eq_true rfl, Nat.le_of_ble_eq_true rfl⟩ ⟨Nat.zero_le _, Nat.zero_le _⟩ hl.1 (Nat.le_of_ble_eq_true rfl) dX10_restore_30 (fun H locs hV => ?_)
      refine lv_aload_n hx hb dX10_restore_33 rfl (lv_at hl 0 rfl) ?_
      refine G_X10_images cx hV mk_6_160 dX10_restore_34 ?_
      obtain ⟨h1, h2⟩ := Prod.mk.inj (Option.some.inj h)
      subst h1
      subst h2
      subst hQ
      exact r_ireti cx hr hlk hV dX10_restore_37
    · have h := ifp hc h
      refine lv_iconst (v := (-1)) hx hb dX10_restore_12 (by decide) ?_
      obtain ⟨h1, h2⟩ := Prod.mk.inj (Option.some.inj h)
      subst h1
      subst h2
      subst hQ
      exact r_ireti cx hr hlk hV dX10_restore_13
  rw [hH, hlocs] at goal
  exact goal
theorem k_X10_restore {p : Program} {l : Launch} {e : Env} {R : Room} {s : State} {m : MethodId} {a : Array Value} {below : List Frame} {meth : Method} {c : Code} {H : Heap} {locs : List Loc} {cells slots : Nat} {Q : State → Prop} {cc : ByteArray} {own : String} {nL pc : Nat} {ls : Array Slot} {rest : List Value} {A : Nat → Prop} {E : EV} {X : va_W} {σ : St} {rv : Int32} {σf : St} (h : x_X10_restore σ = some (rv, σf)) (cx : CallFix p m c cc nL s a TBL own) (hV : AtW E (wM E σ ++ X) A s H locs) {idx : Nat} (w1 : Cond.methodLink own idx yX10_restore ∈ TBL) (hR : (rm_X10_restore).frames + 1 ≤ R.frames ∧ 8 + (1 + 11) + (rm_X10_restore).locals ≤ R.locals) (hcs : cells ≤ R.cells ∧ slots ≤ R.slots) (hls : ls.size = nL) (hcat : (rest.map fun v => v.category).sum ≤ 8) (d : decode cc pc = .ok (.invokevirtual idx, 3)) (kk : ∀ (H1 : Heap) (locs1 : List Loc), AtW E (wM E σf ++ X) A s H1 locs1 → W p l e R s m a below meth c H1 locs1 cells slots Q (F0 m (pc + 3) ls (.int rv :: rest))) : W p l e R s m a below meth c H locs cells slots Q (F0 m pc ls (.ref (eA E 0) :: rest)) :=
  r_calli (n := 0) (As := []) (q0 := 0) (ci := 10) (qq := (RX10, TX10, 64)) (c_X10_restore h) wM_fst rfl rfl mk_8_165 mk_8_166 mk_1_11 mk_8_167 (by decide +kernel) rfl ⟨rfl, rfl⟩ cx hV w1 hR hcs hls rfl hcat d kk
def x_X10_status (p1 : Int32) (σ : St) : Option (Int32 × St) :=
  bd (some (sI σ 0 0)) fun σ1 =>
  bd (x_X10_within p1 0 3) fun v2 =>
  (if v2 = 0 then
  some ((-1), σ1)
  else
  bd (ldI (gA σ1 0) (lenM 0) p1) fun v3 =>
  some (v3, σ1))
abbrev rm_X10_status : Room := { frames := 1, cells := 0, slots := 0, locals := 22 }
set_option maxHeartbeats 4000000 in
set_option maxRecDepth 100000 in
theorem c_X10_status {l : Launch} {E : EV} {X : va_W} {σ : St} {p1 : Int32} {rv : Int32} {σf : St} (h : x_X10_status p1 σ = some (rv, σf)) : CM l yX10_status cX10_status 2 (some .int) rm_X10_status [.ref (eA E 0), .int p1] E (wM E σ ++ X) (wM E σf ++ X) (qI rv) := by
  refine CM.start (by decide) (Nat.le_of_ble_eq_true rfl) (fun p e s m a below meth c A ls cx hr hlk hV hl => ?_)
  have cx : CallFix p m c cX10_status 2 s a TBL RX10 := cx
  have hx := cx.1
  have hb := cx.2.1
  have hl : lv_has ls 2 [(0, .ref (eA E 0)), (1, .int p1)] := hl
  generalize hQ : EQ E (wM E σf ++ X) (qI rv) A s a below = QQ
  obtain ⟨H, hH⟩ : ∃ H, H = s.heap := ⟨_, rfl⟩
  obtain ⟨locs, hlocs⟩ : ∃ z, z = ([] : List Loc) := ⟨_, rfl⟩
  have hV : AtW E (wM E σ ++ X) A s H locs := by rw [hH, hlocs]; exact hV
  have goal : W p l e rm_X10_status s m a below meth c H locs 0 0 QQ (F0 m 0 ls []) := by
    unfold x_X10_status at h
    refine lv_aload_n hx hb dX10_status_0 rfl (lv_at hl 0 rfl) ?_
    refine lv_iconst (v := 0) hx hb dX10_status_1 (by decide) ?_
    refine bd_e h (fun σ1 hq h => ?_)
    refine P_X10_thrown cx hV hq mk_6_97 dX10_status_2 (fun H locs hV => ?_)
    refine lv_iload_n hx hb dX10_status_5 rfl (lv_at hl 1 rfl) ?_
    refine lv_iconst (v := 0) hx hb dX10_status_6 (by decide) ?_
    refine lv_iconst (v := 3) hx hb dX10_status_7 (by decide) ?_
    refine bd_e h (fun v2 hq h => ?_)
    refine k_X10_within hq cx hV mk_7_141 ⟨Nat.le_of_ble_eq_true rfl, Nat.le_of_ble_eq_true rfl⟩ ⟨Nat.zero_le _, Nat.zero_le _⟩ hl.1 (Nat.le_of_ble_eq_true rfl) dX10_status_8 (fun H locs hV => ?_)
    refine lv_if_eq (tgt := 23) hx hb dX10_status_11 (by decide) (fun hc => ?_) (fun hc => ?_)
    · have h := ifp hc h
      refine lv_iconst (v := (-1)) hx hb dX10_status_23 (by decide) ?_
      obtain ⟨h1, h2⟩ := Prod.mk.inj (Option.some.inj h)
      subst h1
      subst h2
      subst hQ
      exact r_ireti cx hr hlk hV dX10_status_24
    · have h := ifn hc h
      refine lv_aload_n hx hb dX10_status_14 rfl (lv_at hl 0 rfl) ?_
      refine G_X10_refused cx hV mk_6_98 dX10_status_15 ?_
      refine lv_iload_n hx hb dX10_status_18 rfl (lv_at hl 1 rfl) ?_
      refine bd_e h (fun v3 hq h => ?_)
      refine R_M_iald cx hV (by decide) hq dX10_status_19 ?_
      refine lv_goto (tgt := 24) hx hb dX10_status_20 (by decide) ?_
      obtain ⟨h1, h2⟩ := Prod.mk.inj (Option.some.inj h)
      subst h1
      subst h2
      subst hQ
      exact r_ireti cx hr hlk hV dX10_status_24
  rw [hH, hlocs] at goal
  exact goal
theorem k_X10_status {p : Program} {l : Launch} {e : Env} {R : Room} {s : State} {m : MethodId} {a : Array Value} {below : List Frame} {meth : Method} {c : Code} {H : Heap} {locs : List Loc} {cells slots : Nat} {Q : State → Prop} {cc : ByteArray} {own : String} {nL pc : Nat} {ls : Array Slot} {rest : List Value} {A : Nat → Prop} {E : EV} {X : va_W} {σ : St} {p1 : Int32} {rv : Int32} {σf : St} (h : x_X10_status p1 σ = some (rv, σf)) (cx : CallFix p m c cc nL s a TBL own) (hV : AtW E (wM E σ ++ X) A s H locs) {idx : Nat} (w1 : Cond.methodLink own idx yX10_status ∈ TBL) (hR : (rm_X10_status).frames + 1 ≤ R.frames ∧ 8 + (2 + 11) + (rm_X10_status).locals ≤ R.locals) (hcs : cells ≤ R.cells ∧ slots ≤ R.slots) (hls : ls.size = nL) (hcat : (rest.map fun v => v.category).sum ≤ 8) (d : decode cc pc = .ok (.invokevirtual idx, 3)) (kk : ∀ (H1 : Heap) (locs1 : List Loc), AtW E (wM E σf ++ X) A s H1 locs1 → W p l e R s m a below meth c H1 locs1 cells slots Q (F0 m (pc + 3) ls (.int rv :: rest))) : W p l e R s m a below meth c H locs cells slots Q (F0 m pc ls (.int p1 :: .ref (eA E 0) :: rest)) :=
  r_calli (n := 1) (As := [.int p1]) (q0 := 0) (ci := 10) (qq := (RX10, TX10, 64)) (c_X10_status h) wM_fst rfl rfl mk_8_169 mk_8_170 mk_1_11 mk_8_171 (by decide +kernel) rfl ⟨rfl, rfl⟩ cx hV w1 hR hcs hls rfl hcat d kk
def x_X10_count_L9 (p1 : Int32) (σ1 : St) (u2 : Int32) (u3 : Int32) : Option (Bool × (Int32 × Int32)) :=
  (if (gI σ1 9) ≤ u3 then
  some (false, (u2, u3))
  else
  bd (ldI (gA σ1 7) (lenM 7) u3) fun v4 =>
  (if v4 = (-1) then
  some (true, ((u2 + 1), (u3 + 1)))
  else
  some (true, ((u2 + 0), (u3 + 1)))))
def x_X10_count (p1 : Int32) (σ : St) : Option (Int32 × St) :=
  bd (some (sI σ 0 0)) fun σ1 =>
  bd2 (lp (fun v : (Int32 × Int32) => x_X10_count_L9 p1 σ1 v.1 v.2) FU (0, 0)) fun z5 z6 =>
  (if p1 = 0 then
  some ((gI σ1 23), σ1)
  else
  (if p1 = 1 then
  some ((gI σ1 1), σ1)
  else
  (if p1 = 2 then
  some (z5, σ1)
  else
  some ((-1), σ1))))
abbrev rm_X10_count : Room := { frames := 0, cells := 0, slots := 0, locals := 0 }
set_option maxHeartbeats 4000000 in
set_option maxRecDepth 100000 in
theorem c_X10_count {l : Launch} {E : EV} {X : va_W} {σ : St} {p1 : Int32} {rv : Int32} {σf : St} (h : x_X10_count p1 σ = some (rv, σf)) : CM l yX10_count cX10_count 4 (some .int) rm_X10_count [.ref (eA E 0), .int p1] E (wM E σ ++ X) (wM E σf ++ X) (qI rv) := by
  refine CM.start (by decide) (Nat.le_of_ble_eq_true rfl) (fun p e s m a below meth c A ls cx hr hlk hV hl => ?_)
  have cx : CallFix p m c cX10_count 4 s a TBL RX10 := cx
  have hx := cx.1
  have hb := cx.2.1
  have hl : lv_has ls 4 [(0, .ref (eA E 0)), (1, .int p1)] := hl
  generalize hQ : EQ E (wM E σf ++ X) (qI rv) A s a below = QQ
  obtain ⟨H, hH⟩ : ∃ H, H = s.heap := ⟨_, rfl⟩
  obtain ⟨locs, hlocs⟩ : ∃ z, z = ([] : List Loc) := ⟨_, rfl⟩
  have hV : AtW E (wM E σ ++ X) A s H locs := by rw [hH, hlocs]; exact hV
  have goal : W p l e rm_X10_count s m a below meth c H locs 0 0 QQ (F0 m 0 ls []) := by
    unfold x_X10_count at h
    refine lv_aload_n hx hb dX10_count_0 rfl (lv_at hl 0 rfl) ?_
    refine lv_iconst (v := 0) hx hb dX10_count_1 (by decide) ?_
    refine bd_e h (fun σ1 hq h => ?_)
    refine P_X10_thrown cx hV hq mk_6_97 dX10_count_2 (fun H locs hV => ?_)
    refine lv_iconst (v := 0) hx hb dX10_count_5 (by decide) ?_
    refine lv_istore_n (lv' := [(2, .int 0), (0, .ref (eA E 0)), (1, .int p1)]) hx hb dX10_count_6 rfl hl (by decide) rfl (fun ls hl => ?_)
    refine lv_iconst (v := 0) hx hb dX10_count_7 (by decide) ?_
    refine lv_istore_n (lv' := [(3, .int 0), (2, .int 0), (0, .ref (eA E 0)), (1, .int p1)]) hx hb dX10_count_8 rfl hl (by decide) rfl (fun ls hl => ?_)
    refine bd2_e h (fun z5 z6 ho h => ?_)
    refine (lp_rule (G := (fun v : (Int32 × Int32) => ∀ (H : Heap) (locs : List Loc) (ls : Array Slot), AtW E (wM E σ1 ++ X) A s H locs → lv_has ls 4 [(0, .ref (eA E 0)), (1, .int p1), (2, .int v.1), (3, .int v.2)] → W p l e rm_X10_count s m a below meth c H locs 0 0 QQ (F0 m 9 ls []))) (K := (fun v : (Int32 × Int32) => ∀ (H : Heap) (locs : List Loc) (ls : Array Slot), AtW E (wM E σ1 ++ X) A s H locs → lv_has ls 4 [(0, .ref (eA E 0)), (1, .int p1), (2, .int v.1)] → W p l e rm_X10_count s m a below meth c H locs 0 0 QQ (F0 m 41 ls []))) (fun v b1 y1 h hT1 hF1 => ?_) ho (fun H locs ls hV hl => ?_)) _ _ _ hV (lv_sub hl [2, 3, 1, 0] rfl)
    · obtain ⟨u2, u3⟩ := v
      have h : x_X10_count_L9 p1 σ1 u2 u3 = some (b1, y1) := h
      intro H locs ls hV hl
      have hV : AtW E (wM E σ1 ++ X) A s H locs := hV
      have hl : lv_has ls 4 [(0, .ref (eA E 0)), (1, .int p1), (2, .int u2), (3, .int u3)] := hl
      unfold x_X10_count_L9 at h
      refine lv_iload_n hx hb dX10_count_9 rfl (lv_at hl 3 rfl) ?_
      refine lv_aload_n hx hb dX10_count_10 rfl (lv_at hl 0 rfl) ?_
      refine G_X10_sleeves cx hV mk_6_122 dX10_count_11 ?_
      refine lv_icmp_ge (tgt := 41) hx hb dX10_count_14 (by decide) (fun hc => ?_) (fun hc => ?_)
      · have h := ifp hc h
        cases h
        exact hF1 rfl _ _ _ hV (lv_sub hl [0, 1, 2] rfl)
      · have h := ifn hc h
        refine lv_iload_n hx hb dX10_count_17 rfl (lv_at hl 2 rfl) ?_
        refine lv_aload_n hx hb dX10_count_18 rfl (lv_at hl 0 rfl) ?_
        refine G_X10_liesAt cx hV mk_6_112 dX10_count_19 ?_
        refine lv_iload_n hx hb dX10_count_22 rfl (lv_at hl 3 rfl) ?_
        refine bd_e h (fun v4 hq h => ?_)
        refine R_M_iald cx hV (by decide) hq dX10_count_23 ?_
        refine lv_iconst (v := (-1)) hx hb dX10_count_24 (by decide) ?_
        refine lv_icmp_ne (tgt := 32) hx hb dX10_count_25 (by decide) (fun hc => ?_) (fun hc => ?_)
        · have h := ifn hc h
          refine lv_iconst (v := 0) hx hb dX10_count_32 (by decide) ?_
          refine lv_iadd hx hb dX10_count_33 ?_
          refine lv_istore_n (lv' := [(2, .int (u2 + 0)), (0, .ref (eA E 0)), (1, .int p1), (3, .int u3)]) hx hb dX10_count_34 rfl hl (by decide) rfl (fun ls hl => ?_)
          refine lv_iinc (v := (u3 + 1)) (lv' := [(3, .int (u3 + 1)), (2, .int (u2 + 0)), (0, .ref (eA E 0)), (1, .int p1)]) hx hb dX10_count_35 hl (k := 3) rfl rfl (by decide) rfl (fun ls hl => ?_)
          refine lv_goto (tgt := 9) hx hb dX10_count_38 (by decide) ?_
          cases h
          exact hT1 rfl _ _ _ hV (lv_sub hl [2, 3, 1, 0] rfl)
        · have h := ifp hc h
          refine lv_iconst (v := 1) hx hb dX10_count_28 (by decide) ?_
          refine lv_goto (tgt := 33) hx hb dX10_count_29 (by decide) ?_
          refine lv_iadd hx hb dX10_count_33 ?_
          refine lv_istore_n (lv' := [(2, .int (u2 + 1)), (0, .ref (eA E 0)), (1, .int p1), (3, .int u3)]) hx hb dX10_count_34 rfl hl (by decide) rfl (fun ls hl => ?_)
          refine lv_iinc (v := (u3 + 1)) (lv' := [(3, .int (u3 + 1)), (2, .int (u2 + 1)), (0, .ref (eA E 0)), (1, .int p1)]) hx hb dX10_count_35 hl (k := 3) rfl rfl (by decide) rfl (fun ls hl => ?_)
          refine lv_goto (tgt := 9) hx hb dX10_count_38 (by decide) ?_
          cases h
          exact hT1 rfl _ _ _ hV (lv_sub hl [2, 3, 1, 0] rfl)
    · have hV : AtW E (wM E σ1 ++ X) A s H locs := hV
      have hl : lv_has ls 4 [(0, .ref (eA E 0)), (1, .int p1), (2, .int z5)] := hl
      refine lv_iload_n hx hb dX10_count_41 rfl (lv_at hl 1 rfl) ?_
      refine lv_if_ne (tgt := 52) hx hb dX10_count_42 (by decide) (fun hc => ?_) (fun hc => ?_)
      · have h := ifn hc h
        refine lv_iload_n hx hb dX10_count_52 rfl (lv_at hl 1 rfl) ?_
        refine lv_iconst (v := 1) hx hb dX10_count_53 (by decide) ?_
        refine lv_icmp_ne (tgt := 64) hx hb dX10_count_54 (by decide) (fun hc => ?_) (fun hc => ?_)
        · have h := ifn hc h
          refine lv_iload_n hx hb dX10_count_64 rfl (lv_at hl 1 rfl) ?_
          refine lv_iconst (v := 2) hx hb dX10_count_65 (by decide) ?_
          refine lv_icmp_ne (tgt := 73) hx hb dX10_count_66 (by decide) (fun hc => ?_) (fun hc => ?_)
          · have h := ifn hc h
            refine lv_iconst (v := (-1)) hx hb dX10_count_73 (by decide) ?_
            obtain ⟨h1, h2⟩ := Prod.mk.inj (Option.some.inj h)
            subst h1
            subst h2
            subst hQ
            exact r_ireti cx hr hlk hV dX10_count_74
          · have h := ifp hc h
            refine lv_iload_n hx hb dX10_count_69 rfl (lv_at hl 2 rfl) ?_
            refine lv_goto (tgt := 74) hx hb dX10_count_70 (by decide) ?_
            obtain ⟨h1, h2⟩ := Prod.mk.inj (Option.some.inj h)
            subst h1
            subst h2
            subst hQ
            exact r_ireti cx hr hlk hV dX10_count_74
        · have h := ifp hc h
          refine lv_aload_n hx hb dX10_count_57 rfl (lv_at hl 0 rfl) ?_
          refine G_X10_taped cx hV mk_6_99 dX10_count_58 ?_
          refine lv_goto (tgt := 74) hx hb dX10_count_61 (by decide) ?_
          obtain ⟨h1, h2⟩ := Prod.mk.inj (Option.some.inj h)
          subst h1
          subst h2
          subst hQ
          exact r_ireti cx hr hlk hV dX10_count_74
      · have h := ifp hc h
        refine lv_aload_n hx hb dX10_count_45 rfl (lv_at hl 0 rfl) ?_
        refine G_X10_images cx hV mk_6_160 dX10_count_46 ?_
        refine lv_goto (tgt := 74) hx hb dX10_count_49 (by decide) ?_
        obtain ⟨h1, h2⟩ := Prod.mk.inj (Option.some.inj h)
        subst h1
        subst h2
        subst hQ
        exact r_ireti cx hr hlk hV dX10_count_74
  rw [hH, hlocs] at goal
  exact goal
theorem k_X10_count {p : Program} {l : Launch} {e : Env} {R : Room} {s : State} {m : MethodId} {a : Array Value} {below : List Frame} {meth : Method} {c : Code} {H : Heap} {locs : List Loc} {cells slots : Nat} {Q : State → Prop} {cc : ByteArray} {own : String} {nL pc : Nat} {ls : Array Slot} {rest : List Value} {A : Nat → Prop} {E : EV} {X : va_W} {σ : St} {p1 : Int32} {rv : Int32} {σf : St} (h : x_X10_count p1 σ = some (rv, σf)) (cx : CallFix p m c cc nL s a TBL own) (hV : AtW E (wM E σ ++ X) A s H locs) {idx : Nat} (w1 : Cond.methodLink own idx yX10_count ∈ TBL) (hR : (rm_X10_count).frames + 1 ≤ R.frames ∧ 8 + (4 + 11) + (rm_X10_count).locals ≤ R.locals) (hcs : cells ≤ R.cells ∧ slots ≤ R.slots) (hls : ls.size = nL) (hcat : (rest.map fun v => v.category).sum ≤ 8) (d : decode cc pc = .ok (.invokevirtual idx, 3)) (kk : ∀ (H1 : Heap) (locs1 : List Loc), AtW E (wM E σf ++ X) A s H1 locs1 → W p l e R s m a below meth c H1 locs1 cells slots Q (F0 m (pc + 3) ls (.int rv :: rest))) : W p l e R s m a below meth c H locs cells slots Q (F0 m pc ls (.int p1 :: .ref (eA E 0) :: rest)) :=
  r_calli (n := 1) (As := [.int p1]) (q0 := 0) (ci := 10) (qq := (RX10, TX10, 64)) (c_X10_count h) wM_fst rfl rfl mk_8_173 mk_8_174 mk_1_11 mk_8_175 (by decide +kernel) rfl ⟨rfl, rfl⟩ cx hV w1 hR hcs hls rfl hcat d kk
