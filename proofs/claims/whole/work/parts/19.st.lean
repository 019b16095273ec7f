def x_X9_hasBit (p1 : Int32) (p2 : Int32) : Option Int32 :=
  (if ((p1 >>> (p2 &&& 31)) &&& 1) = 0 then
  some 0
  else
  some 1)
abbrev rm_X9_hasBit : Room := { frames := 0, cells := 0, slots := 0, locals := 0 }
set_option maxHeartbeats 4000000 in
set_option maxRecDepth 100000 in
theorem c_X9_hasBit {l : Launch} {E : EV} {V : va_W} {p1 : Int32} {p2 : Int32} {rv : Int32} (h : x_X9_hasBit p1 p2 = some rv) : CM l yX9_hasBit cX9_hasBit 2 (some .boolean) rm_X9_hasBit [.int p1, .int p2] E V V (qI rv) := by
  refine CM.start (by decide) (Nat.le_of_ble_eq_true rfl) (fun p e s m a below meth c A ls cx hr hlk hV hl => ?_)
  have cx : CallFix p m c cX9_hasBit 2 s a TBL RX9 := cx
  have hx := cx.1
  have hb := cx.2.1
  have hl : lv_has ls 2 [(0, .int p1), (1, .int p2)] := hl
  generalize hQ : EQ E V (qI rv) A s a below = QQ
  obtain ⟨H, hH⟩ : ∃ H, H = s.heap := ⟨_, rfl⟩
  obtain ⟨locs, hlocs⟩ : ∃ z, z = ([] : List Loc) := ⟨_, rfl⟩
  have hV : AtW E V A s H locs := by rw [hH, hlocs]; exact hV
  have goal : W p l e rm_X9_hasBit s m a below meth c H locs 0 0 QQ (F0 m 0 ls []) := by
    unfold x_X9_hasBit at h
    refine lv_iload_n hx hb dX9_hasBit_0 rfl (lv_at hl 0 rfl) ?_
    refine lv_iload_n hx hb dX9_hasBit_1 rfl (lv_at hl 1 rfl) ?_
    refine lv_ishr hx hb dX9_hasBit_2 ?_
    refine lv_iconst (v := 1) hx hb dX9_hasBit_3 (by decide) ?_
    refine lv_iand hx hb dX9_hasBit_4 ?_
    refine lv_if_eq (tgt := 12) hx hb dX9_hasBit_5 (by decide) (fun hc => ?_) (fun hc => ?_)
    · have h := ifp hc h
      refine lv_iconst (v := 0) hx hb dX9_hasBit_12 (by decide) ?_
      have h1 := Option.some.inj h
      subst h1
      subst hQ
      exact r_zreti cx hr hlk hV (Or.inl rfl) dX9_hasBit_13
    · have h := ifn hc h
      refine lv_iconst (v := 1) hx hb dX9_hasBit_8 (by decide) ?_
      refine lv_goto (tgt := 13) hx hb dX9_hasBit_9 (by decide) ?_
      have h1 := Option.some.inj h
      subst h1
      subst hQ
      exact r_zreti cx hr hlk hV (Or.inr rfl) dX9_hasBit_13
  rw [hH, hlocs] at goal
  exact goal
theorem k_X9_hasBit {p : Program} {l : Launch} {e : Env} {R : Room} {s : State} {m : MethodId} {a : Array Value} {below : List Frame} {meth : Method} {c : Code} {H : Heap} {locs : List Loc} {cells slots : Nat} {Q : State → Prop} {cc : ByteArray} {own : String} {nL pc : Nat} {ls : Array Slot} {rest : List Value} {A : Nat → Prop} {E : EV} {V : va_W} {p1 : Int32} {p2 : Int32} {rv : Int32} (h : x_X9_hasBit p1 p2 = some rv) (cx : CallFix p m c cc nL s a TBL own) (hV : AtW E V A s H locs) {idx : Nat} (w1 : Cond.methodLink own idx yX9_hasBit ∈ TBL) (hR : (rm_X9_hasBit).frames + 1 ≤ R.frames ∧ 8 + (2 + 11) + (rm_X9_hasBit).locals ≤ R.locals) (hcs : cells ≤ R.cells ∧ slots ≤ R.slots) (hls : ls.size = nL) (hcat : (rest.map fun v => v.category).sum ≤ 8) (d : decode cc pc = .ok (.invokestatic idx, 3)) (kk : ∀ (H1 : Heap) (locs1 : List Loc), AtW E V A s H1 locs1 → W p l e R s m a below meth c H1 locs1 cells slots Q (F0 m (pc + 3) ls (.int rv :: rest))) : W p l e R s m a below meth c H locs cells slots Q (F0 m pc ls (.int p2 :: .int p1 :: rest)) :=
  r_sti (n := 2) (As := [.int p1, .int p2]) (c_X9_hasBit h) rfl mk_2_232 mk_1_1 mk_2_233 (by decide +kernel) rfl ⟨rfl, rfl⟩ cx hV w1 hR hcs hls rfl hcat d kk
theorem k_X9_hasBitN {p : Program} {l : Launch} {e : Env} {R : Room} {s : State} {m : MethodId} {a : Array Value} {below : List Frame} {meth : Method} {c : Code} {H : Heap} {locs : List Loc} {cells slots : Nat} {Q : State → Prop} {cc : ByteArray} {own : String} {nL pc : Nat} {ls : Array Slot} {rest : List Value} {A : Nat → Prop} {E : EV} {V : va_W} {p1 : Int32} {p2 : Int32} {rv : Int32} (h : x_X9_hasBit p1 p2 = some rv) (cx : CallFix p m c cc nL s a TBL own) (hV : AtW E V A s H locs) {idx : Nat} {host : String} (w1 : Cond.methodLinkNest own idx yX9_hasBit host ∈ nestW) (hR : (rm_X9_hasBit).frames + 1 ≤ R.frames ∧ 8 + (2 + 11) + (rm_X9_hasBit).locals ≤ R.locals) (hcs : cells ≤ R.cells ∧ slots ≤ R.slots) (hls : ls.size = nL) (hcat : (rest.map fun v => v.category).sum ≤ 8) (d : decode cc pc = .ok (.invokestatic idx, 3)) (kk : ∀ (H1 : Heap) (locs1 : List Loc), AtW E V A s H1 locs1 → W p l e R s m a below meth c H1 locs1 cells slots Q (F0 m (pc + 3) ls (.int rv :: rest))) : W p l e R s m a below meth c H locs cells slots Q (F0 m pc ls (.int p2 :: .int p1 :: rest)) :=
  r_stNi (n := 2) (As := [.int p1, .int p2]) (c_X9_hasBit h) rfl mk_2_232 mk_1_1 mk_2_233 (by decide +kernel) rfl ⟨rfl, rfl⟩ cx hV w1 hR hcs hls rfl hcat d kk
def x_X9_roundedUp (p1 : Int32) (p2 : Int32) : Option Int32 :=
  (if p2 ≤ 0 then
  some p1
  else
  bd (dvI ((p1 + p2) - 1) p2) fun v1 =>
  some v1)
abbrev rm_X9_roundedUp : Room := { frames := 0, cells := 0, slots := 0, locals := 0 }
set_option maxHeartbeats 4000000 in
set_option maxRecDepth 100000 in
theorem c_X9_roundedUp {l : Launch} {E : EV} {V : va_W} {p1 : Int32} {p2 : Int32} {rv : Int32} (h : x_X9_roundedUp p1 p2 = some rv) : CM l yX9_roundedUp cX9_roundedUp 2 (some .int) rm_X9_roundedUp [.int p1, .int p2] E V V (qI rv) := by
  refine CM.start (by decide) (Nat.le_of_ble_eq_true rfl) (fun p e s m a below meth c A ls cx hr hlk hV hl => ?_)
  have cx : CallFix p m c cX9_roundedUp 2 s a TBL RX9 := cx
  have hx := cx.1
  have hb := cx.2.1
  have hl : lv_has ls 2 [(0, .int p1), (1, .int p2)] := hl
  generalize hQ : EQ E V (qI rv) A s a below = QQ
  obtain ⟨H, hH⟩ : ∃ H, H = s.heap := ⟨_, rfl⟩
  obtain ⟨locs, hlocs⟩ : ∃ z, z = ([] : List Loc) := ⟨_, rfl⟩
  have hV : AtW E V A s H locs := by rw [hH, hlocs]; exact hV
  have goal : W p l e rm_X9_roundedUp s m a below meth c H locs 0 0 QQ (F0 m 0 ls []) := by
    unfold x_X9_roundedUp at h
    refine lv_iload_n hx hb dX9_roundedUp_0 rfl (lv_at hl 1 rfl) ?_
    refine lv_if_le (tgt := 14) hx hb dX9_roundedUp_1 (by decide) (fun hc => ?_) (fun hc => ?_)
    · have h := ifp hc h
      refine lv_iload_n hx hb dX9_roundedUp_14 rfl (lv_at hl 0 rfl) ?_
      have h1 := Option.some.inj h
      subst h1
      subst hQ
      exact r_ireti cx hr hlk hV dX9_roundedUp_15
    · have h := ifn hc h
      refine lv_iload_n hx hb dX9_roundedUp_4 rfl (lv_at hl 0 rfl) ?_
      refine lv_iload_n hx hb dX9_roundedUp_5 rfl (lv_at hl 1 rfl) ?_
      refine lv_iadd hx hb dX9_roundedUp_6 ?_
      refine lv_iconst (v := 1) hx hb dX9_roundedUp_7 (by decide) ?_
      refine lv_isub hx hb dX9_roundedUp_8 ?_
      refine lv_iload_n hx hb dX9_roundedUp_9 rfl (lv_at hl 1 rfl) ?_
      refine bd_e h (fun v1 hq h => ?_)
      obtain ⟨hne, hq⟩ := dvI_e hq
      refine lv_idiv hx hb dX9_roundedUp_10 hne ?_
      rw [hq]
      refine lv_goto (tgt := 15) hx hb dX9_roundedUp_11 (by decide) ?_
      have h1 := Option.some.inj h
      subst h1
      subst hQ
      exact r_ireti cx hr hlk hV dX9_roundedUp_15
  rw [hH, hlocs] at goal
  exact goal
theorem k_X9_roundedUp {p : Program} {l : Launch} {e : Env} {R : Room} {s : State} {m : MethodId} {a : Array Value} {below : List Frame} {meth : Method} {c : Code} {H : Heap} {locs : List Loc} {cells slots : Nat} {Q : State → Prop} {cc : ByteArray} {own : String} {nL pc : Nat} {ls : Array Slot} {rest : List Value} {A : Nat → Prop} {E : EV} {V : va_W} {p1 : Int32} {p2 : Int32} {rv : Int32} (h : x_X9_roundedUp p1 p2 = some rv) (cx : CallFix p m c cc nL s a TBL own) (hV : AtW E V A s H locs) {idx : Nat} (w1 : Cond.methodLink own idx yX9_roundedUp ∈ TBL) (hR : (rm_X9_roundedUp).frames + 1 ≤ R.frames ∧ 8 + (2 + 11) + (rm_X9_roundedUp).locals ≤ R.locals) (hcs : cells ≤ R.cells ∧ slots ≤ R.slots) (hls : ls.size = nL) (hcat : (rest.map fun v => v.category).sum ≤ 8) (d : decode cc pc = .ok (.invokestatic idx, 3)) (kk : ∀ (H1 : Heap) (locs1 : List Loc), AtW E V A s H1 locs1 → W p l e R s m a below meth c H1 locs1 cells slots Q (F0 m (pc + 3) ls (.int rv :: rest))) : W p l e R s m a below meth c H locs cells slots Q (F0 m pc ls (.int p2 :: .int p1 :: rest)) :=
  r_sti (n := 2) (As := [.int p1, .int p2]) (c_X9_roundedUp h) rfl mk_3_16 mk_1_1 mk_3_17 (by decide +kernel) rfl ⟨rfl, rfl⟩ cx hV w1 hR hcs hls rfl hcat d kk
theorem k_X9_roundedUpN {p : Program} {l : Launch} {e : Env} {R : Room} {s : State} {m : MethodId} {a : Array Value} {below : List Frame} {meth : Method} {c : Code} {H : Heap} {locs : List Loc} {cells slots : Nat} {Q : State → Prop} {cc : ByteArray} {own : String} {nL pc : Nat} {ls : Array Slot} {rest : List Value} {A : Nat → Prop} {E : EV} {V : va_W} {p1 : Int32} {p2 : Int32} {rv : Int32} (h : x_X9_roundedUp p1 p2 = some rv) (cx : CallFix p m c cc nL s a TBL own) (hV : AtW E V A s H locs) {idx : Nat} {host : String} (w1 : Cond.methodLinkNest own idx yX9_roundedUp host ∈ nestW) (hR : (rm_X9_roundedUp).frames + 1 ≤ R.frames ∧ 8 + (2 + 11) + (rm_X9_roundedUp).locals ≤ R.locals) (hcs : cells ≤ R.cells ∧ slots ≤ R.slots) (hls : ls.size = nL) (hcat : (rest.map fun v => v.category).sum ≤ 8) (d : decode cc pc = .ok (.invokestatic idx, 3)) (kk : ∀ (H1 : Heap) (locs1 : List Loc), AtW E V A s H1 locs1 → W p l e R s m a below meth c H1 locs1 cells slots Q (F0 m (pc + 3) ls (.int rv :: rest))) : W p l e R s m a below meth c H locs cells slots Q (F0 m pc ls (.int p2 :: .int p1 :: rest)) :=
  r_stNi (n := 2) (As := [.int p1, .int p2]) (c_X9_roundedUp h) rfl mk_3_16 mk_1_1 mk_3_17 (by decide +kernel) rfl ⟨rfl, rfl⟩ cx hV w1 hR hcs hls rfl hcat d kk
def x_X9_isPace (p1 : Int32) : Option Int32 :=
  (if p1 < 1 then
  some 0
  else
  (if 8 < p1 then
  some 0
  else
  some 1))
abbrev rm_X9_isPace : Room := { frames := 0, cells := 0, slots := 0, locals := 0 }
set_option maxHeartbeats 4000000 in
set_option maxRecDepth 100000 in
theorem c_X9_isPace {l : Launch} {E : EV} {V : va_W} {p1 : Int32} {rv : Int32} (h : x_X9_isPace p1 = some rv) : CM l yX9_isPace cX9_isPace 1 (some .boolean) rm_X9_isPace [.int p1] E V V (qI rv) := by
  refine CM.start (by decide) (Nat.le_of_ble_eq_true rfl) (fun p e s m a below meth c A ls cx hr hlk hV hl => ?_)
  have cx : CallFix p m c cX9_isPace 1 s a TBL RX9 := cx
  have hx := cx.1
  have hb := cx.2.1
  have hl : lv_has ls 1 [(0, .int p1)] := hl
  generalize hQ : EQ E V (qI rv) A s a below = QQ
  obtain ⟨H, hH⟩ : ∃ H, H = s.heap := ⟨_, rfl⟩
  obtain ⟨locs, hlocs⟩ : ∃ z, z = ([] : List Loc) := ⟨_, rfl⟩
  have hV : AtW E V A s H locs := by rw [hH, hlocs]; exact hV
  have goal : W p l e rm_X9_isPace s m a below meth c H locs 0 0 QQ (F0 m 0 ls []) := by
    unfold x_X9_isPace at h
    refine lv_iload_n hx hb dX9_isPace_0 rfl (lv_at hl 0 rfl) ?_
    refine lv_iconst (v := 1) hx hb dX9_isPace_1 (by decide) ?_
    refine lv_icmp_lt (tgt := 15) hx hb dX9_isPace_2 (by decide) (fun hc => ?_) (fun hc => ?_)
    · have h := ifp hc h
      refine lv_iconst (v := 0) hx hb dX9_isPace_15 (by decide) ?_
      have h1 := Option.some.inj h
      subst h1
      subst hQ
      exact r_zreti cx hr hlk hV (Or.inl rfl) dX9_isPace_16
    · have h := ifn hc h
      refine lv_iload_n hx hb dX9_isPace_5 rfl (lv_at hl 0 rfl) ?_
      refine lv_bipush (v := 8) hx hb dX9_isPace_6 (by decide) ?_
      refine lv_icmp_gt (tgt := 15) hx hb dX9_isPace_8 (by decide) (fun hc => ?_) (fun hc => ?_)
      · have h := ifp hc h
        refine lv_iconst (v := 0) hx hb dX9_isPace_15 (by decide) ?_
        have h1 := Option.some.inj h
        subst h1
        subst hQ
        exact r_zreti cx hr hlk hV (Or.inl rfl) dX9_isPace_16
      · have h := ifn hc h
        refine lv_iconst (v := 1) hx hb dX9_isPace_11 (by decide) ?_
        refine lv_goto (tgt := 16) hx hb dX9_isPace_12 (by decide) ?_
        have h1 := Option.some.inj h
        subst h1
        subst hQ
        exact r_zreti cx hr hlk hV (Or.inr rfl) dX9_isPace_16
  rw [hH, hlocs] at goal
  exact goal
theorem k_X9_isPace {p : Program} {l : Launch} {e : Env} {R : Room} {s : State} {m : MethodId} {a : Array Value} {below : List Frame} {meth : Method} {c : Code} {H : Heap} {locs : List Loc} {cells slots : Nat} {Q : State → Prop} {cc : ByteArray} {own : String} {nL pc : Nat} {ls : Array Slot} {rest : List Value} {A : Nat → Prop} {E : EV} {V : va_W} {p1 : Int32} {rv : Int32} (h : x_X9_isPace p1 = some rv) (cx : CallFix p m c cc nL s a TBL own) (hV : AtW E V A s H locs) {idx : Nat} (w1 : Cond.methodLink own idx yX9_isPace ∈ TBL) (hR : (rm_X9_isPace).frames + 1 ≤ R.frames ∧ 8 + (1 + 11) + (rm_X9_isPace).locals ≤ R.locals) (hcs : cells ≤ R.cells ∧ slots ≤ R.slots) (hls : ls.size = nL) (hcat : (rest.map fun v => v.category).sum ≤ 8) (d : decode cc pc = .ok (.invokestatic idx, 3)) (kk : ∀ (H1 : Heap) (locs1 : List Loc), AtW E V A s H1 locs1 → W p l e R s m a below meth c H1 locs1 cells slots Q (F0 m (pc + 3) ls (.int rv :: rest))) : W p l e R s m a below meth c H locs cells slots Q (F0 m pc ls (.int p1 :: rest)) :=
  r_sti (n := 1) (As := [.int p1]) (c_X9_isPace h) rfl mk_5_44 mk_1_1 mk_5_45 (by decide +kernel) rfl ⟨rfl, rfl⟩ cx hV w1 hR hcs hls rfl hcat d kk
def x_X9_commonDivisor_L3 (u1 : Int64) (u2 : Int64) (u3 : Int32) : Option (Bool × (Int64 × Int64 × Int32)) :=
  (if 100 ≤ u3 then
  some (false, (u1, u2, u3))
  else
  (if (lg_cmp u2 (0 : Int64)) = 0 then
  some (false, (u1, u2, u3))
  else
  bd (rmJ u1 u2) fun v4 =>
  some (true, (u2, v4, (u3 + 1)))))
def x_X9_commonDivisor (p1 : Int64) (p2 : Int64) : Option Int64 :=
  bd3 (lp (fun v : (Int64 × Int64 × Int32) => x_X9_commonDivisor_L3 v.1 v.2.1 v.2.2) FU (p1, p2, 0)) fun z5 z6 z7 =>
  some z5
abbrev rm_X9_commonDivisor : Room := { frames := 0, cells := 0, slots := 0, locals := 0 }
set_option maxHeartbeats 4000000 in
set_option maxRecDepth 100000 in
theorem c_X9_commonDivisor {l : Launch} {E : EV} {V : va_W} {p1 : Int64} {p2 : Int64} {rv : Int64} (h : x_X9_commonDivisor p1 p2 = some rv) : CM l yX9_commonDivisor cX9_commonDivisor 7 (some .long) rm_X9_commonDivisor [.long p1, .long p2] E V V (qL rv) := by
  refine CM.start (by decide) (Nat.le_of_ble_eq_true rfl) (fun p e s m a below meth c A ls cx hr hlk hV hl => ?_)
  have cx : CallFix p m c cX9_commonDivisor 7 s a TBL RX9 := cx
  have hx := cx.1
  have hb := cx.2.1
  have hl : lv_has ls 7 [(0, .long p1), (2, .long p2)] := hl
  generalize hQ : EQ E V (qL rv) A s a below = QQ
  obtain ⟨H, hH⟩ : ∃ H, H = s.heap := ⟨_, rfl⟩
  obtain ⟨locs, hlocs⟩ : ∃ z, z = ([] : List Loc) := ⟨_, rfl⟩
  have hV : AtW E V A s H locs := by rw [hH, hlocs]; exact hV
  have goal : W p l e rm_X9_commonDivisor s m a below meth c H locs 0 0 QQ (F0 m 0 ls []) := by
    unfold x_X9_commonDivisor at h
    refine lv_iconst (v := 0) hx hb dX9_commonDivisor_0 (by decide) ?_
    refine lv_istore (lv' := [(4, .int 0), (0, .long p1), (2, .long p2)]) hx hb dX9_commonDivisor_1 hl (by decide) rfl (fun ls hl => ?_)
    refine bd3_e h (fun z5 z6 z7 ho h => ?_)
    refine (lp_rule (G := (fun v : (Int64 × Int64 × Int32) => ∀ (H : Heap) (locs : List Loc) (ls : Array Slot), AtW E V A s H locs → lv_has ls 7 [(0, .long v.1), (2, .long v.2.1), (4, .int v.2.2)] → W p l e rm_X9_commonDivisor s m a below meth c H locs 0 0 QQ (F0 m 3 ls []))) (K := (fun v : (Int64 × Int64 × Int32) => ∀ (H : Heap) (locs : List Loc) (ls : Array Slot), AtW E V A s H locs → lv_has ls 7 [(0, .long v.1)] → W p l e rm_X9_commonDivisor s m a below meth c H locs 0 0 QQ (F0 m 32 ls []))) (fun v b1 y1 h hT1 hF1 => ?_) ho (fun H locs ls hV hl => ?_)) _ _ _ hV (lv_sub hl [1, 2, 0] rfl)
    · obtain ⟨u1, u2, u3⟩ := v
      have h : x_X9_commonDivisor_L3 u1 u2 u3 = some (b1, y1) := h
      intro H locs ls hV hl
      have hV : AtW E V A s H locs := hV
      have hl : lv_has ls 7 [(0, .long u1), (2, .long u2), (4, .int u3)] := hl
      unfold x_X9_commonDivisor_L3 at h
      refine lv_iload hx hb dX9_commonDivisor_3 (lv_at hl 2 rfl) ?_
      refine lv_bipush (v := 100) hx hb dX9_commonDivisor_5 (by decide) ?_
      refine lv_icmp_ge (tgt := 32) hx hb dX9_commonDivisor_7 (by decide) (fun hc => ?_) (fun hc => ?_)
      · have h := ifp hc h
        cases h
        exact hF1 rfl _ _ _ hV (lv_sub hl [0] rfl)
      · have h := ifn hc h
        refine lv_lload_n hx hb dX9_commonDivisor_10 rfl (lv_at hl 1 rfl) ?_
        refine lv_lconst (v := 0) hx hb dX9_commonDivisor_11 (by decide) ?_
        refine W.lcmp hx hb dX9_commonDivisor_12 ?_
        refine lv_if_eq (tgt := 32) hx hb dX9_commonDivisor_13 (by decide) (fun hc => ?_) (fun hc => ?_)
        · have h := ifp hc h
          cases h
          exact hF1 rfl _ _ _ hV (lv_sub hl [0] rfl)
        · have h := ifn hc h
          refine lv_lload_n hx hb dX9_commonDivisor_16 rfl (lv_at hl 0 rfl) ?_
          refine lv_lload_n hx hb dX9_commonDivisor_17 rfl (lv_at hl 1 rfl) ?_
          refine bd_e h (fun v4 hq h => ?_)
          obtain ⟨hne, hq⟩ := rmJ_e hq
          refine lv_lrem hx hb dX9_commonDivisor_18 hne ?_
          rw [hq]
          refine lv_lstore (lv' := [(5, .long v4), (0, .long u1), (2, .long u2), (4, .int u3)]) hx hb dX9_commonDivisor_19 hl (by decide) rfl (fun ls hl => ?_)
          refine lv_lload_n hx hb dX9_commonDivisor_21 rfl (lv_at hl 2 rfl) ?_
          refine lv_lstore_n (lv' := [(0, .long u2), (5, .long v4), (2, .long u2), (4, .int u3)]) hx hb dX9_commonDivisor_22 rfl hl (by decide) rfl (fun ls hl => ?_)
          refine lv_lload hx hb dX9_commonDivisor_23 (lv_at hl 1 rfl) ?_
          refine lv_lstore_n (lv' := [(2, .long v4), (0, .long u2), (5, .long v4), (4, .int u3)]) hx hb dX9_commonDivisor_25 rfl hl (by decide) rfl (fun ls hl => ?_)
          refine lv_iinc (v := (u3 + 1)) (lv' := [(4, .int (u3 + 1)), (2, .long v4), (0, .long u2), (5, .long v4)]) hx hb dX9_commonDivisor_26 hl (k := 3) rfl rfl (by decide) rfl (fun ls hl => ?_)
          refine lv_goto (tgt := 3) hx hb dX9_commonDivisor_29 (by decide) ?_
          cases h
          exact hT1 rfl _ _ _ hV (lv_sub hl [2, 1, 0] rfl)
    · have hV : AtW E V A s H locs := hV
      have hl : lv_has ls 7 [(0, .long z5)] := hl
      refine lv_lload_n hx hb dX9_commonDivisor_32 rfl (lv_at hl 0 rfl) ?_
      have h1 := Option.some.inj h
      subst h1
      subst hQ
      exact r_lret cx hr hlk hV dX9_commonDivisor_33
  rw [hH, hlocs] at goal
  exact goal
theorem k_X9_commonDivisor {p : Program} {l : Launch} {e : Env} {R : Room} {s : State} {m : MethodId} {a : Array Value} {below : List Frame} {meth : Method} {c : Code} {H : Heap} {locs : List Loc} {cells slots : Nat} {Q : State → Prop} {cc : ByteArray} {own : String} {nL pc : Nat} {ls : Array Slot} {rest : List Value} {A : Nat → Prop} {E : EV} {V : va_W} {p1 : Int64} {p2 : Int64} {rv : Int64} (h : x_X9_commonDivisor p1 p2 = some rv) (cx : CallFix p m c cc nL s a TBL own) (hV : AtW E V A s H locs) {idx : Nat} (w1 : Cond.methodLink own idx yX9_commonDivisor ∈ TBL) (hR : (rm_X9_commonDivisor).frames + 1 ≤ R.frames ∧ 8 + (7 + 11) + (rm_X9_commonDivisor).locals ≤ R.locals) (hcs : cells ≤ R.cells ∧ slots ≤ R.slots) (hls : ls.size = nL) (hcat : (rest.map fun v => v.category).sum ≤ 8) (d : decode cc pc = .ok (.invokestatic idx, 3)) (kk : ∀ (H1 : Heap) (locs1 : List Loc), AtW E V A s H1 locs1 → W p l e R s m a below meth c H1 locs1 cells slots Q (F0 m (pc + 3) ls (.long rv :: rest))) : W p l e R s m a below meth c H locs cells slots Q (F0 m pc ls (.long p2 :: .long p1 :: rest)) :=
  r_stl (n := 2) (As := [.long p1, .long p2]) (c_X9_commonDivisor h) rfl mk_5_161 mk_1_1 mk_5_162 (by decide +kernel) rfl ⟨rfl, rfl⟩ cx hV w1 hR hcs hls rfl hcat d kk
def x_X9_leastTerms_b10 (w1 : Int64) (w2 : Int64) (w3 : Int64) : Option Int64 :=
  bd (x_X9_commonDivisor w1 w2) fun v4 =>
  (if (lg_cmp v4 (0 : Int64)) ≤ 0 then
  some w3
  else
  bd (dvJ w3 v4) fun v5 =>
  some v5)
def x_X9_leastTerms (p1 : Int64) (p2 : Int64) (p3 : Int32) : Option Int64 :=
  (if p3 = 0 then
  x_X9_leastTerms_b10 p1 p2 p1
  else
  x_X9_leastTerms_b10 p1 p2 p2)
abbrev rm_X9_leastTerms : Room := { frames := 1, cells := 0, slots := 0, locals := 26 }
set_option maxHeartbeats 4000000 in
set_option maxRecDepth 100000 in
theorem c_X9_leastTerms {l : Launch} {E : EV} {V : va_W} {p1 : Int64} {p2 : Int64} {p3 : Int32} {rv : Int64} (h : x_X9_leastTerms p1 p2 p3 = some rv) : CM l yX9_leastTerms cX9_leastTerms 9 (some .long) rm_X9_leastTerms [.long p1, .long p2, .int p3] E V V (qL rv) := by
  refine CM.start (by decide) (Nat.le_of_ble_eq_true rfl) (fun p e s m a below meth c A ls cx hr hlk hV hl => ?_)
  have cx : CallFix p m c cX9_leastTerms 9 s a TBL RX9 := cx
  have hx := cx.1
  have hb := cx.2.1
  have hl : lv_has ls 9 [(0, .long p1), (2, .long p2), (4, .int p3)] := hl
  generalize hQ : EQ E V (qL rv) A s a below = QQ
  obtain ⟨H, hH⟩ : ∃ H, H = s.heap := ⟨_, rfl⟩
  obtain ⟨locs, hlocs⟩ : ∃ z, z = ([] : List Loc) := ⟨_, rfl⟩
  have hV : AtW E V A s H locs := by rw [hH, hlocs]; exact hV
  have goal : W p l e rm_X9_leastTerms s m a below meth c H locs 0 0 QQ (F0 m 0 ls []) := by
    unfold x_X9_leastTerms at h
    have hj10 : ∀ (w1 : Int64) (w2 : Int64) (w3 : Int64) (H : Heap) (locs : List Loc) (ls : Array Slot), x_X9_leastTerms_b10 w1 w2 w3 = some rv → AtW E V A s H locs → lv_has ls 9 [(0, .long w1), (2, .long w2)] → W p l e rm_X9_leastTerms s m a below meth c H locs 0 0 QQ (F0 m 10 ls [.long w3]) := by
      intro w1 w2 w3 H locs ls h hV hl
      unfold x_X9_leastTerms_b10 at h
      refine lv_lstore (lv' := [(5, .long w3), (0, .long w1), (2, .long w2)]) hx hb dX9_leastTerms_10 hl (by decide) rfl (fun ls hl => ?_)
      refine lv_lload_n hx hb dX9_leastTerms_12 rfl (lv_at hl 1 rfl) ?_
      refine lv_lload_n hx hb dX9_leastTerms_13 rfl (lv_at hl 2 rfl) ?_
      refine bd_e h (fun v4 hq h => ?_)
      refine k_X9_commonDivisor hq cx hV mk_5_160 ⟨Nat.le_of_ble_eq_true rfl, Nat.le_of_ble_eq_true rfl⟩ ⟨Nat.zero_le _, Nat.zero_le _⟩ hl.1 (Nat.le_of_ble_eq_true rfl) dX9_leastTerms_14 (fun H locs hV => ?_)
      refine lv_lstore (lv' := [(7, .long v4), (5, .long w3), (0, .long w1), (2, .long w2)]) hx hb dX9_leastTerms_17 hl (by decide) rfl (fun ls hl => ?_)
      refine lv_lload hx hb dX9_leastTerms_19 (lv_at hl 0 rfl) ?_
      refine lv_lconst (v := 0) hx hb dX9_leastTerms_21 (by decide) ?_
      refine W.lcmp hx hb dX9_leastTerms_22 ?_
      refine lv_if_le (tgt := 34) hx hb dX9_leastTerms_23 (by decide) (fun hc => ?_) (fun hc => ?_)
      · have h := ifp hc h
        refine lv_lload hx hb dX9_leastTerms_34 (lv_at hl 1 rfl) ?_
        have h1 := Option.some.inj h
        subst h1
        subst hQ
        exact r_lret cx hr hlk hV dX9_leastTerms_36
      · have h := ifn hc h
        refine lv_lload hx hb dX9_leastTerms_26 (lv_at hl 1 rfl) ?_
        refine lv_lload hx hb dX9_leastTerms_28 (lv_at hl 0 rfl) ?_
        refine bd_e h (fun v5 hq h => ?_)
        obtain ⟨hne, hq⟩ := dvJ_e hq
        refine lv_ldiv hx hb dX9_leastTerms_30 hne ?_
        rw [hq]
        refine lv_goto (tgt := 36) hx hb dX9_leastTerms_31 (by decide) ?_
        have h1 := Option.some.inj h
        subst h1
        subst hQ
        exact r_lret cx hr hlk hV dX9_leastTerms_36
    refine lv_iload hx hb dX9_leastTerms_0 (lv_at hl 2 rfl) ?_
    refine lv_if_ne (tgt := 9) hx hb dX9_leastTerms_2 (by decide) (fun hc => ?_) (fun hc => ?_)
    · have h := ifn hc h
      refine lv_lload_n hx hb dX9_leastTerms_9 rfl (lv_at hl 1 rfl) ?_
      exact hj10 p1 p2 p2 _ _ _ h hV (lv_sub hl [0, 1] rfl)
    · have h := ifp hc h
      refine lv_lload_n hx hb dX9_leastTerms_5 rfl (lv_at hl 0 rfl) ?_
      refine lv_goto (tgt := 10) hx hb dX9_leastTerms_6 (by decide) ?_
      exact hj10 p1 p2 p1 _ _ _ h hV (lv_sub hl [0, 1] rfl)
  rw [hH, hlocs] at goal
  exact goal
theorem k_X9_leastTerms {p : Program} {l : Launch} {e : Env} {R : Room} {s : State} {m : MethodId} {a : Array Value} {below : List Frame} {meth : Method} {c : Code} {H : Heap} {locs : List Loc} {cells slots : Nat} {Q : State → Prop} {cc : ByteArray} {own : String} {nL pc : Nat} {ls : Array Slot} {rest : List Value} {A : Nat → Prop} {E : EV} {V : va_W} {p1 : Int64} {p2 : Int64} {p3 : Int32} {rv : Int64} (h : x_X9_leastTerms p1 p2 p3 = some rv) (cx : CallFix p m c cc nL s a TBL own) (hV : AtW E V A s H locs) {idx : Nat} (w1 : Cond.methodLink own idx yX9_leastTerms ∈ TBL) (hR : (rm_X9_leastTerms).frames + 1 ≤ R.frames ∧ 8 + (9 + 11) + (rm_X9_leastTerms).locals ≤ R.locals) (hcs : cells ≤ R.cells ∧ slots ≤ R.slots) (hls : ls.size = nL) (hcat : (rest.map fun v => v.category).sum ≤ 8) (d : decode cc pc = .ok (.invokestatic idx, 3)) (kk : ∀ (H1 : Heap) (locs1 : List Loc), AtW E V A s H1 locs1 → W p l e R s m a below meth c H1 locs1 cells slots Q (F0 m (pc + 3) ls (.long rv :: rest))) : W p l e R s m a below meth c H locs cells slots Q (F0 m pc ls (.int p3 :: .long p2 :: .long p1 :: rest)) :=
  r_stl (n := 3) (As := [.long p1, .long p2, .int p3]) (c_X9_leastTerms h) rfl mk_5_158 mk_1_1 mk_5_159 (by decide +kernel) rfl ⟨rfl, rfl⟩ cx hV w1 hR hcs hls rfl hcat d kk
def x_X9_sortingCost (p1 : Int32) (p2 : Int32) (p3 : Int32) (p4 : Int32) : Option Int64 :=
  bd (dvJ ((((Int32.toInt64 p3) * (Int32.toInt64 p2)) * (Int32.toInt64 p4)) * (Int32.toInt64 (p4 - 1))) (2 : Int64)) fun v1 =>
  some (((Int32.toInt64 p1) + ((Int32.toInt64 p2) * (Int32.toInt64 p4))) + v1)
abbrev rm_X9_sortingCost : Room := { frames := 0, cells := 0, slots := 0, locals := 0 }
set_option maxHeartbeats 4000000 in
set_option maxRecDepth 100000 in
theorem c_X9_sortingCost {l : Launch} {E : EV} {V : va_W} {p1 : Int32} {p2 : Int32} {p3 : Int32} {p4 : Int32} {rv : Int64} (h : x_X9_sortingCost p1 p2 p3 p4 = some rv) : CM l yX9_sortingCost cX9_sortingCost 4 (some .long) rm_X9_sortingCost [.int p1, .int p2, .int p3, .int p4] E V V (qL rv) := by
  refine CM.start (by decide) (Nat.le_of_ble_eq_true rfl) (fun p e s m a below meth c A ls cx hr hlk hV hl => ?_)
  have cx : CallFix p m c cX9_sortingCost 4 s a TBL RX9 := cx
  have hx := cx.1
  have hb := cx.2.1
  have hl : lv_has ls 4 [(0, .int p1), (1, .int p2), (2, .int p3), (3, .int p4)] := hl
  generalize hQ : EQ E V (qL rv) A s a below = QQ
  obtain ⟨H, hH⟩ : ∃ H, H = s.heap := ⟨_, rfl⟩
  obtain ⟨locs, hlocs⟩ : ∃ z, z = ([] : List Loc) := ⟨_, rfl⟩
  have hV : AtW E V A s H locs := by rw [hH, hlocs]; exact hV
  have goal : W p l e rm_X9_sortingCost s m a below meth c H locs 0 0 QQ (F0 m 0 ls []) := by
    unfold x_X9_sortingCost at h
    refine lv_iload_n hx hb dX9_sortingCost_0 rfl (lv_at hl 0 rfl) ?_
    refine lv_i2l (v := (Int32.toInt64 p1)) hx hb dX9_sortingCost_1 rfl ?_
    refine lv_iload_n hx hb dX9_sortingCost_2 rfl (lv_at hl 1 rfl) ?_
    refine lv_i2l (v := (Int32.toInt64 p2)) hx hb dX9_sortingCost_3 rfl ?_
    refine lv_iload_n hx hb dX9_sortingCost_4 rfl (lv_at hl 3 rfl) ?_
    refine lv_i2l (v := (Int32.toInt64 p4)) hx hb dX9_sortingCost_5 rfl ?_
    refine lv_lmul hx hb dX9_sortingCost_6 ?_
    refine lv_ladd hx hb dX9_sortingCost_7 ?_
    refine lv_iload_n hx hb dX9_sortingCost_8 rfl (lv_at hl 2 rfl) ?_
    refine lv_i2l (v := (Int32.toInt64 p3)) hx hb dX9_sortingCost_9 rfl ?_
    refine lv_iload_n hx hb dX9_sortingCost_10 rfl (lv_at hl 1 rfl) ?_
    refine lv_i2l (v := (Int32.toInt64 p2)) hx hb dX9_sortingCost_11 rfl ?_
    refine lv_lmul hx hb dX9_sortingCost_12 ?_
    refine lv_iload_n hx hb dX9_sortingCost_13 rfl (lv_at hl 3 rfl) ?_
    refine lv_i2l (v := (Int32.toInt64 p4)) hx hb dX9_sortingCost_14 rfl ?_
    refine lv_lmul hx hb dX9_sortingCost_15 ?_
    refine lv_iload_n hx hb dX9_sortingCost_16 rfl (lv_at hl 3 rfl) ?_
    refine lv_iconst (v := 1) hx hb dX9_sortingCost_17 (by decide) ?_
    refine lv_isub hx hb dX9_sortingCost_18 ?_
    refine lv_i2l (v := (Int32.toInt64 (p4 - 1))) hx hb dX9_sortingCost_19 rfl ?_
    refine lv_lmul hx hb dX9_sortingCost_20 ?_
    refine lv_ldc2 (v := 2) hx hb cx.2.2.2.1 (cx.2.2.2.2 _ mk_6_19) dX9_sortingCost_21 ?_
    refine bd_e h (fun v1 hq h => ?_)
    obtain ⟨hne, hq⟩ := dvJ_e hq
    refine lv_ldiv hx hb dX9_sortingCost_24 hne ?_
    rw [hq]
    refine lv_ladd hx hb dX9_sortingCost_25 ?_
    have h1 := Option.some.inj h
    subst h1
    subst hQ
    exact r_lret cx hr hlk hV dX9_sortingCost_26
  rw [hH, hlocs] at goal
  exact goal
theorem k_X9_sortingCost {p : Program} {l : Launch} {e : Env} {R : Room} {s : State} {m : MethodId} {a : Array Value} {below : List Frame} {meth : Method} {c : Code} {H : Heap} {locs : List Loc} {cells slots : Nat} {Q : State → Prop} {cc : ByteArray} {own : String} {nL pc : Nat} {ls : Array Slot} {rest : List Value} {A : Nat → Prop} {E : EV} {V : va_W} {p1 : Int32} {p2 : Int32} {p3 : Int32} {p4 : Int32} {rv : Int64} (h : x_X9_sortingCost p1 p2 p3 p4 = some rv) (cx : CallFix p m c cc nL s a TBL own) (hV : AtW E V A s H locs) {idx : Nat} (w1 : Cond.methodLink own idx yX9_sortingCost ∈ TBL) (hR : (rm_X9_sortingCost).frames + 1 ≤ R.frames ∧ 8 + (4 + 11) + (rm_X9_sortingCost).locals ≤ R.locals) (hcs : cells ≤ R.cells ∧ slots ≤ R.slots) (hls : ls.size = nL) (hcat : (rest.map fun v => v.category).sum ≤ 8) (d : decode cc pc = .ok (.invokestatic idx, 3)) (kk : ∀ (H1 : Heap) (locs1 : List Loc), AtW E V A s H1 locs1 → W p l e R s m a below meth c H1 locs1 cells slots Q (F0 m (pc + 3) ls (.long rv :: rest))) : W p l e R s m a below meth c H locs cells slots Q (F0 m pc ls (.int p4 :: .int p3 :: .int p2 :: .int p1 :: rest)) :=
  r_stl (n := 4) (As := [.int p1, .int p2, .int p3, .int p4]) (c_X9_sortingCost h) rfl mk_6_17 mk_1_1 mk_6_18 (by decide +kernel) rfl ⟨rfl, rfl⟩ cx hV w1 hR hcs hls rfl hcat d kk
def x_J6_bitCount_0f7a4 (p1 : Int32) : Option Int32 :=
  some ((((((((p1 - ((usI p1 1) &&& 1431655765)) &&& 858993459) + ((usI (p1 - ((usI p1 1) &&& 1431655765)) 2) &&& 858993459)) + (usI (((p1 - ((usI p1 1) &&& 1431655765)) &&& 858993459) + ((usI (p1 - ((usI p1 1) &&& 1431655765)) 2) &&& 858993459)) 4)) &&& 252645135) + (usI (((((p1 - ((usI p1 1) &&& 1431655765)) &&& 858993459) + ((usI (p1 - ((usI p1 1) &&& 1431655765)) 2) &&& 858993459)) + (usI (((p1 - ((usI p1 1) &&& 1431655765)) &&& 858993459) + ((usI (p1 - ((usI p1 1) &&& 1431655765)) 2) &&& 858993459)) 4)) &&& 252645135) 8)) + (usI ((((((p1 - ((usI p1 1) &&& 1431655765)) &&& 858993459) + ((usI (p1 - ((usI p1 1) &&& 1431655765)) 2) &&& 858993459)) + (usI (((p1 - ((usI p1 1) &&& 1431655765)) &&& 858993459) + ((usI (p1 - ((usI p1 1) &&& 1431655765)) 2) &&& 858993459)) 4)) &&& 252645135) + (usI (((((p1 - ((usI p1 1) &&& 1431655765)) &&& 858993459) + ((usI (p1 - ((usI p1 1) &&& 1431655765)) 2) &&& 858993459)) + (usI (((p1 - ((usI p1 1) &&& 1431655765)) &&& 858993459) + ((usI (p1 - ((usI p1 1) &&& 1431655765)) 2) &&& 858993459)) 4)) &&& 252645135) 8)) 16)) &&& 63)
abbrev rm_J6_bitCount_0f7a4 : Room := { frames := 0, cells := 0, slots := 0, locals := 0 }
set_option maxHeartbeats 4000000 in
set_option maxRecDepth 100000 in
theorem c_J6_bitCount_0f7a4 {l : Launch} {E : EV} {V : va_W} {p1 : Int32} {rv : Int32} (h : x_J6_bitCount_0f7a4 p1 = some rv) : CM l yJ6_bitCount_0f7a4 cJ6_bitCount_0f7a4 1 (some .int) rm_J6_bitCount_0f7a4 [.int p1] E V V (qI rv) := by
  refine CM.start (by decide) (Nat.le_of_ble_eq_true rfl) (fun p e s m a below meth c A ls cx hr hlk hV hl => ?_)
  have cx : CallFix p m c cJ6_bitCount_0f7a4 1 s a TBL RJ6 := cx
  have hx := cx.1
  have hb := cx.2.1
  have hl : lv_has ls 1 [(0, .int p1)] := hl
  generalize hQ : EQ E V (qI rv) A s a below = QQ
  obtain ⟨H, hH⟩ : ∃ H, H = s.heap := ⟨_, rfl⟩
  obtain ⟨locs, hlocs⟩ : ∃ z, z = ([] : List Loc) := ⟨_, rfl⟩
  have hV : AtW E V A s H locs := by rw [hH, hlocs]; exact hV
  have goal : W p l e rm_J6_bitCount_0f7a4 s m a below meth c H locs 0 0 QQ (F0 m 0 ls []) := by
    unfold x_J6_bitCount_0f7a4 at h
    refine lv_iload_n hx hb dJ6_bitCount_0f7a4_0 rfl (lv_at hl 0 rfl) ?_
    refine lv_iload_n hx hb dJ6_bitCount_0f7a4_1 rfl (lv_at hl 0 rfl) ?_
    refine lv_iconst (v := 1) hx hb dJ6_bitCount_0f7a4_2 (by decide) ?_
    refine lv_iushr (v := (usI p1 1)) hx hb dJ6_bitCount_0f7a4_3 rfl ?_
    refine lv_ldcw (v := 1431655765) hx hb cx.2.2.2.1 (cx.2.2.2.2 _ mk_6_30) dJ6_bitCount_0f7a4_4 ?_
    refine lv_iand hx hb dJ6_bitCount_0f7a4_7 ?_
    refine lv_isub hx hb dJ6_bitCount_0f7a4_8 ?_
    refine lv_istore_n (lv' := [(0, .int (p1 - ((usI p1 1) &&& 1431655765)))]) hx hb dJ6_bitCount_0f7a4_9 rfl hl (by decide) rfl (fun ls hl => ?_)
    refine lv_iload_n hx hb dJ6_bitCount_0f7a4_10 rfl (lv_at hl 0 rfl) ?_
    refine lv_ldcw (v := 858993459) hx hb cx.2.2.2.1 (cx.2.2.2.2 _ mk_6_31) dJ6_bitCount_0f7a4_11 ?_
    refine lv_iand hx hb dJ6_bitCount_0f7a4_14 ?_
    refine lv_iload_n hx hb dJ6_bitCount_0f7a4_15 rfl (lv_at hl 0 rfl) ?_
    refine lv_iconst (v := 2) hx hb dJ6_bitCount_0f7a4_16 (by decide) ?_
    refine lv_iushr (v := (usI (p1 - ((usI p1 1) &&& 1431655765)) 2)) hx hb dJ6_bitCount_0f7a4_17 rfl ?_
    refine lv_ldcw (v := 858993459) hx hb cx.2.2.2.1 (cx.2.2.2.2 _ mk_6_31) dJ6_bitCount_0f7a4_18 ?_
    refine lv_iand hx hb dJ6_bitCount_0f7a4_21 ?_
    refine lv_iadd hx hb dJ6_bitCount_0f7a4_22 ?_
    refine lv_istore_n (lv' := [(0, .int (((p1 - ((usI p1 1) &&& 1431655765)) &&& 858993459) + ((usI (p1 - ((usI p1 1) &&& 1431655765)) 2) &&& 858993459)))]) hx hb dJ6_bitCount_0f7a4_23 rfl hl (by decide) rfl (fun ls hl => ?_)
    refine lv_iload_n hx hb dJ6_bitCount_0f7a4_24 rfl (lv_at hl 0 rfl) ?_
    refine lv_iload_n hx hb dJ6_bitCount_0f7a4_25 rfl (lv_at hl 0 rfl) ?_
    refine lv_iconst (v := 4) hx hb dJ6_bitCount_0f7a4_26 (by decide) ?_
    refine lv_iushr (v := (usI (((p1 - ((usI p1 1) &&& 1431655765)) &&& 858993459) + ((usI (p1 - ((usI p1 1) &&& 1431655765)) 2) &&& 858993459)) 4)) hx hb dJ6_bitCount_0f7a4_27 rfl ?_
    refine lv_iadd hx hb dJ6_bitCount_0f7a4_28 ?_
    refine lv_ldcw (v := 252645135) hx hb cx.2.2.2.1 (cx.2.2.2.2 _ mk_6_32) dJ6_bitCount_0f7a4_29 ?_
    refine lv_iand hx hb dJ6_bitCount_0f7a4_32 ?_
    refine lv_istore_n (lv' := [(0, .int (((((p1 - ((usI p1 1) &&& 1431655765)) &&& 858993459) + ((usI (p1 - ((usI p1 1) &&& 1431655765)) 2) &&& 858993459)) + (usI (((p1 - ((usI p1 1) &&& 1431655765)) &&& 858993459) + ((usI (p1 - ((usI p1 1) &&& 1431655765)) 2) &&& 858993459)) 4)) &&& 252645135))]) hx hb dJ6_bitCount_0f7a4_33 rfl hl (by decide) rfl (fun ls hl => ?_)
    refine lv_iload_n hx hb dJ6_bitCount_0f7a4_34 rfl (lv_at hl 0 rfl) ?_
    refine lv_iload_n hx hb dJ6_bitCount_0f7a4_35 rfl (lv_at hl 0 rfl) ?_
    refine lv_bipush (v := 8) hx hb dJ6_bitCount_0f7a4_36 (by decide) ?_
    refine lv_iushr (v := (usI (((((p1 - ((usI p1 1) &&& 1431655765)) &&& 858993459) + ((usI (p1 - ((usI p1 1) &&& 1431655765)) 2) &&& 858993459)) + (usI (((p1 - ((usI p1 1) &&& 1431655765)) &&& 858993459) + ((usI (p1 - ((usI p1 1) &&& 1431655765)) 2) &&& 858993459)) 4)) &&& 252645135) 8)) hx hb dJ6_bitCount_0f7a4_38 rfl ?_
    refine lv_iadd hx hb dJ6_bitCount_0f7a4_39 ?_
    refine lv_istore_n (lv' := [(0, .int ((((((p1 - ((usI p1 1) &&& 1431655765)) &&& 858993459) + ((usI (p1 - ((usI p1 1) &&& 1431655765)) 2) &&& 858993459)) + (usI (((p1 - ((usI p1 1) &&& 1431655765)) &&& 858993459) + ((usI (p1 - ((usI p1 1) &&& 1431655765)) 2) &&& 858993459)) 4)) &&& 252645135) + (usI (((((p1 - ((usI p1 1) &&& 1431655765)) &&& 858993459) + ((usI (p1 - ((usI p1 1) &&& 1431655765)) 2) &&& 858993459)) + (usI (((p1 - ((usI p1 1) &&& 1431655765)) &&& 858993459) + ((usI (p1 - ((usI p1 1) &&& 1431655765)) 2) &&& 858993459)) 4)) &&& 252645135) 8)))]) hx hb dJ6_bitCount_0f7a4_40 rfl hl (by decide) rfl (fun ls hl => ?_)
    refine lv_iload_n hx hb dJ6_bitCount_0f7a4_41 rfl (lv_at hl 0 rfl) ?_
    refine lv_iload_n hx hb dJ6_bitCount_0f7a4_42 rfl (lv_at hl 0 rfl) ?_
    refine lv_bipush (v := 16) hx hb dJ6_bitCount_0f7a4_43 (by decide) ?_
    refine lv_iushr (v := (usI ((((((p1 - ((usI p1 1) &&& 1431655765)) &&& 858993459) + ((usI (p1 - ((usI p1 1) &&& 1431655765)) 2) &&& 858993459)) + (usI (((p1 - ((usI p1 1) &&& 1431655765)) &&& 858993459) + ((usI (p1 - ((usI p1 1) &&& 1431655765)) 2) &&& 858993459)) 4)) &&& 252645135) + (usI (((((p1 - ((usI p1 1) &&& 1431655765)) &&& 858993459) + ((usI (p1 - ((usI p1 1) &&& 1431655765)) 2) &&& 858993459)) + (usI (((p1 - ((usI p1 1) &&& 1431655765)) &&& 858993459) + ((usI (p1 - ((usI p1 1) &&& 1431655765)) 2) &&& 858993459)) 4)) &&& 252645135) 8)) 16)) hx hb dJ6_bitCount_0f7a4_45 rfl ?_
    refine lv_iadd hx hb dJ6_bitCount_0f7a4_46 ?_
    refine lv_istore_n (lv' := [(0, .int (((((((p1 - ((usI p1 1) &&& 1431655765)) &&& 858993459) + ((usI (p1 - ((usI p1 1) &&& 1431655765)) 2) &&& 858993459)) + (usI (((p1 - ((usI p1 1) &&& 1431655765)) &&& 858993459) + ((usI (p1 - ((usI p1 1) &&& 1431655765)) 2) &&& 858993459)) 4)) &&& 252645135) + (usI (((((p1 - ((usI p1 1) &&& 1431655765)) &&& 858993459) + ((usI (p1 - ((usI p1 1) &&& 1431655765)) 2) &&& 858993459)) + (usI (((p1 - ((usI p1 1) &&& 1431655765)) &&& 858993459) + ((usI (p1 - ((usI p1 1) &&& 1431655765)) 2) &&& 858993459)) 4)) &&& 252645135) 8)) + (usI ((((((p1 - ((usI p1 1) &&& 1431655765)) &&& 858993459) + ((usI (p1 - ((usI p1 1) &&& 1431655765)) 2) &&& 858993459)) + (usI (((p1 - ((usI p1 1) &&& 1431655765)) &&& 858993459) + ((usI (p1 - ((usI p1 1) &&& 1431655765)) 2) &&& 858993459)) 4)) &&& 252645135) + (usI (((((p1 - ((usI p1 1) &&& 1431655765)) &&& 858993459) + ((usI (p1 - ((usI p1 1) &&& 1431655765)) 2) &&& 858993459)) + (usI (((p1 - ((usI p1 1) &&& 1431655765)) &&& 858993459) + ((usI (p1 - ((usI p1 1) &&& 1431655765)) 2) &&& 858993459)) 4)) &&& 252645135) 8)) 16)))]) hx hb dJ6_bitCount_0f7a4_47 rfl hl (by decide) rfl (fun ls hl => ?_)
    refine lv_iload_n hx hb dJ6_bitCount_0f7a4_48 rfl (lv_at hl 0 rfl) ?_
    refine lv_bipush (v := 63) hx hb dJ6_bitCount_0f7a4_49 (by decide) ?_
    refine lv_iand hx hb dJ6_bitCount_0f7a4_51 ?_
    have h1 := Option.some.inj h
    subst h1
    subst hQ
    exact r_ireti cx hr hlk hV dJ6_bitCount_0f7a4_52
  rw [hH, hlocs] at goal
  exact goal
theorem k_J6_bitCount_0f7a4 {p : Program} {l : Launch} {e : Env} {R : Room} {s : State} {m : MethodId} {a : Array Value} {below : List Frame} {meth : Method} {c : Code} {H : Heap} {locs : List Loc} {cells slots : Nat} {Q : State → Prop} {cc : ByteArray} {own : String} {nL pc : Nat} {ls : Array Slot} {rest : List Value} {A : Nat → Prop} {E : EV} {V : va_W} {p1 : Int32} {rv : Int32} (h : x_J6_bitCount_0f7a4 p1 = some rv) (cx : CallFix p m c cc nL s a TBL own) (hV : AtW E V A s H locs) {idx : Nat} (w1 : Cond.methodLink own idx yJ6_bitCount_0f7a4 ∈ TBL) (hR : (rm_J6_bitCount_0f7a4).frames + 1 ≤ R.frames ∧ 8 + (1 + 11) + (rm_J6_bitCount_0f7a4).locals ≤ R.locals) (hcs : cells ≤ R.cells ∧ slots ≤ R.slots) (hls : ls.size = nL) (hcat : (rest.map fun v => v.category).sum ≤ 8) (d : decode cc pc = .ok (.invokestatic idx, 3)) (kk : ∀ (H1 : Heap) (locs1 : List Loc), AtW E V A s H1 locs1 → W p l e R s m a below meth c H1 locs1 cells slots Q (F0 m (pc + 3) ls (.int rv :: rest))) : W p l e R s m a below meth c H locs cells slots Q (F0 m pc ls (.int p1 :: rest)) :=
  r_sti (n := 1) (As := [.int p1]) (c_J6_bitCount_0f7a4 h) rfl mk_6_28 mk_1_24 mk_6_29 (by decide +kernel) rfl ⟨rfl, rfl⟩ cx hV w1 hR hcs hls rfl hcat d kk
