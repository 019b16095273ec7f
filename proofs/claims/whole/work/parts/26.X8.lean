def x_X8_share (p1 : Int32) (σ : St) : Option Int64 :=
  (if p1 < 0 then
  some (0 : Int64)
  else
  (if (nI 8) ≤ p1 then
  some (0 : Int64)
  else
  bd (ldJ (gJ σ 0) 8 p1) fun v1 =>
  some v1))
abbrev rm_X8_share : Room := { frames := 0, cells := 0, slots := 0, locals := 0 }
set_option maxHeartbeats 4000000 in
set_option maxRecDepth 100000 in
theorem c_X8_share {l : Launch} {E : EV} {X : va_W} {σ : St} {p1 : Int32} {rv : Int64} (h : x_X8_share p1 σ = some rv) : CM l yX8_share cX8_share 2 (some .long) rm_X8_share [.ref (eA E 97), .int p1] E (wC E σ ++ X) (wC E σ ++ X) (qL rv) := by
  refine CM.start (by decide) (Nat.le_of_ble_eq_true rfl) (fun p e s m a below meth c A ls cx hr hlk hV hl => ?_)
  have cx : CallFix p m c cX8_share 2 s a TBL RX8 := cx
  have hx := cx.1
  have hb := cx.2.1
  have hl : lv_has ls 2 [(0, .ref (eA E 97)), (1, .int p1)] := hl
  generalize hQ : EQ E (wC E σ ++ X) (qL rv) A s a below = QQ
  obtain ⟨H, hH⟩ : ∃ H, H = s.heap := ⟨_, rfl⟩
  obtain ⟨locs, hlocs⟩ : ∃ z, z = ([] : List Loc) := ⟨_, rfl⟩
  have hV : AtW E (wC E σ ++ X) A s H locs := by rw [hH, hlocs]; exact hV
  have goal : W p l e rm_X8_share s m a below meth c H locs 0 0 QQ (F0 m 0 ls []) := by
    unfold x_X8_share at h
    refine lv_iload_n hx hb dX8_share_0 rfl (lv_at hl 1 rfl) ?_
    refine lv_if_lt (tgt := 22) hx hb dX8_share_1 (by decide) (fun hc => ?_) (fun hc => ?_)
    · have h := ifp hc h
      refine lv_lconst (v := 0) hx hb dX8_share_22 (by decide) ?_
      have h1 := Option.some.inj h
      subst h1
      subst hQ
      exact r_lret cx hr hlk hV dX8_share_23
    · have h := ifn hc h
      refine lv_iload_n hx hb dX8_share_4 rfl (lv_at hl 1 rfl) ?_
      refine lv_aload_n hx hb dX8_share_5 rfl (lv_at hl 0 rfl) ?_
      refine G_X8_shares cx hV mk_2_19 dX8_share_6 ?_
      refine R_C0_alen cx hV dX8_share_9 ?_
      refine lv_icmp_ge (tgt := 22) hx hb dX8_share_10 (by decide) (fun hc => ?_) (fun hc => ?_)
      · have h := ifp hc h
        refine lv_lconst (v := 0) hx hb dX8_share_22 (by decide) ?_
        have h1 := Option.some.inj h
        subst h1
        subst hQ
        exact r_lret cx hr hlk hV dX8_share_23
      · have h := ifn hc h
        refine lv_aload_n hx hb dX8_share_13 rfl (lv_at hl 0 rfl) ?_
        refine G_X8_shares cx hV mk_2_19 dX8_share_14 ?_
        refine lv_iload_n hx hb dX8_share_17 rfl (lv_at hl 1 rfl) ?_
        refine bd_e h (fun v1 hq h => ?_)
        refine R_C0_lald cx hV hq dX8_share_18 ?_
        refine lv_goto (tgt := 23) hx hb dX8_share_19 (by decide) ?_
        have h1 := Option.some.inj h
        subst h1
        subst hQ
        exact r_lret cx hr hlk hV dX8_share_23
  rw [hH, hlocs] at goal
  exact goal
theorem k_X8_share {p : Program} {l : Launch} {e : Env} {R : Room} {s : State} {m : MethodId} {a : Array Value} {below : List Frame} {meth : Method} {c : Code} {H : Heap} {locs : List Loc} {cells slots : Nat} {Q : State → Prop} {cc : ByteArray} {own : String} {nL pc : Nat} {ls : Array Slot} {rest : List Value} {A : Nat → Prop} {E : EV} {X : va_W} {σ : St} {p1 : Int32} {rv : Int64} (h : x_X8_share p1 σ = some rv) (cx : CallFix p m c cc nL s a TBL own) (hV : AtW E (wC E σ ++ X) A s H locs) {idx : Nat} (w1 : Cond.methodLink own idx yX8_share ∈ TBL) (hR : (rm_X8_share).frames + 1 ≤ R.frames ∧ 8 + (2 + 11) + (rm_X8_share).locals ≤ R.locals) (hcs : cells ≤ R.cells ∧ slots ≤ R.slots) (hls : ls.size = nL) (hcat : (rest.map fun v => v.category).sum ≤ 8) (d : decode cc pc = .ok (.invokevirtual idx, 3)) (kk : ∀ (H1 : Heap) (locs1 : List Loc), AtW E (wC E σ ++ X) A s H1 locs1 → W p l e R s m a below meth c H1 locs1 cells slots Q (F0 m (pc + 3) ls (.long rv :: rest))) : W p l e R s m a below meth c H locs cells slots Q (F0 m pc ls (.int p1 :: .ref (eA E 97) :: rest)) :=
  r_calll (n := 1) (As := [.int p1]) (q0 := 97) (ci := 8) (qq := (RX8, TX8, 6)) (c_X8_share h) rfl rfl rfl mk_5_142 mk_5_143 mk_1_7 mk_5_144 (by decide +kernel) rfl ⟨rfl, rfl⟩ cx hV w1 hR hcs hls rfl hcat d kk
def x_X8_give (p1 : Int32) (p2 : Int64) (σ : St) : Option St :=
  (if p1 < 0 then
  some σ
  else
  (if (nI 8) ≤ p1 then
  some σ
  else
  bd (ldJ (gJ σ 0) 8 p1) fun v1 =>
  bd (stJ σ 0 8 p1 (v1 + p2)) fun σ2 =>
  some σ2))
abbrev rm_X8_give : Room := { frames := 0, cells := 0, slots := 0, locals := 0 }
set_option maxHeartbeats 4000000 in
set_option maxRecDepth 100000 in
theorem c_X8_give {l : Launch} {E : EV} {X : va_W} {σ : St} {p1 : Int32} {p2 : Int64} {σf : St} (h : x_X8_give p1 p2 σ = some σf) : CM l yX8_give cX8_give 4 none rm_X8_give [.ref (eA E 97), .int p1, .long p2] E (wC E σ ++ X) (wC E σf ++ X) qV := by
  refine CM.start (by decide) (Nat.le_of_ble_eq_true rfl) (fun p e s m a below meth c A ls cx hr hlk hV hl => ?_)
  have cx : CallFix p m c cX8_give 4 s a TBL RX8 := cx
  have hx := cx.1
  have hb := cx.2.1
  have hl : lv_has ls 4 [(0, .ref (eA E 97)), (1, .int p1), (2, .long p2)] := hl
  generalize hQ : EQ E (wC E σf ++ X) qV A s a below = QQ
  obtain ⟨H, hH⟩ : ∃ H, H = s.heap := ⟨_, rfl⟩
  obtain ⟨locs, hlocs⟩ : ∃ z, z = ([] : List Loc) := ⟨_, rfl⟩
  have hV : AtW E (wC E σ ++ X) A s H locs := by rw [hH, hlocs]; exact hV
  have goal : W p l e rm_X8_give s m a below meth c H locs 0 0 QQ (F0 m 0 ls []) := by
    unfold x_X8_give at h
    refine lv_iload_n hx hb dX8_give_0 rfl (lv_at hl 1 rfl) ?_
    refine lv_if_lt (tgt := 23) hx hb dX8_give_1 (by decide) (fun hc => ?_) (fun hc => ?_)
    · have h := ifp hc h
      have h1 := Option.some.inj h
      subst h1
      subst hQ
      exact r_vret cx hr hlk hV dX8_give_23
    · have h := ifn hc h
      refine lv_iload_n hx hb dX8_give_4 rfl (lv_at hl 1 rfl) ?_
      refine lv_aload_n hx hb dX8_give_5 rfl (lv_at hl 0 rfl) ?_
      refine G_X8_shares cx hV mk_2_19 dX8_give_6 ?_
      refine R_C0_alen cx hV dX8_give_9 ?_
      refine lv_icmp_ge (tgt := 23) hx hb dX8_give_10 (by decide) (fun hc => ?_) (fun hc => ?_)
      · have h := ifp hc h
        have h1 := Option.some.inj h
        subst h1
        subst hQ
        exact r_vret cx hr hlk hV dX8_give_23
      · have h := ifn hc h
        refine lv_aload_n hx hb dX8_give_13 rfl (lv_at hl 0 rfl) ?_
        refine G_X8_shares cx hV mk_2_19 dX8_give_14 ?_
        refine lv_iload_n hx hb dX8_give_17 rfl (lv_at hl 1 rfl) ?_
        refine lv_dup2_11 hx hb dX8_give_18 rfl rfl ?_
        refine bd_e h (fun v1 hq h => ?_)
        refine R_C0_lald cx hV hq dX8_give_19 ?_
        refine lv_lload_n hx hb dX8_give_20 rfl (lv_at hl 2 rfl) ?_
        refine lv_ladd hx hb dX8_give_21 ?_
        refine bd_e h (fun σ2 hq h => ?_)
        refine R_C0_last cx hV hq dX8_give_22 (fun H locs hV => ?_)
        have h1 := Option.some.inj h
        subst h1
        subst hQ
        exact r_vret cx hr hlk hV dX8_give_23
  rw [hH, hlocs] at goal
  exact goal
theorem k_X8_give {p : Program} {l : Launch} {e : Env} {R : Room} {s : State} {m : MethodId} {a : Array Value} {below : List Frame} {meth : Method} {c : Code} {H : Heap} {locs : List Loc} {cells slots : Nat} {Q : State → Prop} {cc : ByteArray} {own : String} {nL pc : Nat} {ls : Array Slot} {rest : List Value} {A : Nat → Prop} {E : EV} {X : va_W} {σ : St} {p1 : Int32} {p2 : Int64} {σf : St} (h : x_X8_give p1 p2 σ = some σf) (cx : CallFix p m c cc nL s a TBL own) (hV : AtW E (wC E σ ++ X) A s H locs) {idx : Nat} (w1 : Cond.methodLink own idx yX8_give ∈ TBL) (hR : (rm_X8_give).frames + 1 ≤ R.frames ∧ 8 + (4 + 11) + (rm_X8_give).locals ≤ R.locals) (hcs : cells ≤ R.cells ∧ slots ≤ R.slots) (hls : ls.size = nL) (hcat : (rest.map fun v => v.category).sum ≤ 8) (d : decode cc pc = .ok (.invokevirtual idx, 3)) (kk : ∀ (H1 : Heap) (locs1 : List Loc), AtW E (wC E σf ++ X) A s H1 locs1 → W p l e R s m a below meth c H1 locs1 cells slots Q (F0 m (pc + 3) ls (rest))) : W p l e R s m a below meth c H locs cells slots Q (F0 m pc ls (.long p2 :: .int p1 :: .ref (eA E 97) :: rest)) :=
  r_callv (n := 2) (As := [.int p1, .long p2]) (q0 := 97) (ci := 8) (qq := (RX8, TX8, 6)) (c_X8_give h) wC_fst rfl rfl mk_5_134 mk_P_43 mk_1_7 mk_5_135 (by decide +kernel) rfl ⟨rfl, rfl⟩ cx hV w1 hR hcs hls rfl hcat d kk
def x_X8_clearShares_L2 (u1 : Int32) (σ2 : St) : Option (Bool × (Int32 × St)) :=
  (if (nI 8) ≤ u1 then
  some (false, (u1, σ2))
  else
  bd (stJ σ2 0 8 u1 (0 : Int64)) fun σ3 =>
  some (true, ((u1 + 1), σ3)))
def x_X8_clearShares (σ : St) : Option St :=
  bd2 (lp (fun v : (Int32 × St) => x_X8_clearShares_L2 v.1 v.2) FU (0, σ)) fun z4 σ5 =>
  some σ5
abbrev rm_X8_clearShares : Room := { frames := 0, cells := 0, slots := 0, locals := 0 }
set_option maxHeartbeats 4000000 in
set_option maxRecDepth 100000 in
theorem c_X8_clearShares {l : Launch} {E : EV} {X : va_W} {σ : St} {σf : St} (h : x_X8_clearShares σ = some σf) : CM l yX8_clearShares cX8_clearShares 2 none rm_X8_clearShares [.ref (eA E 97)] E (wC E σ ++ X) (wC E σf ++ X) qV := by
  refine CM.start (by decide) (Nat.le_of_ble_eq_true rfl) (fun p e s m a below meth c A ls cx hr hlk hV hl => ?_)
  have cx : CallFix p m c cX8_clearShares 2 s a TBL RX8 := cx
  have hx := cx.1
  have hb := cx.2.1
  have hl : lv_has ls 2 [(0, .ref (eA E 97))] := hl
  generalize hQ : EQ E (wC E σf ++ X) qV A s a below = QQ
  obtain ⟨H, hH⟩ : ∃ H, H = s.heap := ⟨_, rfl⟩
  obtain ⟨locs, hlocs⟩ : ∃ z, z = ([] : List Loc) := ⟨_, rfl⟩
  have hV : AtW E (wC E σ ++ X) A s H locs := by rw [hH, hlocs]; exact hV
  have goal : W p l e rm_X8_clearShares s m a below meth c H locs 0 0 QQ (F0 m 0 ls []) := by
    unfold x_X8_clearShares at h
    refine lv_iconst (v := 0) hx hb dX8_clearShares_0 (by decide) ?_
    refine lv_istore_n (lv' := [(1, .int 0), (0, .ref (eA E 97))]) hx hb dX8_clearShares_1 rfl hl (by decide) rfl (fun ls hl => ?_)
    refine bd2_e h (fun z4 σ5 ho h => ?_)
    refine (lp_rule (G := (fun v : (Int32 × St) => ∀ (H : Heap) (locs : List Loc) (ls : Array Slot), AtW E (wC E v.2 ++ X) A s H locs → lv_has ls 2 [(0, .ref (eA E 97)), (1, .int v.1)] → W p l e rm_X8_clearShares s m a below meth c H locs 0 0 QQ (F0 m 2 ls []))) (K := (fun v : (Int32 × St) => ∀ (H : Heap) (locs : List Loc) (ls : Array Slot), AtW E (wC E v.2 ++ X) A s H locs → lv_has ls 2 [] → W p l e rm_X8_clearShares s m a below meth c H locs 0 0 QQ (F0 m 24 ls []))) (fun v b1 y1 h hT1 hF1 => ?_) ho (fun H locs ls hV hl => ?_)) _ _ _ hV (lv_sub hl [1, 0] rfl)
    · obtain ⟨u1, σ2⟩ := v
      have h : x_X8_clearShares_L2 u1 σ2 = some (b1, y1) := h
      intro H locs ls hV hl
      have hV : AtW E (wC E σ2 ++ X) A s H locs := hV
      have hl : lv_has ls 2 [(0, .ref (eA E 97)), (1, .int u1)] := hl
      unfold x_X8_clearShares_L2 at h
      refine lv_iload_n hx hb dX8_clearShares_2 rfl (lv_at hl 1 rfl) ?_
      refine lv_aload_n hx hb dX8_clearShares_3 rfl (lv_at hl 0 rfl) ?_
      refine G_X8_shares cx hV mk_2_19 dX8_clearShares_4 ?_
      refine R_C0_alen cx hV dX8_clearShares_7 ?_
      refine lv_icmp_ge (tgt := 24) hx hb dX8_clearShares_8 (by decide) (fun hc => ?_) (fun hc => ?_)
      · have h := ifp hc h
        cases h
        exact hF1 rfl _ _ _ hV (lv_sub hl [] rfl)
      · have h := ifn hc h
        refine lv_aload_n hx hb dX8_clearShares_11 rfl (lv_at hl 0 rfl) ?_
        refine G_X8_shares cx hV mk_2_19 dX8_clearShares_12 ?_
        refine lv_iload_n hx hb dX8_clearShares_15 rfl (lv_at hl 1 rfl) ?_
        refine lv_lconst (v := 0) hx hb dX8_clearShares_16 (by decide) ?_
        refine bd_e h (fun σ3 hq h => ?_)
        refine R_C0_last cx hV hq dX8_clearShares_17 (fun H locs hV => ?_)
        refine lv_iinc (v := (u1 + 1)) (lv' := [(1, .int (u1 + 1)), (0, .ref (eA E 97))]) hx hb dX8_clearShares_18 hl (k := 1) rfl rfl (by decide) rfl (fun ls hl => ?_)
        refine lv_goto (tgt := 2) hx hb dX8_clearShares_21 (by decide) ?_
        cases h
        exact hT1 rfl _ _ _ hV (lv_sub hl [1, 0] rfl)
    · have hV : AtW E (wC E σ5 ++ X) A s H locs := hV
      have hl : lv_has ls 2 [] := hl
      have h1 := Option.some.inj h
      subst h1
      subst hQ
      exact r_vret cx hr hlk hV dX8_clearShares_24
  rw [hH, hlocs] at goal
  exact goal
theorem k_X8_clearShares {p : Program} {l : Launch} {e : Env} {R : Room} {s : State} {m : MethodId} {a : Array Value} {below : List Frame} {meth : Method} {c : Code} {H : Heap} {locs : List Loc} {cells slots : Nat} {Q : State → Prop} {cc : ByteArray} {own : String} {nL pc : Nat} {ls : Array Slot} {rest : List Value} {A : Nat → Prop} {E : EV} {X : va_W} {σ : St} {σf : St} (h : x_X8_clearShares σ = some σf) (cx : CallFix p m c cc nL s a TBL own) (hV : AtW E (wC E σ ++ X) A s H locs) {idx : Nat} (w1 : Cond.methodLink own idx yX8_clearShares ∈ TBL) (hR : (rm_X8_clearShares).frames + 1 ≤ R.frames ∧ 8 + (2 + 11) + (rm_X8_clearShares).locals ≤ R.locals) (hcs : cells ≤ R.cells ∧ slots ≤ R.slots) (hls : ls.size = nL) (hcat : (rest.map fun v => v.category).sum ≤ 8) (d : decode cc pc = .ok (.invokevirtual idx, 3)) (kk : ∀ (H1 : Heap) (locs1 : List Loc), AtW E (wC E σf ++ X) A s H1 locs1 → W p l e R s m a below meth c H1 locs1 cells slots Q (F0 m (pc + 3) ls (rest))) : W p l e R s m a below meth c H locs cells slots Q (F0 m pc ls (.ref (eA E 97) :: rest)) :=
  r_callv (n := 0) (As := []) (q0 := 97) (ci := 8) (qq := (RX8, TX8, 6)) (c_X8_clearShares h) wC_fst rfl rfl mk_5_129 mk_P_42 mk_1_7 mk_5_130 (by decide +kernel) rfl ⟨rfl, rfl⟩ cx hV w1 hR hcs hls rfl hcat d kk
def x_X8_besideOrHere (p1 : Int32) (p2 : Int32) (σ : St) : Option Int32 :=
  bd (x_X7_hasCrate 0 (p1 + p2) σ) fun v1 =>
  (if v1 = 0 then
  some p1
  else
  some (p1 + p2))
abbrev rm_X8_besideOrHere : Room := { frames := 1, cells := 0, slots := 0, locals := 21 }
set_option maxHeartbeats 4000000 in
set_option maxRecDepth 100000 in
theorem c_X8_besideOrHere {l : Launch} {E : EV} {X : va_W} {σ : St} {p1 : Int32} {p2 : Int32} {rv : Int32} (h : x_X8_besideOrHere p1 p2 σ = some rv) : CM l yX8_besideOrHere cX8_besideOrHere 3 (some .int) rm_X8_besideOrHere [.ref (eA E 97), .int p1, .int p2] E (wC E σ ++ X) (wC E σ ++ X) (qI rv) := by
  refine CM.start (by decide) (Nat.le_of_ble_eq_true rfl) (fun p e s m a below meth c A ls cx hr hlk hV hl => ?_)
  have cx : CallFix p m c cX8_besideOrHere 3 s a TBL RX8 := cx
  have hx := cx.1
  have hb := cx.2.1
  have hl : lv_has ls 3 [(0, .ref (eA E 97)), (1, .int p1), (2, .int p2)] := hl
  generalize hQ : EQ E (wC E σ ++ X) (qI rv) A s a below = QQ
  obtain ⟨H, hH⟩ : ∃ H, H = s.heap := ⟨_, rfl⟩
  obtain ⟨locs, hlocs⟩ : ∃ z, z = ([] : List Loc) := ⟨_, rfl⟩
  have hV : AtW E (wC E σ ++ X) A s H locs := by rw [hH, hlocs]; exact hV
  have goal : W p l e rm_X8_besideOrHere s m a below meth c H locs 0 0 QQ (F0 m 0 ls []) := by
    unfold x_X8_besideOrHere at h
    refine lv_aload_n hx hb dX8_besideOrHere_0 rfl (lv_at hl 0 rfl) ?_
    refine G_X8_told cx hV mk_2_17 dX8_besideOrHere_1 ?_
    refine lv_iload_n hx hb dX8_besideOrHere_4 rfl (lv_at hl 1 rfl) ?_
    refine lv_iload_n hx hb dX8_besideOrHere_5 rfl (lv_at hl 2 rfl) ?_
    refine lv_iadd hx hb dX8_besideOrHere_6 ?_
    refine bd_e h (fun v1 hq h => ?_)
    refine k_X7_hasCrate (by decide) hq cx hV mk_5_154 ⟨Nat.le_of_ble_eq_true rfl, Nat.le_of_ble_eq_true rfl⟩ ⟨Nat.zero_le _, Nat.zero_le _⟩ hl.1 (Nat.le_of_ble_eq_true rfl) dX8_besideOrHere_7 (fun H locs hV => ?_)
    refine lv_if_eq (tgt := 19) hx hb dX8_besideOrHere_10 (by decide) (fun hc => ?_) (fun hc => ?_)
    · have h := ifp hc h
      refine lv_iload_n hx hb dX8_besideOrHere_19 rfl (lv_at hl 1 rfl) ?_
      have h1 := Option.some.inj h
      subst h1
      subst hQ
      exact r_ireti cx hr hlk hV dX8_besideOrHere_20
    · have h := ifn hc h
      refine lv_iload_n hx hb dX8_besideOrHere_13 rfl (lv_at hl 1 rfl) ?_
      refine lv_iload_n hx hb dX8_besideOrHere_14 rfl (lv_at hl 2 rfl) ?_
      refine lv_iadd hx hb dX8_besideOrHere_15 ?_
      refine lv_goto (tgt := 20) hx hb dX8_besideOrHere_16 (by decide) ?_
      have h1 := Option.some.inj h
      subst h1
      subst hQ
      exact r_ireti cx hr hlk hV dX8_besideOrHere_20
  rw [hH, hlocs] at goal
  exact goal
theorem k_X8_besideOrHere {p : Program} {l : Launch} {e : Env} {R : Room} {s : State} {m : MethodId} {a : Array Value} {below : List Frame} {meth : Method} {c : Code} {H : Heap} {locs : List Loc} {cells slots : Nat} {Q : State → Prop} {cc : ByteArray} {own : String} {nL pc : Nat} {ls : Array Slot} {rest : List Value} {A : Nat → Prop} {E : EV} {X : va_W} {σ : St} {p1 : Int32} {p2 : Int32} {rv : Int32} (h : x_X8_besideOrHere p1 p2 σ = some rv) (cx : CallFix p m c cc nL s a TBL own) (hV : AtW E (wC E σ ++ X) A s H locs) {idx : Nat} (w1 : Cond.methodLink own idx yX8_besideOrHere ∈ TBL) (hR : (rm_X8_besideOrHere).frames + 1 ≤ R.frames ∧ 8 + (3 + 11) + (rm_X8_besideOrHere).locals ≤ R.locals) (hcs : cells ≤ R.cells ∧ slots ≤ R.slots) (hls : ls.size = nL) (hcat : (rest.map fun v => v.category).sum ≤ 8) (d : decode cc pc = .ok (.invokevirtual idx, 3)) (kk : ∀ (H1 : Heap) (locs1 : List Loc), AtW E (wC E σ ++ X) A s H1 locs1 → W p l e R s m a below meth c H1 locs1 cells slots Q (F0 m (pc + 3) ls (.int rv :: rest))) : W p l e R s m a below meth c H locs cells slots Q (F0 m pc ls (.int p2 :: .int p1 :: .ref (eA E 97) :: rest)) :=
  r_calli (n := 2) (As := [.int p1, .int p2]) (q0 := 97) (ci := 8) (qq := (RX8, TX8, 6)) (c_X8_besideOrHere h) rfl rfl rfl mk_5_152 mk_P_46 mk_1_7 mk_5_153 (by decide +kernel) rfl ⟨rfl, rfl⟩ cx hV w1 hR hcs hls rfl hcat d kk
def x_X8_handOn_L113 (p3 : Int64) (u11 : Int32) (σ12 : St) : Option (Bool × (Int32 × St)) :=
  (if (gI σ12 0) ≤ u11 then
  some (false, (u11, σ12))
  else
  bd (x_X2_at 7 3 σ12) fun v13 =>
  bd (x_X8_give u11 (((2 : Int64) * p3) * (Int32.toInt64 v13)) σ12) fun σ14 =>
  some (true, ((u11 + 1), σ14)))
def x_X8_handOn (p1 : Int32) (p2 : Int32) (p3 : Int64) (σ : St) : Option St :=
  bd (x_X2_at 7 0 σ) fun v1 =>
  bd (x_X8_give p2 (((2 : Int64) * (p3 * (Int32.toInt64 (gI σ 0)))) * (Int32.toInt64 v1)) σ) fun σ2 =>
  bd (x_X8_besideOrHere p1 (-1) σ2) fun v3 =>
  bd (x_X2_at 7 1 σ2) fun v4 =>
  bd (x_X8_give v3 ((p3 * (Int32.toInt64 (gI σ 0))) * (Int32.toInt64 v4)) σ2) fun σ5 =>
  bd (x_X8_besideOrHere p1 1 σ5) fun v6 =>
  bd (x_X2_at 7 1 σ5) fun v7 =>
  bd (x_X8_give v6 ((p3 * (Int32.toInt64 (gI σ 0))) * (Int32.toInt64 v7)) σ5) fun σ8 =>
  bd (x_X2_at 7 2 σ8) fun v9 =>
  bd (x_X8_give p1 (((2 : Int64) * (p3 * (Int32.toInt64 (gI σ 0)))) * (Int32.toInt64 v9)) σ8) fun σ10 =>
  bd2 (lp (fun v : (Int32 × St) => x_X8_handOn_L113 p3 v.1 v.2) FU (0, σ10)) fun z15 σ16 =>
  some σ16
abbrev rm_X8_handOn : Room := { frames := 2, cells := 0, slots := 0, locals := 43 }
set_option maxHeartbeats 4000000 in
set_option maxRecDepth 100000 in
theorem c_X8_handOn {l : Launch} {E : EV} {X : va_W} {σ : St} {p1 : Int32} {p2 : Int32} {p3 : Int64} {σf : St} (h : x_X8_handOn p1 p2 p3 σ = some σf) : CM l yX8_handOn cX8_handOn 8 none rm_X8_handOn [.ref (eA E 97), .int p1, .int p2, .long p3] E (wC E σ ++ X) (wC E σf ++ X) qV := by
  refine CM.start (by decide) (Nat.le_of_ble_eq_true rfl) (fun p e s m a below meth c A ls cx hr hlk hV hl => ?_)
  have cx : CallFix p m c cX8_handOn 8 s a TBL RX8 := cx
  have hx := cx.1
  have hb := cx.2.1
  have hl : lv_has ls 8 [(0, .ref (eA E 97)), (1, .int p1), (2, .int p2), (3, .long p3)] := hl
  generalize hQ : EQ E (wC E σf ++ X) qV A s a below = QQ
  obtain ⟨H, hH⟩ : ∃ H, H = s.heap := ⟨_, rfl⟩
  obtain ⟨locs, hlocs⟩ : ∃ z, z = ([] : List Loc) := ⟨_, rfl⟩
  have hV : AtW E (wC E σ ++ X) A s H locs := by rw [hH, hlocs]; exact hV
  have goal : W p l e rm_X8_handOn s m a below meth c H locs 0 0 QQ (F0 m 0 ls []) := by
    unfold x_X8_handOn at h
    refine lv_lload_n hx hb dX8_handOn_0 rfl (lv_at hl 3 rfl) ?_
    refine lv_aload_n hx hb dX8_handOn_1 rfl (lv_at hl 0 rfl) ?_
    refine G_X8_told cx hV mk_2_17 dX8_handOn_2 ?_
    refine G_X7_crates cx hV (by decide) mk_1_55 dX8_handOn_5 ?_
    refine lv_i2l (v := (Int32.toInt64 (gI σ 0))) hx hb dX8_handOn_8 rfl ?_
    refine lv_lmul hx hb dX8_handOn_9 ?_
    refine lv_lstore (lv' := [(5, .long (p3 * (Int32.toInt64 (gI σ 0)))), (0, .ref (eA E 97)), (1, .int p1), (2, .int p2), (3, .long p3)]) hx hb dX8_handOn_10 hl (by decide) rfl (fun ls hl => ?_)
    refine lv_aload_n hx hb dX8_handOn_12 rfl (lv_at hl 1 rfl) ?_
    refine lv_iload_n hx hb dX8_handOn_13 rfl (lv_at hl 3 rfl) ?_
    refine lv_ldc2 (v := 2) hx hb cx.2.2.2.1 (cx.2.2.2.2 _ mk_5_149) dX8_handOn_14 ?_
    refine lv_lload hx hb dX8_handOn_17 (lv_at hl 0 rfl) ?_
    refine lv_lmul hx hb dX8_handOn_19 ?_
    refine lv_aload_n hx hb dX8_handOn_20 rfl (lv_at hl 1 rfl) ?_
    refine G_X8_told cx hV mk_2_17 dX8_handOn_21 ?_
    refine G_X7_weights cx hV (by decide) mk_1_87 dX8_handOn_24 ?_
    refine lv_iconst (v := 0) hx hb dX8_handOn_27 (by decide) ?_
    refine bd_e h (fun v1 hq h => ?_)
    refine k_X2_at (by decide) hq cx hV mk_5_131 ⟨Nat.le_of_ble_eq_true rfl, Nat.le_of_ble_eq_true rfl⟩ ⟨Nat.zero_le _, Nat.zero_le _⟩ hl.1 (Nat.le_of_ble_eq_true rfl) dX8_handOn_28 (fun H locs hV => ?_)
    refine lv_i2l (v := (Int32.toInt64 v1)) hx hb dX8_handOn_31 rfl ?_
    refine lv_lmul hx hb dX8_handOn_32 ?_
    refine bd_e h (fun σ2 hq h => ?_)
    refine k_X8_give hq cx hV mk_5_132 ⟨Nat.le_of_ble_eq_true rfl, Nat.le_of_ble_eq_true rfl⟩ ⟨Nat.zero_le _, Nat.zero_le _⟩ hl.1 (Nat.le_of_ble_eq_true rfl) dX8_handOn_33 (fun H locs hV => ?_)
    refine lv_aload_n hx hb dX8_handOn_36 rfl (lv_at hl 1 rfl) ?_
    refine lv_aload_n hx hb dX8_handOn_37 rfl (lv_at hl 1 rfl) ?_
    refine lv_iload_n hx hb dX8_handOn_38 rfl (lv_at hl 2 rfl) ?_
    refine lv_iconst (v := (-1)) hx hb dX8_handOn_39 (by decide) ?_
    refine bd_e h (fun v3 hq h => ?_)
    refine k_X8_besideOrHere hq cx hV mk_5_150 ⟨Nat.le_of_ble_eq_true rfl, Nat.le_of_ble_eq_true rfl⟩ ⟨Nat.zero_le _, Nat.zero_le _⟩ hl.1 (Nat.le_of_ble_eq_true rfl) dX8_handOn_40 (fun H locs hV => ?_)
    refine lv_lload hx hb dX8_handOn_43 (lv_at hl 0 rfl) ?_
    refine lv_aload_n hx hb dX8_handOn_45 rfl (lv_at hl 1 rfl) ?_
    refine G_X8_told cx hV mk_2_17 dX8_handOn_46 ?_
    refine G_X7_weights cx hV (by decide) mk_1_87 dX8_handOn_49 ?_
    refine lv_iconst (v := 1) hx hb dX8_handOn_52 (by decide) ?_
    refine bd_e h (fun v4 hq h => ?_)
    refine k_X2_at (by decide) hq cx hV mk_5_131 ⟨Nat.le_of_ble_eq_true rfl, Nat.le_of_ble_eq_true rfl⟩ ⟨Nat.zero_le _, Nat.zero_le _⟩ hl.1 (Nat.le_of_ble_eq_true rfl) dX8_handOn_53 (fun H locs hV => ?_)
    refine lv_i2l (v := (Int32.toInt64 v4)) hx hb dX8_handOn_56 rfl ?_
    refine lv_lmul hx hb dX8_handOn_57 ?_
    refine bd_e h (fun σ5 hq h => ?_)
    refine k_X8_give hq cx hV mk_5_132 ⟨Nat.le_of_ble_eq_true rfl, Nat.le_of_ble_eq_true rfl⟩ ⟨Nat.zero_le _, Nat.zero_le _⟩ hl.1 (Nat.le_of_ble_eq_true rfl) dX8_handOn_58 (fun H locs hV => ?_)
    refine lv_aload_n hx hb dX8_handOn_61 rfl (lv_at hl 1 rfl) ?_
    refine lv_aload_n hx hb dX8_handOn_62 rfl (lv_at hl 1 rfl) ?_
    refine lv_iload_n hx hb dX8_handOn_63 rfl (lv_at hl 2 rfl) ?_
    refine lv_iconst (v := 1) hx hb dX8_handOn_64 (by decide) ?_
    refine bd_e h (fun v6 hq h => ?_)
    refine k_X8_besideOrHere hq cx hV mk_5_150 ⟨Nat.le_of_ble_eq_true rfl, Nat.le_of_ble_eq_true rfl⟩ ⟨Nat.zero_le _, Nat.zero_le _⟩ hl.1 (Nat.le_of_ble_eq_true rfl) dX8_handOn_65 (fun H locs hV => ?_)
    refine lv_lload hx hb dX8_handOn_68 (lv_at hl 0 rfl) ?_
    refine lv_aload_n hx hb dX8_handOn_70 rfl (lv_at hl 1 rfl) ?_
    refine G_X8_told cx hV mk_2_17 dX8_handOn_71 ?_
    refine G_X7_weights cx hV (by decide) mk_1_87 dX8_handOn_74 ?_
    refine lv_iconst (v := 1) hx hb dX8_handOn_77 (by decide) ?_
    refine bd_e h (fun v7 hq h => ?_)
    refine k_X2_at (by decide) hq cx hV mk_5_131 ⟨Nat.le_of_ble_eq_true rfl, Nat.le_of_ble_eq_true rfl⟩ ⟨Nat.zero_le _, Nat.zero_le _⟩ hl.1 (Nat.le_of_ble_eq_true rfl) dX8_handOn_78 (fun H locs hV => ?_)
    refine lv_i2l (v := (Int32.toInt64 v7)) hx hb dX8_handOn_81 rfl ?_
    refine lv_lmul hx hb dX8_handOn_82 ?_
    refine bd_e h (fun σ8 hq h => ?_)
    refine k_X8_give hq cx hV mk_5_132 ⟨Nat.le_of_ble_eq_true rfl, Nat.le_of_ble_eq_true rfl⟩ ⟨Nat.zero_le _, Nat.zero_le _⟩ hl.1 (Nat.le_of_ble_eq_true rfl) dX8_handOn_83 (fun H locs hV => ?_)
    refine lv_aload_n hx hb dX8_handOn_86 rfl (lv_at hl 1 rfl) ?_
    refine lv_iload_n hx hb dX8_handOn_87 rfl (lv_at hl 2 rfl) ?_
    refine lv_ldc2 (v := 2) hx hb cx.2.2.2.1 (cx.2.2.2.2 _ mk_5_149) dX8_handOn_88 ?_
    refine lv_lload hx hb dX8_handOn_91 (lv_at hl 0 rfl) ?_
    refine lv_lmul hx hb dX8_handOn_93 ?_
    refine lv_aload_n hx hb dX8_handOn_94 rfl (lv_at hl 1 rfl) ?_
    refine G_X8_told cx hV mk_2_17 dX8_handOn_95 ?_
    refine G_X7_weights cx hV (by decide) mk_1_87 dX8_handOn_98 ?_
    refine lv_iconst (v := 2) hx hb dX8_handOn_101 (by decide) ?_
    refine bd_e h (fun v9 hq h => ?_)
    refine k_X2_at (by decide) hq cx hV mk_5_131 ⟨Nat.le_of_ble_eq_true rfl, Nat.le_of_ble_eq_true rfl⟩ ⟨Nat.zero_le _, Nat.zero_le _⟩ hl.1 (Nat.le_of_ble_eq_true rfl) dX8_handOn_102 (fun H locs hV => ?_)
    refine lv_i2l (v := (Int32.toInt64 v9)) hx hb dX8_handOn_105 rfl ?_
    refine lv_lmul hx hb dX8_handOn_106 ?_
    refine bd_e h (fun σ10 hq h => ?_)
    refine k_X8_give hq cx hV mk_5_132 ⟨Nat.le_of_ble_eq_true rfl, Nat.le_of_ble_eq_true rfl⟩ ⟨Nat.zero_le _, Nat.zero_le _⟩ hl.1 (Nat.le_of_ble_eq_true rfl) dX8_handOn_107 (fun H locs hV => ?_)
    refine lv_iconst (v := 0) hx hb dX8_handOn_110 (by decide) ?_
    refine lv_istore (lv' := [(7, .int 0), (5, .long (p3 * (Int32.toInt64 (gI σ 0)))), (0, .ref (eA E 97)), (1, .int p1), (2, .int p2), (3, .long p3)]) hx hb dX8_handOn_111 hl (by decide) rfl (fun ls hl => ?_)
    refine bd2_e h (fun z15 σ16 ho h => ?_)
    refine (lp_rule (G := (fun v : (Int32 × St) => ∀ (H : Heap) (locs : List Loc) (ls : Array Slot), AtW E (wC E v.2 ++ X) A s H locs → lv_has ls 8 [(0, .ref (eA E 97)), (3, .long p3), (7, .int v.1)] → W p l e rm_X8_handOn s m a below meth c H locs 0 0 QQ (F0 m 113 ls []))) (K := (fun v : (Int32 × St) => ∀ (H : Heap) (locs : List Loc) (ls : Array Slot), AtW E (wC E v.2 ++ X) A s H locs → lv_has ls 8 [] → W p l e rm_X8_handOn s m a below meth c H locs 0 0 QQ (F0 m 155 ls []))) (fun v b1 y1 h hT1 hF1 => ?_) ho (fun H locs ls hV hl => ?_)) _ _ _ hV (lv_sub hl [2, 5, 0] rfl)
    · obtain ⟨u11, σ12⟩ := v
      have h : x_X8_handOn_L113 p3 u11 σ12 = some (b1, y1) := h
      intro H locs ls hV hl
      have hV : AtW E (wC E σ12 ++ X) A s H locs := hV
      have hl : lv_has ls 8 [(0, .ref (eA E 97)), (3, .long p3), (7, .int u11)] := hl
      unfold x_X8_handOn_L113 at h
      refine lv_iload hx hb dX8_handOn_113 (lv_at hl 2 rfl) ?_
      refine lv_aload_n hx hb dX8_handOn_115 rfl (lv_at hl 0 rfl) ?_
      refine G_X8_told cx hV mk_2_17 dX8_handOn_116 ?_
      refine G_X7_crates cx hV (by decide) mk_1_55 dX8_handOn_119 ?_
      refine lv_icmp_ge (tgt := 155) hx hb dX8_handOn_122 (by decide) (fun hc => ?_) (fun hc => ?_)
      · have h := ifp hc h
        cases h
        exact hF1 rfl _ _ _ hV (lv_sub hl [] rfl)
      · have h := ifn hc h
        refine lv_aload_n hx hb dX8_handOn_125 rfl (lv_at hl 0 rfl) ?_
        refine lv_iload hx hb dX8_handOn_126 (lv_at hl 2 rfl) ?_
        refine lv_ldc2 (v := 2) hx hb cx.2.2.2.1 (cx.2.2.2.2 _ mk_5_149) dX8_handOn_128 ?_
        refine lv_lload_n hx hb dX8_handOn_131 rfl (lv_at hl 1 rfl) ?_
        refine lv_lmul hx hb dX8_handOn_132 ?_
        refine lv_aload_n hx hb dX8_handOn_133 rfl (lv_at hl 0 rfl) ?_
        refine G_X8_told cx hV mk_2_17 dX8_handOn_134 ?_
        refine G_X7_weights cx hV (by decide) mk_1_87 dX8_handOn_137 ?_
        refine lv_iconst (v := 3) hx hb dX8_handOn_140 (by decide) ?_
        refine bd_e h (fun v13 hq h => ?_)
        refine k_X2_at (by decide) hq cx hV mk_5_131 ⟨Nat.le_of_ble_eq_true rfl, Nat.le_of_ble_eq_true rfl⟩ ⟨Nat.zero_le _, Nat.zero_le _⟩ hl.1 (Nat.le_of_ble_eq_true rfl) dX8_handOn_141 (fun H locs hV => ?_)
        refine lv_i2l (v := (Int32.toInt64 v13)) hx hb dX8_handOn_144 rfl ?_
        refine lv_lmul hx hb dX8_handOn_145 ?_
        refine bd_e h (fun σ14 hq h => ?_)
        refine k_X8_give hq cx hV mk_5_132 ⟨Nat.le_of_ble_eq_true rfl, Nat.le_of_ble_eq_true rfl⟩ ⟨Nat.zero_le _, Nat.zero_le _⟩ hl.1 (Nat.le_of_ble_eq_true rfl) dX8_handOn_146 (fun H locs hV => ?_)
        refine lv_iinc (v := (u11 + 1)) (lv' := [(7, .int (u11 + 1)), (0, .ref (eA E 97)), (3, .long p3)]) hx hb dX8_handOn_149 hl (k := 2) rfl rfl (by decide) rfl (fun ls hl => ?_)
        refine lv_goto (tgt := 113) hx hb dX8_handOn_152 (by decide) ?_
        cases h
        exact hT1 rfl _ _ _ hV (lv_sub hl [1, 2, 0] rfl)
    · have hV : AtW E (wC E σ16 ++ X) A s H locs := hV
      have hl : lv_has ls 8 [] := hl
      have h1 := Option.some.inj h
      subst h1
      subst hQ
      exact r_vret cx hr hlk hV dX8_handOn_155
  rw [hH, hlocs] at goal
  exact goal
theorem k_X8_handOn {p : Program} {l : Launch} {e : Env} {R : Room} {s : State} {m : MethodId} {a : Array Value} {below : List Frame} {meth : Method} {c : Code} {H : Heap} {locs : List Loc} {cells slots : Nat} {Q : State → Prop} {cc : ByteArray} {own : String} {nL pc : Nat} {ls : Array Slot} {rest : List Value} {A : Nat → Prop} {E : EV} {X : va_W} {σ : St} {p1 : Int32} {p2 : Int32} {p3 : Int64} {σf : St} (h : x_X8_handOn p1 p2 p3 σ = some σf) (cx : CallFix p m c cc nL s a TBL own) (hV : AtW E (wC E σ ++ X) A s H locs) {idx : Nat} (w1 : Cond.methodLink own idx yX8_handOn ∈ TBL) (hR : (rm_X8_handOn).frames + 1 ≤ R.frames ∧ 8 + (8 + 11) + (rm_X8_handOn).locals ≤ R.locals) (hcs : cells ≤ R.cells ∧ slots ≤ R.slots) (hls : ls.size = nL) (hcat : (rest.map fun v => v.category).sum ≤ 8) (d : decode cc pc = .ok (.invokevirtual idx, 3)) (kk : ∀ (H1 : Heap) (locs1 : List Loc), AtW E (wC E σf ++ X) A s H1 locs1 → W p l e R s m a below meth c H1 locs1 cells slots Q (F0 m (pc + 3) ls (rest))) : W p l e R s m a below meth c H locs cells slots Q (F0 m pc ls (.long p3 :: .int p2 :: .int p1 :: .ref (eA E 97) :: rest)) :=
  r_callv (n := 3) (As := [.int p1, .int p2, .long p3]) (q0 := 97) (ci := 8) (qq := (RX8, TX8, 6)) (c_X8_handOn h) wC_fst rfl rfl mk_5_147 mk_P_45 mk_1_7 mk_5_148 (by decide +kernel) rfl ⟨rfl, rfl⟩ cx hV w1 hR hcs hls rfl hcat d kk
def x_X8_putBackOnce_L2 (p1 : Int32) (u1 : Int32) (σ2 : St) : Option (Bool × (Int32 × St)) :=
  (if (nI 8) ≤ u1 then
  some (false, (u1, σ2))
  else
  bd (x_X8_share u1 σ2) fun v3 =>
  bd (stJ σ2 1 8 u1 v3) fun σ4 =>
  some (true, ((u1 + 1), σ4)))
def x_X8_putBackOnce_L34 (p1 : Int32) (u8 : Int32) (σ9 : St) : Option (Bool × (Int32 × St)) :=
  (if (nI 8) ≤ u8 then
  some (false, (u8, σ9))
  else
  bd (ldJ (gJ σ9 1) 8 u8) fun v10 =>
  (if (lg_cmp v10 (0 : Int64)) = 0 then
  some (true, ((u8 + 1), σ9))
  else
  bd (ldJ (gJ σ9 1) 8 u8) fun v11 =>
  bd (x_X8_handOn u8 p1 v11 σ9) fun σ12 =>
  some (true, ((u8 + 1), σ12))))
def x_X8_putBackOnce (p1 : Int32) (σ : St) : Option St :=
  bd2 (lp (fun v : (Int32 × St) => x_X8_putBackOnce_L2 p1 v.1 v.2) FU (0, σ)) fun z5 σ6 =>
  bd (x_X8_clearShares σ6) fun σ7 =>
  bd2 (lp (fun v : (Int32 × St) => x_X8_putBackOnce_L34 p1 v.1 v.2) FU (0, σ7)) fun z13 σ14 =>
  bd (x_X2_sum 7 σ14) fun v15 =>
  bd (some (sL σ14 0 ((gL σ14 0) * (((2 : Int64) * (Int32.toInt64 (gI σ14 0))) * (Int32.toInt64 v15))))) fun σ16 =>
  some σ16
abbrev rm_X8_putBackOnce : Room := { frames := 3, cells := 0, slots := 0, locals := 70 }
set_option maxHeartbeats 4000000 in
set_option maxRecDepth 100000 in
theorem c_X8_putBackOnce {l : Launch} {E : EV} {X : va_W} {σ : St} {p1 : Int32} {σf : St} (h : x_X8_putBackOnce p1 σ = some σf) : CM l yX8_putBackOnce cX8_putBackOnce 3 none rm_X8_putBackOnce [.ref (eA E 97), .int p1] E (wC E σ ++ X) (wC E σf ++ X) qV := by
  refine CM.start (by decide) (Nat.le_of_ble_eq_true rfl) (fun p e s m a below meth c A ls cx hr hlk hV hl => ?_)
  have cx : CallFix p m c cX8_putBackOnce 3 s a TBL RX8 := cx
  have hx := cx.1
  have hb := cx.2.1
  have hl : lv_has ls 3 [(0, .ref (eA E 97)), (1, .int p1)] := hl
  generalize hQ : EQ E (wC E σf ++ X) qV A s a below = QQ
  obtain ⟨H, hH⟩ : ∃ H, H = s.heap := ⟨_, rfl⟩
  obtain ⟨locs, hlocs⟩ : ∃ z, z = ([] : List Loc) := ⟨_, rfl⟩
  have hV : AtW E (wC E σ ++ X) A s H locs := by rw [hH, hlocs]; exact hV
  have goal : W p l e rm_X8_putBackOnce s m a below meth c H locs 0 0 QQ (F0 m 0 ls []) := by
    unfold x_X8_putBackOnce at h
    refine lv_iconst (v := 0) hx hb dX8_putBackOnce_0 (by decide) ?_
    refine lv_istore_n (lv' := [(2, .int 0), (0, .ref (eA E 97)), (1, .int p1)]) hx hb dX8_putBackOnce_1 rfl hl (by decide) rfl (fun ls hl => ?_)
    refine bd2_e h (fun z5 σ6 ho h => ?_)
    refine (lp_rule (G := (fun v : (Int32 × St) => ∀ (H : Heap) (locs : List Loc) (ls : Array Slot), AtW E (wC E v.2 ++ X) A s H locs → lv_has ls 3 [(0, .ref (eA E 97)), (1, .int p1), (2, .int v.1)] → W p l e rm_X8_putBackOnce s m a below meth c H locs 0 0 QQ (F0 m 2 ls []))) (K := (fun v : (Int32 × St) => ∀ (H : Heap) (locs : List Loc) (ls : Array Slot), AtW E (wC E v.2 ++ X) A s H locs → lv_has ls 3 [(0, .ref (eA E 97)), (1, .int p1)] → W p l e rm_X8_putBackOnce s m a below meth c H locs 0 0 QQ (F0 m 28 ls []))) (fun v b1 y1 h hT1 hF1 => ?_) ho (fun H locs ls hV hl => ?_)) _ _ _ hV (lv_sub hl [1, 2, 0] rfl)
    · obtain ⟨u1, σ2⟩ := v
      have h : x_X8_putBackOnce_L2 p1 u1 σ2 = some (b1, y1) := h
      intro H locs ls hV hl
      have hV : AtW E (wC E σ2 ++ X) A s H locs := hV
      have hl : lv_has ls 3 [(0, .ref (eA E 97)), (1, .int p1), (2, .int u1)] := hl
      unfold x_X8_putBackOnce_L2 at h
      refine lv_iload_n hx hb dX8_putBackOnce_2 rfl (lv_at hl 2 rfl) ?_
      refine lv_aload_n hx hb dX8_putBackOnce_3 rfl (lv_at hl 0 rfl) ?_
      refine G_X8_before cx hV mk_2_20 dX8_putBackOnce_4 ?_
      refine R_C1_alen cx hV dX8_putBackOnce_7 ?_
      refine lv_icmp_ge (tgt := 28) hx hb dX8_putBackOnce_8 (by decide) (fun hc => ?_) (fun hc => ?_)
      · have h := ifp hc h
        cases h
        exact hF1 rfl _ _ _ hV (lv_sub hl [0, 1] rfl)
      · have h := ifn hc h
        refine lv_aload_n hx hb dX8_putBackOnce_11 rfl (lv_at hl 0 rfl) ?_
        refine G_X8_before cx hV mk_2_20 dX8_putBackOnce_12 ?_
        refine lv_iload_n hx hb dX8_putBackOnce_15 rfl (lv_at hl 2 rfl) ?_
        refine lv_aload_n hx hb dX8_putBackOnce_16 rfl (lv_at hl 0 rfl) ?_
        refine lv_iload_n hx hb dX8_putBackOnce_17 rfl (lv_at hl 2 rfl) ?_
        refine bd_e h (fun v3 hq h => ?_)
        refine k_X8_share hq cx hV mk_5_141 ⟨Nat.le_of_ble_eq_true rfl, Nat.le_of_ble_eq_true rfl⟩ ⟨Nat.zero_le _, Nat.zero_le _⟩ hl.1 (Nat.le_of_ble_eq_true rfl) dX8_putBackOnce_18 (fun H locs hV => ?_)
        refine bd_e h (fun σ4 hq h => ?_)
        refine R_C1_last cx hV hq dX8_putBackOnce_21 (fun H locs hV => ?_)
        refine lv_iinc (v := (u1 + 1)) (lv' := [(2, .int (u1 + 1)), (0, .ref (eA E 97)), (1, .int p1)]) hx hb dX8_putBackOnce_22 hl (k := 2) rfl rfl (by decide) rfl (fun ls hl => ?_)
        refine lv_goto (tgt := 2) hx hb dX8_putBackOnce_25 (by decide) ?_
        cases h
        exact hT1 rfl _ _ _ hV (lv_sub hl [1, 2, 0] rfl)
    · have hV : AtW E (wC E σ6 ++ X) A s H locs := hV
      have hl : lv_has ls 3 [(0, .ref (eA E 97)), (1, .int p1)] := hl
      refine lv_aload_n hx hb dX8_putBackOnce_28 rfl (lv_at hl 0 rfl) ?_
      refine bd_e h (fun σ7 hq h => ?_)
      refine k_X8_clearShares hq cx hV mk_5_127 ⟨Nat.le_of_ble_eq_true rfl, Nat.le_of_ble_eq_true rfl⟩ ⟨Nat.zero_le _, Nat.zero_le _⟩ hl.1 (Nat.le_of_ble_eq_true rfl) dX8_putBackOnce_29 (fun H locs hV => ?_)
      refine lv_iconst (v := 0) hx hb dX8_putBackOnce_32 (by decide) ?_
      refine lv_istore_n (lv' := [(2, .int 0), (0, .ref (eA E 97)), (1, .int p1)]) hx hb dX8_putBackOnce_33 rfl hl (by decide) rfl (fun ls hl => ?_)
      refine bd2_e h (fun z13 σ14 ho h => ?_)
      refine (lp_rule (G := (fun v : (Int32 × St) => ∀ (H : Heap) (locs : List Loc) (ls : Array Slot), AtW E (wC E v.2 ++ X) A s H locs → lv_has ls 3 [(0, .ref (eA E 97)), (1, .int p1), (2, .int v.1)] → W p l e rm_X8_putBackOnce s m a below meth c H locs 0 0 QQ (F0 m 34 ls []))) (K := (fun v : (Int32 × St) => ∀ (H : Heap) (locs : List Loc) (ls : Array Slot), AtW E (wC E v.2 ++ X) A s H locs → lv_has ls 3 [(0, .ref (eA E 97))] → W p l e rm_X8_putBackOnce s m a below meth c H locs 0 0 QQ (F0 m 72 ls []))) (fun v b1 y1 h hT1 hF1 => ?_) ho (fun H locs ls hV hl => ?_)) _ _ _ hV (lv_sub hl [1, 2, 0] rfl)
      · obtain ⟨u8, σ9⟩ := v
        have h : x_X8_putBackOnce_L34 p1 u8 σ9 = some (b1, y1) := h
        intro H locs ls hV hl
        have hV : AtW E (wC E σ9 ++ X) A s H locs := hV
        have hl : lv_has ls 3 [(0, .ref (eA E 97)), (1, .int p1), (2, .int u8)] := hl
        unfold x_X8_putBackOnce_L34 at h
        refine lv_iload_n hx hb dX8_putBackOnce_34 rfl (lv_at hl 2 rfl) ?_
        refine lv_aload_n hx hb dX8_putBackOnce_35 rfl (lv_at hl 0 rfl) ?_
        refine G_X8_before cx hV mk_2_20 dX8_putBackOnce_36 ?_
        refine R_C1_alen cx hV dX8_putBackOnce_39 ?_
        refine lv_icmp_ge (tgt := 72) hx hb dX8_putBackOnce_40 (by decide) (fun hc => ?_) (fun hc => ?_)
        · have h := ifp hc h
          cases h
          exact hF1 rfl _ _ _ hV (lv_sub hl [0] rfl)
        · have h := ifn hc h
          refine lv_aload_n hx hb dX8_putBackOnce_43 rfl (lv_at hl 0 rfl) ?_
          refine G_X8_before cx hV mk_2_20 dX8_putBackOnce_44 ?_
          refine lv_iload_n hx hb dX8_putBackOnce_47 rfl (lv_at hl 2 rfl) ?_
          refine bd_e h (fun v10 hq h => ?_)
          refine R_C1_lald cx hV hq dX8_putBackOnce_48 ?_
          refine lv_lconst (v := 0) hx hb dX8_putBackOnce_49 (by decide) ?_
          refine W.lcmp hx hb dX8_putBackOnce_50 ?_
          refine lv_if_eq (tgt := 66) hx hb dX8_putBackOnce_51 (by decide) (fun hc => ?_) (fun hc => ?_)
          · have h := ifp hc h
            refine lv_iinc (v := (u8 + 1)) (lv' := [(2, .int (u8 + 1)), (0, .ref (eA E 97)), (1, .int p1)]) hx hb dX8_putBackOnce_66 hl (k := 2) rfl rfl (by decide) rfl (fun ls hl => ?_)
            refine lv_goto (tgt := 34) hx hb dX8_putBackOnce_69 (by decide) ?_
            cases h
            exact hT1 rfl _ _ _ hV (lv_sub hl [1, 2, 0] rfl)
          · have h := ifn hc h
            refine lv_aload_n hx hb dX8_putBackOnce_54 rfl (lv_at hl 0 rfl) ?_
            refine lv_iload_n hx hb dX8_putBackOnce_55 rfl (lv_at hl 2 rfl) ?_
            refine lv_iload_n hx hb dX8_putBackOnce_56 rfl (lv_at hl 1 rfl) ?_
            refine lv_aload_n hx hb dX8_putBackOnce_57 rfl (lv_at hl 0 rfl) ?_
            refine G_X8_before cx hV mk_2_20 dX8_putBackOnce_58 ?_
            refine lv_iload_n hx hb dX8_putBackOnce_61 rfl (lv_at hl 2 rfl) ?_
            refine bd_e h (fun v11 hq h => ?_)
            refine R_C1_lald cx hV hq dX8_putBackOnce_62 ?_
            refine bd_e h (fun σ12 hq h => ?_)
            refine k_X8_handOn hq cx hV mk_5_145 ⟨Nat.le_of_ble_eq_true rfl, Nat.le_of_ble_eq_true rfl⟩ ⟨Nat.zero_le _, Nat.zero_le _⟩ hl.1 (Nat.le_of_ble_eq_true rfl) dX8_putBackOnce_63 (fun H locs hV => ?_)
            refine lv_iinc (v := (u8 + 1)) (lv' := [(2, .int (u8 + 1)), (0, .ref (eA E 97)), (1, .int p1)]) hx hb dX8_putBackOnce_66 hl (k := 2) rfl rfl (by decide) rfl (fun ls hl => ?_)
            refine lv_goto (tgt := 34) hx hb dX8_putBackOnce_69 (by decide) ?_
            cases h
            exact hT1 rfl _ _ _ hV (lv_sub hl [1, 2, 0] rfl)
      · have hV : AtW E (wC E σ14 ++ X) A s H locs := hV
        have hl : lv_has ls 3 [(0, .ref (eA E 97))] := hl
        refine lv_aload_n hx hb dX8_putBackOnce_72 rfl (lv_at hl 0 rfl) ?_
        refine lv_dup hx hb dX8_putBackOnce_73 rfl ?_
        refine G_X8_whole cx hV mk_2_13 dX8_putBackOnce_74 ?_
        refine lv_ldc2 (v := 2) hx hb cx.2.2.2.1 (cx.2.2.2.2 _ mk_5_149) dX8_putBackOnce_77 ?_
        refine lv_aload_n hx hb dX8_putBackOnce_80 rfl (lv_at hl 0 rfl) ?_
        refine G_X8_told cx hV mk_2_17 dX8_putBackOnce_81 ?_
        refine G_X7_crates cx hV (by decide) mk_1_55 dX8_putBackOnce_84 ?_
        refine lv_i2l (v := (Int32.toInt64 (gI σ14 0))) hx hb dX8_putBackOnce_87 rfl ?_
        refine lv_lmul hx hb dX8_putBackOnce_88 ?_
        refine lv_aload_n hx hb dX8_putBackOnce_89 rfl (lv_at hl 0 rfl) ?_
        refine G_X8_told cx hV mk_2_17 dX8_putBackOnce_90 ?_
        refine G_X7_weights cx hV (by decide) mk_1_87 dX8_putBackOnce_93 ?_
        refine bd_e h (fun v15 hq h => ?_)
        refine k_X2_sum (by decide) hq cx hV mk_5_155 ⟨Nat.le_of_ble_eq_true rfl, Nat.le_of_ble_eq_true rfl⟩ ⟨Nat.zero_le _, Nat.zero_le _⟩ hl.1 (Nat.le_of_ble_eq_true rfl) dX8_putBackOnce_96 (fun H locs hV => ?_)
        refine lv_i2l (v := (Int32.toInt64 v15)) hx hb dX8_putBackOnce_99 rfl ?_
        refine lv_lmul hx hb dX8_putBackOnce_100 ?_
        refine lv_lmul hx hb dX8_putBackOnce_101 ?_
        refine bd_e h (fun σ16 hq h => ?_)
        refine P_X8_whole cx hV hq mk_2_13 dX8_putBackOnce_102 (fun H locs hV => ?_)
        have h1 := Option.some.inj h
        subst h1
        subst hQ
        exact r_vret cx hr hlk hV dX8_putBackOnce_105
  rw [hH, hlocs] at goal
  exact goal
theorem k_X8_putBackOnce {p : Program} {l : Launch} {e : Env} {R : Room} {s : State} {m : MethodId} {a : Array Value} {below : List Frame} {meth : Method} {c : Code} {H : Heap} {locs : List Loc} {cells slots : Nat} {Q : State → Prop} {cc : ByteArray} {own : String} {nL pc : Nat} {ls : Array Slot} {rest : List Value} {A : Nat → Prop} {E : EV} {X : va_W} {σ : St} {p1 : Int32} {σf : St} (h : x_X8_putBackOnce p1 σ = some σf) (cx : CallFix p m c cc nL s a TBL own) (hV : AtW E (wC E σ ++ X) A s H locs) {idx : Nat} (w1 : Cond.methodLink own idx yX8_putBackOnce ∈ TBL) (hR : (rm_X8_putBackOnce).frames + 1 ≤ R.frames ∧ 8 + (3 + 11) + (rm_X8_putBackOnce).locals ≤ R.locals) (hcs : cells ≤ R.cells ∧ slots ≤ R.slots) (hls : ls.size = nL) (hcat : (rest.map fun v => v.category).sum ≤ 8) (d : decode cc pc = .ok (.invokevirtual idx, 3)) (kk : ∀ (H1 : Heap) (locs1 : List Loc), AtW E (wC E σf ++ X) A s H1 locs1 → W p l e R s m a below meth c H1 locs1 cells slots Q (F0 m (pc + 3) ls (rest))) : W p l e R s m a below meth c H locs cells slots Q (F0 m pc ls (.int p1 :: .ref (eA E 97) :: rest)) :=
  r_callv (n := 1) (As := [.int p1]) (q0 := 97) (ci := 8) (qq := (RX8, TX8, 6)) (c_X8_putBackOnce h) wC_fst rfl rfl mk_5_139 mk_P_44 mk_1_7 mk_5_140 (by decide +kernel) rfl ⟨rfl, rfl⟩ cx hV w1 hR hcs hls rfl hcat d kk
def x_X8_putBack_L27 (p1 : Int32) (p2 : Int32) (u5 : Int32) (σ6 : St) : Option (Bool × (Int32 × St)) :=
  (if p2 ≤ u5 then
  some (false, (u5, σ6))
  else
  bd (x_X7_ofSleeve 0 p1 3 σ6) fun v7 =>
  bd (x_X8_putBackOnce v7 σ6) fun σ8 =>
  some (true, ((u5 + 1), σ8)))
def x_X8_putBack (p1 : Int32) (p2 : Int32) (σ : St) : Option St :=
  bd (x_X8_clearShares σ) fun σ1 =>
  bd (some (sL σ1 0 (1 : Int64))) fun σ2 =>
  bd (x_X2_at 15 p1 σ2) fun v3 =>
  bd (x_X8_give v3 (1 : Int64) σ2) fun σ4 =>
  bd2 (lp (fun v : (Int32 × St) => x_X8_putBack_L27 p1 p2 v.1 v.2) FU (0, σ4)) fun z9 σ10 =>
  some σ10
abbrev rm_X8_putBack : Room := { frames := 4, cells := 0, slots := 0, locals := 92 }
set_option maxHeartbeats 4000000 in
set_option maxRecDepth 100000 in
theorem c_X8_putBack {l : Launch} {E : EV} {X : va_W} {σ : St} {p1 : Int32} {p2 : Int32} {σf : St} (h : x_X8_putBack p1 p2 σ = some σf) : CM l yX8_putBack cX8_putBack 4 none rm_X8_putBack [.ref (eA E 97), .int p1, .int p2] E (wC E σ ++ X) (wC E σf ++ X) qV := by
  refine CM.start (by decide) (Nat.le_of_ble_eq_true rfl) (fun p e s m a below meth c A ls cx hr hlk hV hl => ?_)
  have cx : CallFix p m c cX8_putBack 4 s a TBL RX8 := cx
  have hx := cx.1
  have hb := cx.2.1
  have hl : lv_has ls 4 [(0, .ref (eA E 97)), (1, .int p1), (2, .int p2)] := hl
  generalize hQ : EQ E (wC E σf ++ X) qV A s a below = QQ
  obtain ⟨H, hH⟩ : ∃ H, H = s.heap := ⟨_, rfl⟩
  obtain ⟨locs, hlocs⟩ : ∃ z, z = ([] : List Loc) := ⟨_, rfl⟩
  have hV : AtW E (wC E σ ++ X) A s H locs := by rw [hH, hlocs]; exact hV
  have goal : W p l e rm_X8_putBack s m a below meth c H locs 0 0 QQ (F0 m 0 ls []) := by
    unfold x_X8_putBack at h
    refine lv_aload_n hx hb dX8_putBack_0 rfl (lv_at hl 0 rfl) ?_
    refine bd_e h (fun σ1 hq h => ?_)
    refine k_X8_clearShares hq cx hV mk_5_127 ⟨Nat.le_of_ble_eq_true rfl, Nat.le_of_ble_eq_true rfl⟩ ⟨Nat.zero_le _, Nat.zero_le _⟩ hl.1 (Nat.le_of_ble_eq_true rfl) dX8_putBack_1 (fun H locs hV => ?_)
    refine lv_aload_n hx hb dX8_putBack_4 rfl (lv_at hl 0 rfl) ?_
    refine lv_lconst (v := 1) hx hb dX8_putBack_5 (by decide) ?_
    refine bd_e h (fun σ2 hq h => ?_)
    refine P_X8_whole cx hV hq mk_2_13 dX8_putBack_6 (fun H locs hV => ?_)
    refine lv_aload_n hx hb dX8_putBack_9 rfl (lv_at hl 0 rfl) ?_
    refine lv_aload_n hx hb dX8_putBack_10 rfl (lv_at hl 0 rfl) ?_
    refine G_X8_stock cx hV mk_2_18 dX8_putBack_11 ?_
    refine G_X5_where cx hV (by decide) mk_1_122 dX8_putBack_14 ?_
    refine lv_iload_n hx hb dX8_putBack_17 rfl (lv_at hl 1 rfl) ?_
    refine bd_e h (fun v3 hq h => ?_)
    refine k_X2_at (by decide) hq cx hV mk_5_131 ⟨Nat.le_of_ble_eq_true rfl, Nat.le_of_ble_eq_true rfl⟩ ⟨Nat.zero_le _, Nat.zero_le _⟩ hl.1 (Nat.le_of_ble_eq_true rfl) dX8_putBack_18 (fun H locs hV => ?_)
    refine lv_lconst (v := 1) hx hb dX8_putBack_21 (by decide) ?_
    refine bd_e h (fun σ4 hq h => ?_)
    refine k_X8_give hq cx hV mk_5_132 ⟨Nat.le_of_ble_eq_true rfl, Nat.le_of_ble_eq_true rfl⟩ ⟨Nat.zero_le _, Nat.zero_le _⟩ hl.1 (Nat.le_of_ble_eq_true rfl) dX8_putBack_22 (fun H locs hV => ?_)
    refine lv_iconst (v := 0) hx hb dX8_putBack_25 (by decide) ?_
    refine lv_istore_n (lv' := [(3, .int 0), (0, .ref (eA E 97)), (1, .int p1), (2, .int p2)]) hx hb dX8_putBack_26 rfl hl (by decide) rfl (fun ls hl => ?_)
    refine bd2_e h (fun z9 σ10 ho h => ?_)
    refine (lp_rule (G := (fun v : (Int32 × St) => ∀ (H : Heap) (locs : List Loc) (ls : Array Slot), AtW E (wC E v.2 ++ X) A s H locs → lv_has ls 4 [(0, .ref (eA E 97)), (1, .int p1), (2, .int p2), (3, .int v.1)] → W p l e rm_X8_putBack s m a below meth c H locs 0 0 QQ (F0 m 27 ls []))) (K := (fun v : (Int32 × St) => ∀ (H : Heap) (locs : List Loc) (ls : Array Slot), AtW E (wC E v.2 ++ X) A s H locs → lv_has ls 4 [] → W p l e rm_X8_putBack s m a below meth c H locs 0 0 QQ (F0 m 51 ls []))) (fun v b1 y1 h hT1 hF1 => ?_) ho (fun H locs ls hV hl => ?_)) _ _ _ hV (lv_sub hl [1, 2, 3, 0] rfl)
    · obtain ⟨u5, σ6⟩ := v
      have h : x_X8_putBack_L27 p1 p2 u5 σ6 = some (b1, y1) := h
      intro H locs ls hV hl
      have hV : AtW E (wC E σ6 ++ X) A s H locs := hV
      have hl : lv_has ls 4 [(0, .ref (eA E 97)), (1, .int p1), (2, .int p2), (3, .int u5)] := hl
      unfold x_X8_putBack_L27 at h
      refine lv_iload_n hx hb dX8_putBack_27 rfl (lv_at hl 3 rfl) ?_
      refine lv_iload_n hx hb dX8_putBack_28 rfl (lv_at hl 2 rfl) ?_
      refine lv_icmp_ge (tgt := 51) hx hb dX8_putBack_29 (by decide) (fun hc => ?_) (fun hc => ?_)
      · have h := ifp hc h
        cases h
        exact hF1 rfl _ _ _ hV (lv_sub hl [] rfl)
      · have h := ifn hc h
        refine lv_aload_n hx hb dX8_putBack_32 rfl (lv_at hl 0 rfl) ?_
        refine lv_aload_n hx hb dX8_putBack_33 rfl (lv_at hl 0 rfl) ?_
        refine G_X8_told cx hV mk_2_17 dX8_putBack_34 ?_
        refine lv_iload_n hx hb dX8_putBack_37 rfl (lv_at hl 1 rfl) ?_
        refine lv_iconst (v := 3) hx hb dX8_putBack_38 (by decide) ?_
        refine bd_e h (fun v7 hq h => ?_)
        refine k_X7_ofSleeve (by decide) hq cx hV mk_5_136 ⟨Nat.le_of_ble_eq_true rfl, Nat.le_of_ble_eq_true rfl⟩ ⟨Nat.zero_le _, Nat.zero_le _⟩ hl.1 (Nat.le_of_ble_eq_true rfl) dX8_putBack_39 (fun H locs hV => ?_)
        refine bd_e h (fun σ8 hq h => ?_)
        refine k_X8_putBackOnce hq cx hV mk_5_137 ⟨Nat.le_of_ble_eq_true rfl, Nat.le_of_ble_eq_true rfl⟩ ⟨Nat.zero_le _, Nat.zero_le _⟩ hl.1 (Nat.le_of_ble_eq_true rfl) dX8_putBack_42 (fun H locs hV => ?_)
        refine lv_iinc (v := (u5 + 1)) (lv' := [(3, .int (u5 + 1)), (0, .ref (eA E 97)), (1, .int p1), (2, .int p2)]) hx hb dX8_putBack_45 hl (k := 3) rfl rfl (by decide) rfl (fun ls hl => ?_)
        refine lv_goto (tgt := 27) hx hb dX8_putBack_48 (by decide) ?_
        cases h
        exact hT1 rfl _ _ _ hV (lv_sub hl [1, 2, 3, 0] rfl)
    · have hV : AtW E (wC E σ10 ++ X) A s H locs := hV
      have hl : lv_has ls 4 [] := hl
      have h1 := Option.some.inj h
      subst h1
      subst hQ
      exact r_vret cx hr hlk hV dX8_putBack_51
  rw [hH, hlocs] at goal
  exact goal
theorem k_X8_putBack {p : Program} {l : Launch} {e : Env} {R : Room} {s : State} {m : MethodId} {a : Array Value} {below : List Frame} {meth : Method} {c : Code} {H : Heap} {locs : List Loc} {cells slots : Nat} {Q : State → Prop} {cc : ByteArray} {own : String} {nL pc : Nat} {ls : Array Slot} {rest : List Value} {A : Nat → Prop} {E : EV} {X : va_W} {σ : St} {p1 : Int32} {p2 : Int32} {σf : St} (h : x_X8_putBack p1 p2 σ = some σf) (cx : CallFix p m c cc nL s a TBL own) (hV : AtW E (wC E σ ++ X) A s H locs) {idx : Nat} (w1 : Cond.methodLink own idx yX8_putBack ∈ TBL) (hR : (rm_X8_putBack).frames + 1 ≤ R.frames ∧ 8 + (4 + 11) + (rm_X8_putBack).locals ≤ R.locals) (hcs : cells ≤ R.cells ∧ slots ≤ R.slots) (hls : ls.size = nL) (hcat : (rest.map fun v => v.category).sum ≤ 8) (d : decode cc pc = .ok (.invokevirtual idx, 3)) (kk : ∀ (H1 : Heap) (locs1 : List Loc), AtW E (wC E σf ++ X) A s H1 locs1 → W p l e R s m a below meth c H1 locs1 cells slots Q (F0 m (pc + 3) ls (rest))) : W p l e R s m a below meth c H locs cells slots Q (F0 m pc ls (.int p2 :: .int p1 :: .ref (eA E 97) :: rest)) :=
  r_callv (n := 2) (As := [.int p1, .int p2]) (q0 := 97) (ci := 8) (qq := (RX8, TX8, 6)) (c_X8_putBack h) wC_fst rfl rfl mk_5_124 mk_5_125 mk_1_7 mk_5_126 (by decide +kernel) rfl ⟨rfl, rfl⟩ cx hV w1 hR hcs hls rfl hcat d kk
def x_X8_reachedFrom_L44 (p1 : Int32) (σ : St) (u3 : Int32) (u4 : Int32) : Option (Bool × (Int32 × Int32)) :=
  (if (gI σ 0) ≤ u4 then
  some (false, (u3, u4))
  else
  bd (x_X9_hasBit p1 u4) fun v5 =>
  (if v5 = 0 then
  some (true, (u3, (u4 + 1)))
  else
  bd (x_X8_besideOrHere u4 (-1) σ) fun v6 =>
  bd (x_X8_besideOrHere u4 1 σ) fun v7 =>
  some (true, ((u3 ||| ((1 <<< (v6 &&& 31)) ||| (1 <<< (v7 &&& 31)))), (u4 + 1)))))
def x_X8_reachedFrom (p1 : Int32) (σ : St) : Option Int32 :=
  bd (x_X2_at 7 3 σ) fun v1 =>
  (if v1 ≤ 0 then
  bd (x_X2_at 7 1 σ) fun v2 =>
  (if v2 ≤ 0 then
  some p1
  else
  bd2 (lp (fun v : (Int32 × Int32) => x_X8_reachedFrom_L44 p1 σ v.1 v.2) FU (p1, 0)) fun z8 z9 =>
  some z8)
  else
  some ((1 <<< ((gI σ 0) &&& 31)) - 1))
abbrev rm_X8_reachedFrom : Room := { frames := 2, cells := 0, slots := 0, locals := 43 }
set_option maxHeartbeats 4000000 in
set_option maxRecDepth 100000 in
theorem c_X8_reachedFrom {l : Launch} {E : EV} {X : va_W} {σ : St} {p1 : Int32} {rv : Int32} (h : x_X8_reachedFrom p1 σ = some rv) : CM l yX8_reachedFrom cX8_reachedFrom 4 (some .int) rm_X8_reachedFrom [.ref (eA E 97), .int p1] E (wC E σ ++ X) (wC E σ ++ X) (qI rv) := by
  refine CM.start (by decide) (Nat.le_of_ble_eq_true rfl) (fun p e s m a below meth c A ls cx hr hlk hV hl => ?_)
  have cx : CallFix p m c cX8_reachedFrom 4 s a TBL RX8 := cx
  have hx := cx.1
  have hb := cx.2.1
  have hl : lv_has ls 4 [(0, .ref (eA E 97)), (1, .int p1)] := hl
  generalize hQ : EQ E (wC E σ ++ X) (qI rv) A s a below = QQ
  obtain ⟨H, hH⟩ : ∃ H, H = s.heap := ⟨_, rfl⟩
  obtain ⟨locs, hlocs⟩ : ∃ z, z = ([] : List Loc) := ⟨_, rfl⟩
  have hV : AtW E (wC E σ ++ X) A s H locs := by rw [hH, hlocs]; exact hV
  have goal : W p l e rm_X8_reachedFrom s m a below meth c H locs 0 0 QQ (F0 m 0 ls []) := by
    unfold x_X8_reachedFrom at h
    refine lv_aload_n hx hb dX8_reachedFrom_0 rfl (lv_at hl 0 rfl) ?_
    refine G_X8_told cx hV mk_2_17 dX8_reachedFrom_1 ?_
    refine G_X7_weights cx hV (by decide) mk_1_87 dX8_reachedFrom_4 ?_
    refine lv_iconst (v := 3) hx hb dX8_reachedFrom_7 (by decide) ?_
    refine bd_e h (fun v1 hq h => ?_)
    refine k_X2_at (by decide) hq cx hV mk_5_131 ⟨Nat.le_of_ble_eq_true rfl, Nat.le_of_ble_eq_true rfl⟩ ⟨Nat.zero_le _, Nat.zero_le _⟩ hl.1 (Nat.le_of_ble_eq_true rfl) dX8_reachedFrom_8 (fun H locs hV => ?_)
    refine lv_if_le (tgt := 26) hx hb dX8_reachedFrom_11 (by decide) (fun hc => ?_) (fun hc => ?_)
    · have h := ifp hc h
      refine lv_iload_n hx hb dX8_reachedFrom_26 rfl (lv_at hl 1 rfl) ?_
      refine lv_istore_n (lv' := [(2, .int p1), (0, .ref (eA E 97)), (1, .int p1)]) hx hb dX8_reachedFrom_27 rfl hl (by decide) rfl (fun ls hl => ?_)
      refine lv_aload_n hx hb dX8_reachedFrom_28 rfl (lv_at hl 1 rfl) ?_
      refine G_X8_told cx hV mk_2_17 dX8_reachedFrom_29 ?_
      refine G_X7_weights cx hV (by decide) mk_1_87 dX8_reachedFrom_32 ?_
      refine lv_iconst (v := 1) hx hb dX8_reachedFrom_35 (by decide) ?_
      refine bd_e h (fun v2 hq h => ?_)
      refine k_X2_at (by decide) hq cx hV mk_5_131 ⟨Nat.le_of_ble_eq_true rfl, Nat.le_of_ble_eq_true rfl⟩ ⟨Nat.zero_le _, Nat.zero_le _⟩ hl.1 (Nat.le_of_ble_eq_true rfl) dX8_reachedFrom_36 (fun H locs hV => ?_)
      refine lv_if_le (tgt := 89) hx hb dX8_reachedFrom_39 (by decide) (fun hc => ?_) (fun hc => ?_)
      · have h := ifp hc h
        refine lv_iload_n hx hb dX8_reachedFrom_89 rfl (lv_at hl 0 rfl) ?_
        have h1 := Option.some.inj h
        subst h1
        subst hQ
        exact r_ireti cx hr hlk hV dX8_reachedFrom_90
      · have h := ifn hc h
        refine lv_iconst (v := 0) hx hb dX8_reachedFrom_42 (by decide) ?_
        refine lv_istore_n (lv' := [(3, .int 0), (2, .int p1), (0, .ref (eA E 97)), (1, .int p1)]) hx hb dX8_reachedFrom_43 rfl hl (by decide) rfl (fun ls hl => ?_)
        refine bd2_e h (fun z8 z9 ho h => ?_)
        refine (lp_rule (G := (fun v : (Int32 × Int32) => ∀ (H : Heap) (locs : List Loc) (ls : Array Slot), AtW E (wC E σ ++ X) A s H locs → lv_has ls 4 [(0, .ref (eA E 97)), (1, .int p1), (2, .int v.1), (3, .int v.2)] → W p l e rm_X8_reachedFrom s m a below meth c H locs 0 0 QQ (F0 m 44 ls []))) (K := (fun v : (Int32 × Int32) => ∀ (H : Heap) (locs : List Loc) (ls : Array Slot), AtW E (wC E σ ++ X) A s H locs → lv_has ls 4 [(2, .int v.1)] → W p l e rm_X8_reachedFrom s m a below meth c H locs 0 0 QQ (F0 m 89 ls []))) (fun v b1 y1 h hT1 hF1 => ?_) ho (fun H locs ls hV hl => ?_)) _ _ _ hV (lv_sub hl [2, 3, 1, 0] rfl)
        · obtain ⟨u3, u4⟩ := v
          have h : x_X8_reachedFrom_L44 p1 σ u3 u4 = some (b1, y1) := h
          intro H locs ls hV hl
          have hV : AtW E (wC E σ ++ X) A s H locs := hV
          have hl : lv_has ls 4 [(0, .ref (eA E 97)), (1, .int p1), (2, .int u3), (3, .int u4)] := hl
          unfold x_X8_reachedFrom_L44 at h
          refine lv_iload_n hx hb dX8_reachedFrom_44 rfl (lv_at hl 3 rfl) ?_
          refine lv_aload_n hx hb dX8_reachedFrom_45 rfl (lv_at hl 0 rfl) ?_
          refine G_X8_told cx hV mk_2_17 dX8_reachedFrom_46 ?_
          refine G_X7_crates cx hV (by decide) mk_1_55 dX8_reachedFrom_49 ?_
          refine lv_icmp_ge (tgt := 89) hx hb dX8_reachedFrom_52 (by decide) (fun hc => ?_) (fun hc => ?_)
          · have h := ifp hc h
            cases h
            exact hF1 rfl _ _ _ hV (lv_sub hl [2] rfl)
          · have h := ifn hc h
            refine lv_iload_n hx hb dX8_reachedFrom_55 rfl (lv_at hl 1 rfl) ?_
            refine lv_iload_n hx hb dX8_reachedFrom_56 rfl (lv_at hl 3 rfl) ?_
            refine bd_e h (fun v5 hq h => ?_)
            refine k_X9_hasBitN (host := RX9) hq cx hV (List.mem_of_getElem? (i := 7) rfl) ⟨Nat.le_of_ble_eq_true rfl, Nat.le_of_ble_eq_true rfl⟩ ⟨Nat.zero_le _, Nat.zero_le _⟩ hl.1 (Nat.le_of_ble_eq_true rfl) dX8_reachedFrom_57 (fun H locs hV => ?_)
            refine lv_if_eq (tgt := 83) hx hb dX8_reachedFrom_60 (by decide) (fun hc => ?_) (fun hc => ?_)
            · have h := ifp hc h
              refine lv_iinc (v := (u4 + 1)) (lv' := [(3, .int (u4 + 1)), (0, .ref (eA E 97)), (1, .int p1), (2, .int u3)]) hx hb dX8_reachedFrom_83 hl (k := 3) rfl rfl (by decide) rfl (fun ls hl => ?_)
              refine lv_goto (tgt := 44) hx hb dX8_reachedFrom_86 (by decide) ?_
              cases h
              exact hT1 rfl _ _ _ hV (lv_sub hl [1, 2, 3, 0] rfl)
            · have h := ifn hc h
              refine lv_iload_n hx hb dX8_reachedFrom_63 rfl (lv_at hl 2 rfl) ?_
              refine lv_iconst (v := 1) hx hb dX8_reachedFrom_64 (by decide) ?_
              refine lv_aload_n hx hb dX8_reachedFrom_65 rfl (lv_at hl 0 rfl) ?_
              refine lv_iload_n hx hb dX8_reachedFrom_66 rfl (lv_at hl 3 rfl) ?_
              refine lv_iconst (v := (-1)) hx hb dX8_reachedFrom_67 (by decide) ?_
              refine bd_e h (fun v6 hq h => ?_)
              refine k_X8_besideOrHere hq cx hV mk_5_150 ⟨Nat.le_of_ble_eq_true rfl, Nat.le_of_ble_eq_true rfl⟩ ⟨Nat.zero_le _, Nat.zero_le _⟩ hl.1 (Nat.le_of_ble_eq_true rfl) dX8_reachedFrom_68 (fun H locs hV => ?_)
              refine lv_ishl hx hb dX8_reachedFrom_71 ?_
              refine lv_iconst (v := 1) hx hb dX8_reachedFrom_72 (by decide) ?_
              refine lv_aload_n hx hb dX8_reachedFrom_73 rfl (lv_at hl 0 rfl) ?_
              refine lv_iload_n hx hb dX8_reachedFrom_74 rfl (lv_at hl 3 rfl) ?_
              refine lv_iconst (v := 1) hx hb dX8_reachedFrom_75 (by decide) ?_
              refine bd_e h (fun v7 hq h => ?_)
              refine k_X8_besideOrHere hq cx hV mk_5_150 ⟨Nat.le_of_ble_eq_true rfl, Nat.le_of_ble_eq_true rfl⟩ ⟨Nat.zero_le _, Nat.zero_le _⟩ hl.1 (Nat.le_of_ble_eq_true rfl) dX8_reachedFrom_76 (fun H locs hV => ?_)
              refine lv_ishl hx hb dX8_reachedFrom_79 ?_
              refine lv_ior hx hb dX8_reachedFrom_80 ?_
              refine lv_ior hx hb dX8_reachedFrom_81 ?_
              refine lv_istore_n (lv' := [(2, .int (u3 ||| ((1 <<< (v6 &&& 31)) ||| (1 <<< (v7 &&& 31))))), (0, .ref (eA E 97)), (1, .int p1), (3, .int u4)]) hx hb dX8_reachedFrom_82 rfl hl (by decide) rfl (fun ls hl => ?_)
              refine lv_iinc (v := (u4 + 1)) (lv' := [(3, .int (u4 + 1)), (2, .int (u3 ||| ((1 <<< (v6 &&& 31)) ||| (1 <<< (v7 &&& 31))))), (0, .ref (eA E 97)), (1, .int p1)]) hx hb dX8_reachedFrom_83 hl (k := 3) rfl rfl (by decide) rfl (fun ls hl => ?_)
              refine lv_goto (tgt := 44) hx hb dX8_reachedFrom_86 (by decide) ?_
              cases h
              exact hT1 rfl _ _ _ hV (lv_sub hl [2, 3, 1, 0] rfl)
        · have hV : AtW E (wC E σ ++ X) A s H locs := hV
          have hl : lv_has ls 4 [(2, .int z8)] := hl
          refine lv_iload_n hx hb dX8_reachedFrom_89 rfl (lv_at hl 0 rfl) ?_
          have h1 := Option.some.inj h
          subst h1
          subst hQ
          exact r_ireti cx hr hlk hV dX8_reachedFrom_90
    · have h := ifn hc h
      refine lv_iconst (v := 1) hx hb dX8_reachedFrom_14 (by decide) ?_
      refine lv_aload_n hx hb dX8_reachedFrom_15 rfl (lv_at hl 0 rfl) ?_
      refine G_X8_told cx hV mk_2_17 dX8_reachedFrom_16 ?_
      refine G_X7_crates cx hV (by decide) mk_1_55 dX8_reachedFrom_19 ?_
      refine lv_ishl hx hb dX8_reachedFrom_22 ?_
      refine lv_iconst (v := 1) hx hb dX8_reachedFrom_23 (by decide) ?_
      refine lv_isub hx hb dX8_reachedFrom_24 ?_
      have h1 := Option.some.inj h
      subst h1
      subst hQ
      exact r_ireti cx hr hlk hV dX8_reachedFrom_25
  rw [hH, hlocs] at goal
  exact goal
theorem k_X8_reachedFrom {p : Program} {l : Launch} {e : Env} {R : Room} {s : State} {m : MethodId} {a : Array Value} {below : List Frame} {meth : Method} {c : Code} {H : Heap} {locs : List Loc} {cells slots : Nat} {Q : State → Prop} {cc : ByteArray} {own : String} {nL pc : Nat} {ls : Array Slot} {rest : List Value} {A : Nat → Prop} {E : EV} {X : va_W} {σ : St} {p1 : Int32} {rv : Int32} (h : x_X8_reachedFrom p1 σ = some rv) (cx : CallFix p m c cc nL s a TBL own) (hV : AtW E (wC E σ ++ X) A s H locs) {idx : Nat} (w1 : Cond.methodLink own idx yX8_reachedFrom ∈ TBL) (hR : (rm_X8_reachedFrom).frames + 1 ≤ R.frames ∧ 8 + (4 + 11) + (rm_X8_reachedFrom).locals ≤ R.locals) (hcs : cells ≤ R.cells ∧ slots ≤ R.slots) (hls : ls.size = nL) (hcat : (rest.map fun v => v.category).sum ≤ 8) (d : decode cc pc = .ok (.invokevirtual idx, 3)) (kk : ∀ (H1 : Heap) (locs1 : List Loc), AtW E (wC E σ ++ X) A s H1 locs1 → W p l e R s m a below meth c H1 locs1 cells slots Q (F0 m (pc + 3) ls (.int rv :: rest))) : W p l e R s m a below meth c H locs cells slots Q (F0 m pc ls (.int p1 :: .ref (eA E 97) :: rest)) :=
  r_calli (n := 1) (As := [.int p1]) (q0 := 97) (ci := 8) (qq := (RX8, TX8, 6)) (c_X8_reachedFrom h) rfl rfl rfl mk_5_176 mk_P_47 mk_1_7 mk_5_177 (by decide +kernel) rfl ⟨rfl, rfl⟩ cx hV w1 hR hcs hls rfl hcat d kk
def x_X8_canBe_L15 (p1 : Int32) (p2 : Int32) (σ : St) (u2 : Int32) (u3 : Int32) : Option (Bool × (Int32 × Int32)) :=
  (if p2 ≤ u3 then
  some (false, (u2, u3))
  else
  bd (x_X8_reachedFrom u2 σ) fun v4 =>
  some (true, (v4, (u3 + 1))))
def x_X8_canBe (p1 : Int32) (p2 : Int32) (σ : St) : Option Int32 :=
  bd (x_X7_ofSleeve 0 p1 3 σ) fun v1 =>
  bd2 (lp (fun v : (Int32 × Int32) => x_X8_canBe_L15 p1 p2 σ v.1 v.2) FU ((1 <<< (v1 &&& 31)), 0)) fun z5 z6 =>
  bd (x_X2_at 15 p1 σ) fun v7 =>
  bd (x_X9_hasBit z5 v7) fun v8 =>
  bd (bz v8) fun v9 =>
  some v9
abbrev rm_X8_canBe : Room := { frames := 3, cells := 0, slots := 0, locals := 66 }
set_option maxHeartbeats 4000000 in
set_option maxRecDepth 100000 in
theorem c_X8_canBe {l : Launch} {E : EV} {X : va_W} {σ : St} {p1 : Int32} {p2 : Int32} {rv : Int32} (h : x_X8_canBe p1 p2 σ = some rv) : CM l yX8_canBe cX8_canBe 5 (some .boolean) rm_X8_canBe [.ref (eA E 97), .int p1, .int p2] E (wC E σ ++ X) (wC E σ ++ X) (qI rv) := by
  refine CM.start (by decide) (Nat.le_of_ble_eq_true rfl) (fun p e s m a below meth c A ls cx hr hlk hV hl => ?_)
  have cx : CallFix p m c cX8_canBe 5 s a TBL RX8 := cx
  have hx := cx.1
  have hb := cx.2.1
  have hl : lv_has ls 5 [(0, .ref (eA E 97)), (1, .int p1), (2, .int p2)] := hl
  generalize hQ : EQ E (wC E σ ++ X) (qI rv) A s a below = QQ
  obtain ⟨H, hH⟩ : ∃ H, H = s.heap := ⟨_, rfl⟩
  obtain ⟨locs, hlocs⟩ : ∃ z, z = ([] : List Loc) := ⟨_, rfl⟩
  have hV : AtW E (wC E σ ++ X) A s H locs := by rw [hH, hlocs]; exact hV
  have goal : W p l e rm_X8_canBe s m a below meth c H locs 0 0 QQ (F0 m 0 ls []) := by
    unfold x_X8_canBe at h
    refine lv_iconst (v := 1) hx hb dX8_canBe_0 (by decide) ?_
    refine lv_aload_n hx hb dX8_canBe_1 rfl (lv_at hl 0 rfl) ?_
    refine G_X8_told cx hV mk_2_17 dX8_canBe_2 ?_
    refine lv_iload_n hx hb dX8_canBe_5 rfl (lv_at hl 1 rfl) ?_
    refine lv_iconst (v := 3) hx hb dX8_canBe_6 (by decide) ?_
    refine bd_e h (fun v1 hq h => ?_)
    refine k_X7_ofSleeve (by decide) hq cx hV mk_5_136 ⟨Nat.le_of_ble_eq_true rfl, Nat.le_of_ble_eq_true rfl⟩ ⟨Nat.zero_le _, Nat.zero_le _⟩ hl.1 (Nat.le_of_ble_eq_true rfl) dX8_canBe_7 (fun H locs hV => ?_)
    refine lv_ishl hx hb dX8_canBe_10 ?_
    refine lv_istore_n (lv' := [(3, .int (1 <<< (v1 &&& 31))), (0, .ref (eA E 97)), (1, .int p1), (2, .int p2)]) hx hb dX8_canBe_11 rfl hl (by decide) rfl (fun ls hl => ?_)
    refine lv_iconst (v := 0) hx hb dX8_canBe_12 (by decide) ?_
    refine lv_istore (lv' := [(4, .int 0), (3, .int (1 <<< (v1 &&& 31))), (0, .ref (eA E 97)), (1, .int p1), (2, .int p2)]) hx hb dX8_canBe_13 hl (by decide) rfl (fun ls hl => ?_)
    refine bd2_e h (fun z5 z6 ho h => ?_)
    refine (lp_rule (G := (fun v : (Int32 × Int32) => ∀ (H : Heap) (locs : List Loc) (ls : Array Slot), AtW E (wC E σ ++ X) A s H locs → lv_has ls 5 [(0, .ref (eA E 97)), (1, .int p1), (2, .int p2), (3, .int v.1), (4, .int v.2)] → W p l e rm_X8_canBe s m a below meth c H locs 0 0 QQ (F0 m 15 ls []))) (K := (fun v : (Int32 × Int32) => ∀ (H : Heap) (locs : List Loc) (ls : Array Slot), AtW E (wC E σ ++ X) A s H locs → lv_has ls 5 [(0, .ref (eA E 97)), (1, .int p1), (3, .int v.1)] → W p l e rm_X8_canBe s m a below meth c H locs 0 0 QQ (F0 m 33 ls []))) (fun v b1 y1 h hT1 hF1 => ?_) ho (fun H locs ls hV hl => ?_)) _ _ _ hV (lv_sub hl [2, 3, 4, 1, 0] rfl)
    · obtain ⟨u2, u3⟩ := v
      have h : x_X8_canBe_L15 p1 p2 σ u2 u3 = some (b1, y1) := h
      intro H locs ls hV hl
      have hV : AtW E (wC E σ ++ X) A s H locs := hV
      have hl : lv_has ls 5 [(0, .ref (eA E 97)), (1, .int p1), (2, .int p2), (3, .int u2), (4, .int u3)] := hl
      unfold x_X8_canBe_L15 at h
      refine lv_iload hx hb dX8_canBe_15 (lv_at hl 4 rfl) ?_
      refine lv_iload_n hx hb dX8_canBe_17 rfl (lv_at hl 2 rfl) ?_
      refine lv_icmp_ge (tgt := 33) hx hb dX8_canBe_18 (by decide) (fun hc => ?_) (fun hc => ?_)
      · have h := ifp hc h
        cases h
        exact hF1 rfl _ _ _ hV (lv_sub hl [0, 1, 3] rfl)
      · have h := ifn hc h
        refine lv_aload_n hx hb dX8_canBe_21 rfl (lv_at hl 0 rfl) ?_
        refine lv_iload_n hx hb dX8_canBe_22 rfl (lv_at hl 3 rfl) ?_
        refine bd_e h (fun v4 hq h => ?_)
        refine k_X8_reachedFrom hq cx hV mk_5_174 ⟨Nat.le_of_ble_eq_true rfl, Nat.le_of_ble_eq_true rfl⟩ ⟨Nat.zero_le _, Nat.zero_le _⟩ hl.1 (Nat.le_of_ble_eq_true rfl) dX8_canBe_23 (fun H locs hV => ?_)
        refine lv_istore_n (lv' := [(3, .int v4), (0, .ref (eA E 97)), (1, .int p1), (2, .int p2), (4, .int u3)]) hx hb dX8_canBe_26 rfl hl (by decide) rfl (fun ls hl => ?_)
        refine lv_iinc (v := (u3 + 1)) (lv' := [(4, .int (u3 + 1)), (3, .int v4), (0, .ref (eA E 97)), (1, .int p1), (2, .int p2)]) hx hb dX8_canBe_27 hl (k := 4) rfl rfl (by decide) rfl (fun ls hl => ?_)
        refine lv_goto (tgt := 15) hx hb dX8_canBe_30 (by decide) ?_
        cases h
        exact hT1 rfl _ _ _ hV (lv_sub hl [2, 3, 4, 1, 0] rfl)
    · have hV : AtW E (wC E σ ++ X) A s H locs := hV
      have hl : lv_has ls 5 [(0, .ref (eA E 97)), (1, .int p1), (3, .int z5)] := hl
      refine lv_iload_n hx hb dX8_canBe_33 rfl (lv_at hl 2 rfl) ?_
      refine lv_aload_n hx hb dX8_canBe_34 rfl (lv_at hl 0 rfl) ?_
      refine G_X8_stock cx hV mk_2_18 dX8_canBe_35 ?_
      refine G_X5_where cx hV (by decide) mk_1_122 dX8_canBe_38 ?_
      refine lv_iload_n hx hb dX8_canBe_41 rfl (lv_at hl 1 rfl) ?_
      refine bd_e h (fun v7 hq h => ?_)
      refine k_X2_at (by decide) hq cx hV mk_5_131 ⟨Nat.le_of_ble_eq_true rfl, Nat.le_of_ble_eq_true rfl⟩ ⟨Nat.zero_le _, Nat.zero_le _⟩ hl.1 (Nat.le_of_ble_eq_true rfl) dX8_canBe_42 (fun H locs hV => ?_)
      refine bd_e h (fun v8 hq h => ?_)
      refine k_X9_hasBitN (host := RX9) hq cx hV (List.mem_of_getElem? (i := 7) rfl) ⟨Nat.le_of_ble_eq_true rfl, Nat.le_of_ble_eq_true rfl⟩ ⟨Nat.zero_le _, Nat.zero_le _⟩ hl.1 (Nat.le_of_ble_eq_true rfl) dX8_canBe_45 (fun H locs hV => ?_)
      refine bd_e h (fun v9 hq h => ?_)
      obtain ⟨hq, hz⟩ := bz_e hq
      rw [hq]
      have h1 := Option.some.inj h
      subst h1
      subst hQ
      exact r_zreti cx hr hlk hV hz dX8_canBe_48
  rw [hH, hlocs] at goal
  exact goal
theorem k_X8_canBe {p : Program} {l : Launch} {e : Env} {R : Room} {s : State} {m : MethodId} {a : Array Value} {below : List Frame} {meth : Method} {c : Code} {H : Heap} {locs : List Loc} {cells slots : Nat} {Q : State → Prop} {cc : ByteArray} {own : String} {nL pc : Nat} {ls : Array Slot} {rest : List Value} {A : Nat → Prop} {E : EV} {X : va_W} {σ : St} {p1 : Int32} {p2 : Int32} {rv : Int32} (h : x_X8_canBe p1 p2 σ = some rv) (cx : CallFix p m c cc nL s a TBL own) (hV : AtW E (wC E σ ++ X) A s H locs) {idx : Nat} (w1 : Cond.methodLink own idx yX8_canBe ∈ TBL) (hR : (rm_X8_canBe).frames + 1 ≤ R.frames ∧ 8 + (5 + 11) + (rm_X8_canBe).locals ≤ R.locals) (hcs : cells ≤ R.cells ∧ slots ≤ R.slots) (hls : ls.size = nL) (hcat : (rest.map fun v => v.category).sum ≤ 8) (d : decode cc pc = .ok (.invokevirtual idx, 3)) (kk : ∀ (H1 : Heap) (locs1 : List Loc), AtW E (wC E σ ++ X) A s H1 locs1 → W p l e R s m a below meth c H1 locs1 cells slots Q (F0 m (pc + 3) ls (.int rv :: rest))) : W p l e R s m a below meth c H locs cells slots Q (F0 m pc ls (.int p2 :: .int p1 :: .ref (eA E 97) :: rest)) :=
  r_calli (n := 2) (As := [.int p1, .int p2]) (q0 := 97) (ci := 8) (qq := (RX8, TX8, 6)) (c_X8_canBe h) rfl rfl rfl mk_5_171 mk_5_172 mk_1_7 mk_5_173 (by decide +kernel) rfl ⟨rfl, rfl⟩ cx hV w1 hR hcs hls rfl hcat d kk
def x_X8_secondsOf (p1 : Int32) (p2 : Int32) (σ : St) : Option Int32 :=
  bd (x_X5_size 0 p1 σ) fun v1 =>
  bd (x_X9_roundedUp (v1 + 1) p2) fun v2 =>
  some v2
abbrev rm_X8_secondsOf : Room := { frames := 2, cells := 0, slots := 0, locals := 44 }
set_option maxHeartbeats 4000000 in
set_option maxRecDepth 100000 in
theorem c_X8_secondsOf {l : Launch} {E : EV} {X : va_W} {σ : St} {p1 : Int32} {p2 : Int32} {rv : Int32} (h : x_X8_secondsOf p1 p2 σ = some rv) : CM l yX8_secondsOf cX8_secondsOf 3 (some .int) rm_X8_secondsOf [.ref (eA E 97), .int p1, .int p2] E (wC E σ ++ X) (wC E σ ++ X) (qI rv) := by
  refine CM.start (by decide) (Nat.le_of_ble_eq_true rfl) (fun p e s m a below meth c A ls cx hr hlk hV hl => ?_)
  have cx : CallFix p m c cX8_secondsOf 3 s a TBL RX8 := cx
  have hx := cx.1
  have hb := cx.2.1
  have hl : lv_has ls 3 [(0, .ref (eA E 97)), (1, .int p1), (2, .int p2)] := hl
  generalize hQ : EQ E (wC E σ ++ X) (qI rv) A s a below = QQ
  obtain ⟨H, hH⟩ : ∃ H, H = s.heap := ⟨_, rfl⟩
  obtain ⟨locs, hlocs⟩ : ∃ z, z = ([] : List Loc) := ⟨_, rfl⟩
  have hV : AtW E (wC E σ ++ X) A s H locs := by rw [hH, hlocs]; exact hV
  have goal : W p l e rm_X8_secondsOf s m a below meth c H locs 0 0 QQ (F0 m 0 ls []) := by
    unfold x_X8_secondsOf at h
    refine lv_aload_n hx hb dX8_secondsOf_0 rfl (lv_at hl 0 rfl) ?_
    refine G_X8_stock cx hV mk_2_18 dX8_secondsOf_1 ?_
    refine lv_iload_n hx hb dX8_secondsOf_4 rfl (lv_at hl 1 rfl) ?_
    refine bd_e h (fun v1 hq h => ?_)
    refine k_X5_size (by decide) hq cx hV mk_5_207 ⟨Nat.le_of_ble_eq_true rfl, Nat.le_of_ble_eq_true rfl⟩ ⟨Nat.zero_le _, Nat.zero_le _⟩ hl.1 (Nat.le_of_ble_eq_true rfl) dX8_secondsOf_5 (fun H locs hV => ?_)
    refine lv_iconst (v := 1) hx hb dX8_secondsOf_8 (by decide) ?_
    refine lv_iadd hx hb dX8_secondsOf_9 ?_
    refine lv_iload_n hx hb dX8_secondsOf_10 rfl (lv_at hl 2 rfl) ?_
    refine bd_e h (fun v2 hq h => ?_)
    refine k_X9_roundedUpN (host := RX9) hq cx hV (List.mem_of_getElem? (i := 8) rfl) ⟨Nat.le_of_ble_eq_true rfl, Nat.le_of_ble_eq_true rfl⟩ ⟨Nat.zero_le _, Nat.zero_le _⟩ hl.1 (Nat.le_of_ble_eq_true rfl) dX8_secondsOf_11 (fun H locs hV => ?_)
    have h1 := Option.some.inj h
    subst h1
    subst hQ
    exact r_ireti cx hr hlk hV dX8_secondsOf_14
  rw [hH, hlocs] at goal
  exact goal
theorem k_X8_secondsOf {p : Program} {l : Launch} {e : Env} {R : Room} {s : State} {m : MethodId} {a : Array Value} {below : List Frame} {meth : Method} {c : Code} {H : Heap} {locs : List Loc} {cells slots : Nat} {Q : State → Prop} {cc : ByteArray} {own : String} {nL pc : Nat} {ls : Array Slot} {rest : List Value} {A : Nat → Prop} {E : EV} {X : va_W} {σ : St} {p1 : Int32} {p2 : Int32} {rv : Int32} (h : x_X8_secondsOf p1 p2 σ = some rv) (cx : CallFix p m c cc nL s a TBL own) (hV : AtW E (wC E σ ++ X) A s H locs) {idx : Nat} (w1 : Cond.methodLink own idx yX8_secondsOf ∈ TBL) (hR : (rm_X8_secondsOf).frames + 1 ≤ R.frames ∧ 8 + (3 + 11) + (rm_X8_secondsOf).locals ≤ R.locals) (hcs : cells ≤ R.cells ∧ slots ≤ R.slots) (hls : ls.size = nL) (hcat : (rest.map fun v => v.category).sum ≤ 8) (d : decode cc pc = .ok (.invokevirtual idx, 3)) (kk : ∀ (H1 : Heap) (locs1 : List Loc), AtW E (wC E σ ++ X) A s H1 locs1 → W p l e R s m a below meth c H1 locs1 cells slots Q (F0 m (pc + 3) ls (.int rv :: rest))) : W p l e R s m a below meth c H locs cells slots Q (F0 m pc ls (.int p2 :: .int p1 :: .ref (eA E 97) :: rest)) :=
  r_calli (n := 2) (As := [.int p1, .int p2]) (q0 := 97) (ci := 8) (qq := (RX8, TX8, 6)) (c_X8_secondsOf h) rfl rfl rfl mk_5_205 mk_P_51 mk_1_7 mk_5_206 (by decide +kernel) rfl ⟨rfl, rfl⟩ cx hV w1 hR hcs hls rfl hcat d kk
def x_X8_isAhead (p1 : Int32) (p2 : Int32) (p3 : Int32) (σ : St) : Option Int32 :=
  bd (x_X8_share p1 σ) fun v1 =>
  bd (x_X8_secondsOf p2 p3 σ) fun v2 =>
  bd (x_X8_share p2 σ) fun v3 =>
  bd (x_X8_secondsOf p1 p3 σ) fun v4 =>
  (if (lg_cmp (v1 * (Int32.toInt64 v2)) (v3 * (Int32.toInt64 v4))) ≤ 0 then
  some 0
  else
  some 1)
abbrev rm_X8_isAhead : Room := { frames := 3, cells := 0, slots := 0, locals := 66 }
set_option maxHeartbeats 4000000 in
set_option maxRecDepth 100000 in
theorem c_X8_isAhead {l : Launch} {E : EV} {X : va_W} {σ : St} {p1 : Int32} {p2 : Int32} {p3 : Int32} {rv : Int32} (h : x_X8_isAhead p1 p2 p3 σ = some rv) : CM l yX8_isAhead cX8_isAhead 4 (some .boolean) rm_X8_isAhead [.ref (eA E 97), .int p1, .int p2, .int p3] E (wC E σ ++ X) (wC E σ ++ X) (qI rv) := by
  refine CM.start (by decide) (Nat.le_of_ble_eq_true rfl) (fun p e s m a below meth c A ls cx hr hlk hV hl => ?_)
  have cx : CallFix p m c cX8_isAhead 4 s a TBL RX8 := cx
  have hx := cx.1
  have hb := cx.2.1
  have hl : lv_has ls 4 [(0, .ref (eA E 97)), (1, .int p1), (2, .int p2), (3, .int p3)] := hl
  generalize hQ : EQ E (wC E σ ++ X) (qI rv) A s a below = QQ
  obtain ⟨H, hH⟩ : ∃ H, H = s.heap := ⟨_, rfl⟩
  obtain ⟨locs, hlocs⟩ : ∃ z, z = ([] : List Loc) := ⟨_, rfl⟩
  have hV : AtW E (wC E σ ++ X) A s H locs := by rw [hH, hlocs]; exact hV
  have goal : W p l e rm_X8_isAhead s m a below meth c H locs 0 0 QQ (F0 m 0 ls []) := by
    unfold x_X8_isAhead at h
    refine lv_aload_n hx hb dX8_isAhead_0 rfl (lv_at hl 0 rfl) ?_
    refine lv_iload_n hx hb dX8_isAhead_1 rfl (lv_at hl 1 rfl) ?_
    refine bd_e h (fun v1 hq h => ?_)
    refine k_X8_share hq cx hV mk_5_141 ⟨Nat.le_of_ble_eq_true rfl, Nat.le_of_ble_eq_true rfl⟩ ⟨Nat.zero_le _, Nat.zero_le _⟩ hl.1 (Nat.le_of_ble_eq_true rfl) dX8_isAhead_2 (fun H locs hV => ?_)
    refine lv_aload_n hx hb dX8_isAhead_5 rfl (lv_at hl 0 rfl) ?_
    refine lv_iload_n hx hb dX8_isAhead_6 rfl (lv_at hl 2 rfl) ?_
    refine lv_iload_n hx hb dX8_isAhead_7 rfl (lv_at hl 3 rfl) ?_
    refine bd_e h (fun v2 hq h => ?_)
    refine k_X8_secondsOf hq cx hV mk_5_203 ⟨Nat.le_of_ble_eq_true rfl, Nat.le_of_ble_eq_true rfl⟩ ⟨Nat.zero_le _, Nat.zero_le _⟩ hl.1 (Nat.le_of_ble_eq_true rfl) dX8_isAhead_8 (fun H locs hV => ?_)
    refine lv_i2l (v := (Int32.toInt64 v2)) hx hb dX8_isAhead_11 rfl ?_
    refine lv_lmul hx hb dX8_isAhead_12 ?_
    refine lv_aload_n hx hb dX8_isAhead_13 rfl (lv_at hl 0 rfl) ?_
    refine lv_iload_n hx hb dX8_isAhead_14 rfl (lv_at hl 2 rfl) ?_
    refine bd_e h (fun v3 hq h => ?_)
    refine k_X8_share hq cx hV mk_5_141 ⟨Nat.le_of_ble_eq_true rfl, Nat.le_of_ble_eq_true rfl⟩ ⟨Nat.zero_le _, Nat.zero_le _⟩ hl.1 (Nat.le_of_ble_eq_true rfl) dX8_isAhead_15 (fun H locs hV => ?_)
    refine lv_aload_n hx hb dX8_isAhead_18 rfl (lv_at hl 0 rfl) ?_
    refine lv_iload_n hx hb dX8_isAhead_19 rfl (lv_at hl 1 rfl) ?_
    refine lv_iload_n hx hb dX8_isAhead_20 rfl (lv_at hl 3 rfl) ?_
    refine bd_e h (fun v4 hq h => ?_)
    refine k_X8_secondsOf hq cx hV mk_5_203 ⟨Nat.le_of_ble_eq_true rfl, Nat.le_of_ble_eq_true rfl⟩ ⟨Nat.zero_le _, Nat.zero_le _⟩ hl.1 (Nat.le_of_ble_eq_true rfl) dX8_isAhead_21 (fun H locs hV => ?_)
    refine lv_i2l (v := (Int32.toInt64 v4)) hx hb dX8_isAhead_24 rfl ?_
    refine lv_lmul hx hb dX8_isAhead_25 ?_
    refine W.lcmp hx hb dX8_isAhead_26 ?_
    refine lv_if_le (tgt := 34) hx hb dX8_isAhead_27 (by decide) (fun hc => ?_) (fun hc => ?_)
    · have h := ifp hc h
      refine lv_iconst (v := 0) hx hb dX8_isAhead_34 (by decide) ?_
      have h1 := Option.some.inj h
      subst h1
      subst hQ
      exact r_zreti cx hr hlk hV (Or.inl rfl) dX8_isAhead_35
    · have h := ifn hc h
      refine lv_iconst (v := 1) hx hb dX8_isAhead_30 (by decide) ?_
      refine lv_goto (tgt := 35) hx hb dX8_isAhead_31 (by decide) ?_
      have h1 := Option.some.inj h
      subst h1
      subst hQ
      exact r_zreti cx hr hlk hV (Or.inr rfl) dX8_isAhead_35
  rw [hH, hlocs] at goal
  exact goal
theorem k_X8_isAhead {p : Program} {l : Launch} {e : Env} {R : Room} {s : State} {m : MethodId} {a : Array Value} {below : List Frame} {meth : Method} {c : Code} {H : Heap} {locs : List Loc} {cells slots : Nat} {Q : State → Prop} {cc : ByteArray} {own : String} {nL pc : Nat} {ls : Array Slot} {rest : List Value} {A : Nat → Prop} {E : EV} {X : va_W} {σ : St} {p1 : Int32} {p2 : Int32} {p3 : Int32} {rv : Int32} (h : x_X8_isAhead p1 p2 p3 σ = some rv) (cx : CallFix p m c cc nL s a TBL own) (hV : AtW E (wC E σ ++ X) A s H locs) {idx : Nat} (w1 : Cond.methodLink own idx yX8_isAhead ∈ TBL) (hR : (rm_X8_isAhead).frames + 1 ≤ R.frames ∧ 8 + (4 + 11) + (rm_X8_isAhead).locals ≤ R.locals) (hcs : cells ≤ R.cells ∧ slots ≤ R.slots) (hls : ls.size = nL) (hcat : (rest.map fun v => v.category).sum ≤ 8) (d : decode cc pc = .ok (.invokevirtual idx, 3)) (kk : ∀ (H1 : Heap) (locs1 : List Loc), AtW E (wC E σ ++ X) A s H1 locs1 → W p l e R s m a below meth c H1 locs1 cells slots Q (F0 m (pc + 3) ls (.int rv :: rest))) : W p l e R s m a below meth c H locs cells slots Q (F0 m pc ls (.int p3 :: .int p2 :: .int p1 :: .ref (eA E 97) :: rest)) :=
  r_calli (n := 3) (As := [.int p1, .int p2, .int p3]) (q0 := 97) (ci := 8) (qq := (RX8, TX8, 6)) (c_X8_isAhead h) rfl rfl rfl mk_5_201 mk_P_50 mk_1_7 mk_5_202 (by decide +kernel) rfl ⟨rfl, rfl⟩ cx hV w1 hR hcs hls rfl hcat d kk
def x_X8_bestBut_L5 (p1 : Int32) (p2 : Int32) (σ : St) (u1 : Int32) (u2 : Int32) : Option (Bool × (Int32 × Int32)) :=
  (if (gI σ 0) ≤ u2 then
  some (false, (u1, u2))
  else
  bd (x_X9_hasBit p1 u2) fun v3 =>
  (if v3 = 0 then
  (if u1 = (-1) then
  some (true, (u2, (u2 + 1)))
  else
  bd (x_X8_isAhead u2 u1 p2 σ) fun v4 =>
  (if v4 = 0 then
  some (true, (u1, (u2 + 1)))
  else
  some (true, (u2, (u2 + 1)))))
  else
  some (true, (u1, (u2 + 1)))))
def x_X8_bestBut (p1 : Int32) (p2 : Int32) (σ : St) : Option Int32 :=
  bd2 (lp (fun v : (Int32 × Int32) => x_X8_bestBut_L5 p1 p2 σ v.1 v.2) FU ((-1), 0)) fun z5 z6 =>
  some z5
abbrev rm_X8_bestBut : Room := { frames := 4, cells := 0, slots := 0, locals := 89 }
set_option maxHeartbeats 4000000 in
set_option maxRecDepth 100000 in
theorem c_X8_bestBut {l : Launch} {E : EV} {X : va_W} {σ : St} {p1 : Int32} {p2 : Int32} {rv : Int32} (h : x_X8_bestBut p1 p2 σ = some rv) : CM l yX8_bestBut cX8_bestBut 5 (some .int) rm_X8_bestBut [.ref (eA E 97), .int p1, .int p2] E (wC E σ ++ X) (wC E σ ++ X) (qI rv) := by
  refine CM.start (by decide) (Nat.le_of_ble_eq_true rfl) (fun p e s m a below meth c A ls cx hr hlk hV hl => ?_)
  have cx : CallFix p m c cX8_bestBut 5 s a TBL RX8 := cx
  have hx := cx.1
  have hb := cx.2.1
  have hl : lv_has ls 5 [(0, .ref (eA E 97)), (1, .int p1), (2, .int p2)] := hl
  generalize hQ : EQ E (wC E σ ++ X) (qI rv) A s a below = QQ
  obtain ⟨H, hH⟩ : ∃ H, H = s.heap := ⟨_, rfl⟩
  obtain ⟨locs, hlocs⟩ : ∃ z, z = ([] : List Loc) := ⟨_, rfl⟩
  have hV : AtW E (wC E σ ++ X) A s H locs := by rw [hH, hlocs]; exact hV
  have goal : W p l e rm_X8_bestBut s m a below meth c H locs 0 0 QQ (F0 m 0 ls []) := by
    unfold x_X8_bestBut at h
    refine lv_iconst (v := (-1)) hx hb dX8_bestBut_0 (by decide) ?_
    refine lv_istore_n (lv' := [(3, .int (-1)), (0, .ref (eA E 97)), (1, .int p1), (2, .int p2)]) hx hb dX8_bestBut_1 rfl hl (by decide) rfl (fun ls hl => ?_)
    refine lv_iconst (v := 0) hx hb dX8_bestBut_2 (by decide) ?_
    refine lv_istore (lv' := [(4, .int 0), (3, .int (-1)), (0, .ref (eA E 97)), (1, .int p1), (2, .int p2)]) hx hb dX8_bestBut_3 hl (by decide) rfl (fun ls hl => ?_)
    refine bd2_e h (fun z5 z6 ho h => ?_)
    refine (lp_rule (G := (fun v : (Int32 × Int32) => ∀ (H : Heap) (locs : List Loc) (ls : Array Slot), AtW E (wC E σ ++ X) A s H locs → lv_has ls 5 [(0, .ref (eA E 97)), (1, .int p1), (2, .int p2), (3, .int v.1), (4, .int v.2)] → W p l e rm_X8_bestBut s m a below meth c H locs 0 0 QQ (F0 m 5 ls []))) (K := (fun v : (Int32 × Int32) => ∀ (H : Heap) (locs : List Loc) (ls : Array Slot), AtW E (wC E σ ++ X) A s H locs → lv_has ls 5 [(3, .int v.1)] → W p l e rm_X8_bestBut s m a below meth c H locs 0 0 QQ (F0 m 51 ls []))) (fun v b1 y1 h hT1 hF1 => ?_) ho (fun H locs ls hV hl => ?_)) _ _ _ hV (lv_sub hl [2, 3, 4, 1, 0] rfl)
    · obtain ⟨u1, u2⟩ := v
      have h : x_X8_bestBut_L5 p1 p2 σ u1 u2 = some (b1, y1) := h
      intro H locs ls hV hl
      have hV : AtW E (wC E σ ++ X) A s H locs := hV
      have hl : lv_has ls 5 [(0, .ref (eA E 97)), (1, .int p1), (2, .int p2), (3, .int u1), (4, .int u2)] := hl
      unfold x_X8_bestBut_L5 at h
      refine lv_iload hx hb dX8_bestBut_5 (lv_at hl 4 rfl) ?_
      refine lv_aload_n hx hb dX8_bestBut_7 rfl (lv_at hl 0 rfl) ?_
      refine G_X8_told cx hV mk_2_17 dX8_bestBut_8 ?_
      refine G_X7_crates cx hV (by decide) mk_1_55 dX8_bestBut_11 ?_
      refine lv_icmp_ge (tgt := 51) hx hb dX8_bestBut_14 (by decide) (fun hc => ?_) (fun hc => ?_)
      · have h := ifp hc h
        cases h
        exact hF1 rfl _ _ _ hV (lv_sub hl [3] rfl)
      · have h := ifn hc h
        refine lv_iload_n hx hb dX8_bestBut_17 rfl (lv_at hl 1 rfl) ?_
        refine lv_iload hx hb dX8_bestBut_18 (lv_at hl 4 rfl) ?_
        refine bd_e h (fun v3 hq h => ?_)
        refine k_X9_hasBitN (host := RX9) hq cx hV (List.mem_of_getElem? (i := 7) rfl) ⟨Nat.le_of_ble_eq_true rfl, Nat.le_of_ble_eq_true rfl⟩ ⟨Nat.zero_le _, Nat.zero_le _⟩ hl.1 (Nat.le_of_ble_eq_true rfl) dX8_bestBut_20 (fun H locs hV => ?_)
        refine lv_if_ne (tgt := 45) hx hb dX8_bestBut_23 (by decide) (fun hc => ?_) (fun hc => ?_)
        · have h := ifn hc h
          refine lv_iinc (v := (u2 + 1)) (lv' := [(4, .int (u2 + 1)), (0, .ref (eA E 97)), (1, .int p1), (2, .int p2), (3, .int u1)]) hx hb dX8_bestBut_45 hl (k := 4) rfl rfl (by decide) rfl (fun ls hl => ?_)
          refine lv_goto (tgt := 5) hx hb dX8_bestBut_48 (by decide) ?_
          cases h
          exact hT1 rfl _ _ _ hV (lv_sub hl [1, 2, 3, 4, 0] rfl)
        · have h := ifp hc h
          refine lv_iload_n hx hb dX8_bestBut_26 rfl (lv_at hl 3 rfl) ?_
          refine lv_iconst (v := (-1)) hx hb dX8_bestBut_27 (by decide) ?_
          refine lv_icmp_eq (tgt := 42) hx hb dX8_bestBut_28 (by decide) (fun hc => ?_) (fun hc => ?_)
          · have h := ifp hc h
            refine lv_iload hx hb dX8_bestBut_42 (lv_at hl 4 rfl) ?_
            refine lv_istore_n (lv' := [(3, .int u2), (0, .ref (eA E 97)), (1, .int p1), (2, .int p2), (4, .int u2)]) hx hb dX8_bestBut_44 rfl hl (by decide) rfl (fun ls hl => ?_)
            refine lv_iinc (v := (u2 + 1)) (lv' := [(4, .int (u2 + 1)), (3, .int u2), (0, .ref (eA E 97)), (1, .int p1), (2, .int p2)]) hx hb dX8_bestBut_45 hl (k := 4) rfl rfl (by decide) rfl (fun ls hl => ?_)
            refine lv_goto (tgt := 5) hx hb dX8_bestBut_48 (by decide) ?_
            cases h
            exact hT1 rfl _ _ _ hV (lv_sub hl [2, 3, 4, 1, 0] rfl)
          · have h := ifn hc h
            refine lv_aload_n hx hb dX8_bestBut_31 rfl (lv_at hl 0 rfl) ?_
            refine lv_iload hx hb dX8_bestBut_32 (lv_at hl 4 rfl) ?_
            refine lv_iload_n hx hb dX8_bestBut_34 rfl (lv_at hl 3 rfl) ?_
            refine lv_iload_n hx hb dX8_bestBut_35 rfl (lv_at hl 2 rfl) ?_
            refine bd_e h (fun v4 hq h => ?_)
            refine k_X8_isAhead hq cx hV mk_5_199 ⟨Nat.le_of_ble_eq_true rfl, Nat.le_of_ble_eq_true rfl⟩ ⟨Nat.zero_le _, Nat.zero_le _⟩ hl.1 (Nat.le_of_ble_eq_true rfl) dX8_bestBut_36 (fun H locs hV => ?_)
            refine lv_if_eq (tgt := 45) hx hb dX8_bestBut_39 (by decide) (fun hc => ?_) (fun hc => ?_)
            · have h := ifp hc h
              refine lv_iinc (v := (u2 + 1)) (lv' := [(4, .int (u2 + 1)), (0, .ref (eA E 97)), (1, .int p1), (2, .int p2), (3, .int u1)]) hx hb dX8_bestBut_45 hl (k := 4) rfl rfl (by decide) rfl (fun ls hl => ?_)
              refine lv_goto (tgt := 5) hx hb dX8_bestBut_48 (by decide) ?_
              cases h
              exact hT1 rfl _ _ _ hV (lv_sub hl [1, 2, 3, 4, 0] rfl)
            · have h := ifn hc h
              refine lv_iload hx hb dX8_bestBut_42 (lv_at hl 4 rfl) ?_
              refine lv_istore_n (lv' := [(3, .int u2), (0, .ref (eA E 97)), (1, .int p1), (2, .int p2), (4, .int u2)]) hx hb dX8_bestBut_44 rfl hl (by decide) rfl (fun ls hl => ?_)
              refine lv_iinc (v := (u2 + 1)) (lv' := [(4, .int (u2 + 1)), (3, .int u2), (0, .ref (eA E 97)), (1, .int p1), (2, .int p2)]) hx hb dX8_bestBut_45 hl (k := 4) rfl rfl (by decide) rfl (fun ls hl => ?_)
              refine lv_goto (tgt := 5) hx hb dX8_bestBut_48 (by decide) ?_
              cases h
              exact hT1 rfl _ _ _ hV (lv_sub hl [2, 3, 4, 1, 0] rfl)
    · have hV : AtW E (wC E σ ++ X) A s H locs := hV
      have hl : lv_has ls 5 [(3, .int z5)] := hl
      refine lv_iload_n hx hb dX8_bestBut_51 rfl (lv_at hl 0 rfl) ?_
      have h1 := Option.some.inj h
      subst h1
      subst hQ
      exact r_ireti cx hr hlk hV dX8_bestBut_52
  rw [hH, hlocs] at goal
  exact goal
theorem k_X8_bestBut {p : Program} {l : Launch} {e : Env} {R : Room} {s : State} {m : MethodId} {a : Array Value} {below : List Frame} {meth : Method} {c : Code} {H : Heap} {locs : List Loc} {cells slots : Nat} {Q : State → Prop} {cc : ByteArray} {own : String} {nL pc : Nat} {ls : Array Slot} {rest : List Value} {A : Nat → Prop} {E : EV} {X : va_W} {σ : St} {p1 : Int32} {p2 : Int32} {rv : Int32} (h : x_X8_bestBut p1 p2 σ = some rv) (cx : CallFix p m c cc nL s a TBL own) (hV : AtW E (wC E σ ++ X) A s H locs) {idx : Nat} (w1 : Cond.methodLink own idx yX8_bestBut ∈ TBL) (hR : (rm_X8_bestBut).frames + 1 ≤ R.frames ∧ 8 + (5 + 11) + (rm_X8_bestBut).locals ≤ R.locals) (hcs : cells ≤ R.cells ∧ slots ≤ R.slots) (hls : ls.size = nL) (hcat : (rest.map fun v => v.category).sum ≤ 8) (d : decode cc pc = .ok (.invokevirtual idx, 3)) (kk : ∀ (H1 : Heap) (locs1 : List Loc), AtW E (wC E σ ++ X) A s H1 locs1 → W p l e R s m a below meth c H1 locs1 cells slots Q (F0 m (pc + 3) ls (.int rv :: rest))) : W p l e R s m a below meth c H locs cells slots Q (F0 m pc ls (.int p2 :: .int p1 :: .ref (eA E 97) :: rest)) :=
  r_calli (n := 2) (As := [.int p1, .int p2]) (q0 := 97) (ci := 8) (qq := (RX8, TX8, 6)) (c_X8_bestBut h) rfl rfl rfl mk_5_197 mk_P_49 mk_1_7 mk_5_198 (by decide +kernel) rfl ⟨rfl, rfl⟩ cx hV w1 hR hcs hls rfl hcat d kk
def x_X8_rank_L12 (p3 : Int32) (u2 : Int32) (u3 : Int32) (σ4 : St) : Option (Bool × (Int32 × Int32 × St)) :=
  (if (gI σ4 0) ≤ u3 then
  some (false, (u2, u3, σ4))
  else
  bd (x_X8_bestBut u2 p3 σ4) fun v5 =>
  bd (x_X2_put 43 u3 v5 σ4) fun σ6 =>
  some (true, ((u2 ||| (1 <<< (v5 &&& 31))), (u3 + 1), σ6)))
def x_X8_rank (p1 : Int32) (p2 : Int32) (p3 : Int32) (σ : St) : Option St :=
  bd (x_X8_putBack p1 p2 σ) fun σ1 =>
  bd3 (lp (fun v : (Int32 × Int32 × St) => x_X8_rank_L12 p3 v.1 v.2.1 v.2.2) FU (0, 0, σ1)) fun z7 z8 σ9 =>
  some σ9
abbrev rm_X8_rank : Room := { frames := 5, cells := 0, slots := 0, locals := 115 }
set_option maxHeartbeats 4000000 in
set_option maxRecDepth 100000 in
theorem c_X8_rank {l : Launch} {E : EV} {X : va_W} {σ : St} {p1 : Int32} {p2 : Int32} {p3 : Int32} {σf : St} (h : x_X8_rank p1 p2 p3 σ = some σf) : CM l yX8_rank cX8_rank 7 none rm_X8_rank [.ref (eA E 97), .int p1, .int p2, .int p3] E (wC E σ ++ X) (wC E σf ++ X) qV := by
  refine CM.start (by decide) (Nat.le_of_ble_eq_true rfl) (fun p e s m a below meth c A ls cx hr hlk hV hl => ?_)
  have cx : CallFix p m c cX8_rank 7 s a TBL RX8 := cx
  have hx := cx.1
  have hb := cx.2.1
  have hl : lv_has ls 7 [(0, .ref (eA E 97)), (1, .int p1), (2, .int p2), (3, .int p3)] := hl
  generalize hQ : EQ E (wC E σf ++ X) qV A s a below = QQ
  obtain ⟨H, hH⟩ : ∃ H, H = s.heap := ⟨_, rfl⟩
  obtain ⟨locs, hlocs⟩ : ∃ z, z = ([] : List Loc) := ⟨_, rfl⟩
  have hV : AtW E (wC E σ ++ X) A s H locs := by rw [hH, hlocs]; exact hV
  have goal : W p l e rm_X8_rank s m a below meth c H locs 0 0 QQ (F0 m 0 ls []) := by
    unfold x_X8_rank at h
    refine lv_aload_n hx hb dX8_rank_0 rfl (lv_at hl 0 rfl) ?_
    refine lv_iload_n hx hb dX8_rank_1 rfl (lv_at hl 1 rfl) ?_
    refine lv_iload_n hx hb dX8_rank_2 rfl (lv_at hl 2 rfl) ?_
    refine bd_e h (fun σ1 hq h => ?_)
    refine k_X8_putBack hq cx hV mk_5_194 ⟨Nat.le_of_ble_eq_true rfl, Nat.le_of_ble_eq_true rfl⟩ ⟨Nat.zero_le _, Nat.zero_le _⟩ hl.1 (Nat.le_of_ble_eq_true rfl) dX8_rank_3 (fun H locs hV => ?_)
    refine lv_iconst (v := 0) hx hb dX8_rank_6 (by decide) ?_
    refine lv_istore (lv' := [(4, .int 0), (0, .ref (eA E 97)), (1, .int p1), (2, .int p2), (3, .int p3)]) hx hb dX8_rank_7 hl (by decide) rfl (fun ls hl => ?_)
    refine lv_iconst (v := 0) hx hb dX8_rank_9 (by decide) ?_
    refine lv_istore (lv' := [(5, .int 0), (4, .int 0), (0, .ref (eA E 97)), (1, .int p1), (2, .int p2), (3, .int p3)]) hx hb dX8_rank_10 hl (by decide) rfl (fun ls hl => ?_)
    refine bd3_e h (fun z7 z8 σ9 ho h => ?_)
    refine (lp_rule (G := (fun v : (Int32 × Int32 × St) => ∀ (H : Heap) (locs : List Loc) (ls : Array Slot), AtW E (wC E v.2.2 ++ X) A s H locs → lv_has ls 7 [(0, .ref (eA E 97)), (3, .int p3), (4, .int v.1), (5, .int v.2.1)] → W p l e rm_X8_rank s m a below meth c H locs 0 0 QQ (F0 m 12 ls []))) (K := (fun v : (Int32 × Int32 × St) => ∀ (H : Heap) (locs : List Loc) (ls : Array Slot), AtW E (wC E v.2.2 ++ X) A s H locs → lv_has ls 7 [] → W p l e rm_X8_rank s m a below meth c H locs 0 0 QQ (F0 m 59 ls []))) (fun v b1 y1 h hT1 hF1 => ?_) ho (fun H locs ls hV hl => ?_)) _ _ _ hV (lv_sub hl [2, 5, 1, 0] rfl)
    · obtain ⟨u2, u3, σ4⟩ := v
      have h : x_X8_rank_L12 p3 u2 u3 σ4 = some (b1, y1) := h
      intro H locs ls hV hl
      have hV : AtW E (wC E σ4 ++ X) A s H locs := hV
      have hl : lv_has ls 7 [(0, .ref (eA E 97)), (3, .int p3), (4, .int u2), (5, .int u3)] := hl
      unfold x_X8_rank_L12 at h
      refine lv_iload hx hb dX8_rank_12 (lv_at hl 3 rfl) ?_
      refine lv_aload_n hx hb dX8_rank_14 rfl (lv_at hl 0 rfl) ?_
      refine G_X8_told cx hV mk_2_17 dX8_rank_15 ?_
      refine G_X7_crates cx hV (by decide) mk_1_55 dX8_rank_18 ?_
      refine lv_icmp_ge (tgt := 59) hx hb dX8_rank_21 (by decide) (fun hc => ?_) (fun hc => ?_)
      · have h := ifp hc h
        cases h
        exact hF1 rfl _ _ _ hV (lv_sub hl [] rfl)
      · have h := ifn hc h
        refine lv_aload_n hx hb dX8_rank_24 rfl (lv_at hl 0 rfl) ?_
        refine lv_iload hx hb dX8_rank_25 (lv_at hl 2 rfl) ?_
        refine lv_iload_n hx hb dX8_rank_27 rfl (lv_at hl 1 rfl) ?_
        refine bd_e h (fun v5 hq h => ?_)
        refine k_X8_bestBut hq cx hV mk_5_195 ⟨Nat.le_of_ble_eq_true rfl, Nat.le_of_ble_eq_true rfl⟩ ⟨Nat.zero_le _, Nat.zero_le _⟩ hl.1 (Nat.le_of_ble_eq_true rfl) dX8_rank_28 (fun H locs hV => ?_)
        refine lv_istore (lv' := [(6, .int v5), (0, .ref (eA E 97)), (3, .int p3), (4, .int u2), (5, .int u3)]) hx hb dX8_rank_31 hl (by decide) rfl (fun ls hl => ?_)
        refine lv_aload_n hx hb dX8_rank_33 rfl (lv_at hl 1 rfl) ?_
        refine G_X8_ranked cx hV mk_2_15 dX8_rank_34 ?_
        refine lv_iload hx hb dX8_rank_37 (lv_at hl 4 rfl) ?_
        refine lv_iload hx hb dX8_rank_39 (lv_at hl 0 rfl) ?_
        refine bd_e h (fun σ6 hq h => ?_)
        refine k_X2_put (by decide) hq cx hV mk_5_209 ⟨Nat.le_of_ble_eq_true rfl, Nat.le_of_ble_eq_true rfl⟩ ⟨Nat.zero_le _, Nat.zero_le _⟩ hl.1 (Nat.le_of_ble_eq_true rfl) dX8_rank_41 (fun H locs hV => ?_)
        refine lv_iload hx hb dX8_rank_44 (lv_at hl 3 rfl) ?_
        refine lv_iconst (v := 1) hx hb dX8_rank_46 (by decide) ?_
        refine lv_iload hx hb dX8_rank_47 (lv_at hl 0 rfl) ?_
        refine lv_ishl hx hb dX8_rank_49 ?_
        refine lv_ior hx hb dX8_rank_50 ?_
        refine lv_istore (lv' := [(4, .int (u2 ||| (1 <<< (v5 &&& 31)))), (6, .int v5), (0, .ref (eA E 97)), (3, .int p3), (5, .int u3)]) hx hb dX8_rank_51 hl (by decide) rfl (fun ls hl => ?_)
        refine lv_iinc (v := (u3 + 1)) (lv' := [(5, .int (u3 + 1)), (4, .int (u2 ||| (1 <<< (v5 &&& 31)))), (6, .int v5), (0, .ref (eA E 97)), (3, .int p3)]) hx hb dX8_rank_53 hl (k := 4) rfl rfl (by decide) rfl (fun ls hl => ?_)
        refine lv_goto (tgt := 12) hx hb dX8_rank_56 (by decide) ?_
        cases h
        exact hT1 rfl _ _ _ hV (lv_sub hl [3, 4, 1, 0] rfl)
    · have hV : AtW E (wC E σ9 ++ X) A s H locs := hV
      have hl : lv_has ls 7 [] := hl
      have h1 := Option.some.inj h
      subst h1
      subst hQ
      exact r_vret cx hr hlk hV dX8_rank_59
  rw [hH, hlocs] at goal
  exact goal
theorem k_X8_rank {p : Program} {l : Launch} {e : Env} {R : Room} {s : State} {m : MethodId} {a : Array Value} {below : List Frame} {meth : Method} {c : Code} {H : Heap} {locs : List Loc} {cells slots : Nat} {Q : State → Prop} {cc : ByteArray} {own : String} {nL pc : Nat} {ls : Array Slot} {rest : List Value} {A : Nat → Prop} {E : EV} {X : va_W} {σ : St} {p1 : Int32} {p2 : Int32} {p3 : Int32} {σf : St} (h : x_X8_rank p1 p2 p3 σ = some σf) (cx : CallFix p m c cc nL s a TBL own) (hV : AtW E (wC E σ ++ X) A s H locs) {idx : Nat} (w1 : Cond.methodLink own idx yX8_rank ∈ TBL) (hR : (rm_X8_rank).frames + 1 ≤ R.frames ∧ 8 + (7 + 11) + (rm_X8_rank).locals ≤ R.locals) (hcs : cells ≤ R.cells ∧ slots ≤ R.slots) (hls : ls.size = nL) (hcat : (rest.map fun v => v.category).sum ≤ 8) (d : decode cc pc = .ok (.invokevirtual idx, 3)) (kk : ∀ (H1 : Heap) (locs1 : List Loc), AtW E (wC E σf ++ X) A s H1 locs1 → W p l e R s m a below meth c H1 locs1 cells slots Q (F0 m (pc + 3) ls (rest))) : W p l e R s m a below meth c H locs cells slots Q (F0 m pc ls (.int p3 :: .int p2 :: .int p1 :: .ref (eA E 97) :: rest)) :=
  r_callv (n := 3) (As := [.int p1, .int p2, .int p3]) (q0 := 97) (ci := 8) (qq := (RX8, TX8, 6)) (c_X8_rank h) wC_fst rfl rfl mk_5_191 mk_5_192 mk_1_7 mk_5_193 (by decide +kernel) rfl ⟨rfl, rfl⟩ cx hV w1 hR hcs hls rfl hcat d kk
def x_X8_sharedSeconds_L8 (p1 : Int32) (σ : St) (u1 : Int64) (u2 : Int64) (u3 : Int32) : Option (Bool × (Int64 × Int64 × Int32)) :=
  (if (gI σ 0) ≤ u3 then
  some (false, (u1, u2, u3))
  else
  bd (x_X2_at 43 u3 σ) fun v4 =>
  bd (x_X8_secondsOf v4 p1 σ) fun v5 =>
  bd (x_X8_share v4 σ) fun v6 =>
  some (true, ((u1 + (v6 * (u2 + (Int32.toInt64 v5)))), (u2 + (Int32.toInt64 v5)), (u3 + 1))))
def x_X8_sharedSeconds (p1 : Int32) (σ : St) : Option Int64 :=
  bd3 (lp (fun v : (Int64 × Int64 × Int32) => x_X8_sharedSeconds_L8 p1 σ v.1 v.2.1 v.2.2) FU ((0 : Int64), (0 : Int64), 0)) fun z7 z8 z9 =>
  some z7
abbrev rm_X8_sharedSeconds : Room := { frames := 3, cells := 0, slots := 0, locals := 66 }
set_option maxHeartbeats 4000000 in
set_option maxRecDepth 100000 in
theorem c_X8_sharedSeconds {l : Launch} {E : EV} {X : va_W} {σ : St} {p1 : Int32} {rv : Int64} (h : x_X8_sharedSeconds p1 σ = some rv) : CM l yX8_sharedSeconds cX8_sharedSeconds 8 (some .long) rm_X8_sharedSeconds [.ref (eA E 97), .int p1] E (wC E σ ++ X) (wC E σ ++ X) (qL rv) := by
  refine CM.start (by decide) (Nat.le_of_ble_eq_true rfl) (fun p e s m a below meth c A ls cx hr hlk hV hl => ?_)
  have cx : CallFix p m c cX8_sharedSeconds 8 s a TBL RX8 := cx
  have hx := cx.1
  have hb := cx.2.1
  have hl : lv_has ls 8 [(0, .ref (eA E 97)), (1, .int p1)] := hl
  generalize hQ : EQ E (wC E σ ++ X) (qL rv) A s a below = QQ
  obtain ⟨H, hH⟩ : ∃ H, H = s.heap := ⟨_, rfl⟩
  obtain ⟨locs, hlocs⟩ : ∃ z, z = ([] : List Loc) := ⟨_, rfl⟩
  have hV : AtW E (wC E σ ++ X) A s H locs := by rw [hH, hlocs]; exact hV
  have goal : W p l e rm_X8_sharedSeconds s m a below meth c H locs 0 0 QQ (F0 m 0 ls []) := by
    unfold x_X8_sharedSeconds at h
    refine lv_lconst (v := 0) hx hb dX8_sharedSeconds_0 (by decide) ?_
    refine lv_lstore_n (lv' := [(2, .long (0 : Int64)), (0, .ref (eA E 97)), (1, .int p1)]) hx hb dX8_sharedSeconds_1 rfl hl (by decide) rfl (fun ls hl => ?_)
    refine lv_lconst (v := 0) hx hb dX8_sharedSeconds_2 (by decide) ?_
    refine lv_lstore (lv' := [(4, .long (0 : Int64)), (2, .long (0 : Int64)), (0, .ref (eA E 97)), (1, .int p1)]) hx hb dX8_sharedSeconds_3 hl (by decide) rfl (fun ls hl => ?_)
    refine lv_iconst (v := 0) hx hb dX8_sharedSeconds_5 (by decide) ?_
    refine lv_istore (lv' := [(6, .int 0), (4, .long (0 : Int64)), (2, .long (0 : Int64)), (0, .ref (eA E 97)), (1, .int p1)]) hx hb dX8_sharedSeconds_6 hl (by decide) rfl (fun ls hl => ?_)
    refine bd3_e h (fun z7 z8 z9 ho h => ?_)
    refine (lp_rule (G := (fun v : (Int64 × Int64 × Int32) => ∀ (H : Heap) (locs : List Loc) (ls : Array Slot), AtW E (wC E σ ++ X) A s H locs → lv_has ls 8 [(0, .ref (eA E 97)), (1, .int p1), (2, .long v.1), (4, .long v.2.1), (6, .int v.2.2)] → W p l e rm_X8_sharedSeconds s m a below meth c H locs 0 0 QQ (F0 m 8 ls []))) (K := (fun v : (Int64 × Int64 × Int32) => ∀ (H : Heap) (locs : List Loc) (ls : Array Slot), AtW E (wC E σ ++ X) A s H locs → lv_has ls 8 [(2, .long v.1)] → W p l e rm_X8_sharedSeconds s m a below meth c H locs 0 0 QQ (F0 m 62 ls []))) (fun v b1 y1 h hT1 hF1 => ?_) ho (fun H locs ls hV hl => ?_)) _ _ _ hV (lv_sub hl [3, 4, 2, 1, 0] rfl)
    · obtain ⟨u1, u2, u3⟩ := v
      have h : x_X8_sharedSeconds_L8 p1 σ u1 u2 u3 = some (b1, y1) := h
      intro H locs ls hV hl
      have hV : AtW E (wC E σ ++ X) A s H locs := hV
      have hl : lv_has ls 8 [(0, .ref (eA E 97)), (1, .int p1), (2, .long u1), (4, .long u2), (6, .int u3)] := hl
      unfold x_X8_sharedSeconds_L8 at h
      refine lv_iload hx hb dX8_sharedSeconds_8 (lv_at hl 4 rfl) ?_
      refine lv_aload_n hx hb dX8_sharedSeconds_10 rfl (lv_at hl 0 rfl) ?_
      refine G_X8_told cx hV mk_2_17 dX8_sharedSeconds_11 ?_
      refine G_X7_crates cx hV (by decide) mk_1_55 dX8_sharedSeconds_14 ?_
      refine lv_icmp_ge (tgt := 62) hx hb dX8_sharedSeconds_17 (by decide) (fun hc => ?_) (fun hc => ?_)
      · have h := ifp hc h
        cases h
        exact hF1 rfl _ _ _ hV (lv_sub hl [2] rfl)
      · have h := ifn hc h
        refine lv_aload_n hx hb dX8_sharedSeconds_20 rfl (lv_at hl 0 rfl) ?_
        refine G_X8_ranked cx hV mk_2_15 dX8_sharedSeconds_21 ?_
        refine lv_iload hx hb dX8_sharedSeconds_24 (lv_at hl 4 rfl) ?_
        refine bd_e h (fun v4 hq h => ?_)
        refine k_X2_at (by decide) hq cx hV mk_5_131 ⟨Nat.le_of_ble_eq_true rfl, Nat.le_of_ble_eq_true rfl⟩ ⟨Nat.zero_le _, Nat.zero_le _⟩ hl.1 (Nat.le_of_ble_eq_true rfl) dX8_sharedSeconds_26 (fun H locs hV => ?_)
        refine lv_istore (lv' := [(7, .int v4), (0, .ref (eA E 97)), (1, .int p1), (2, .long u1), (4, .long u2), (6, .int u3)]) hx hb dX8_sharedSeconds_29 hl (by decide) rfl (fun ls hl => ?_)
        refine lv_lload hx hb dX8_sharedSeconds_31 (lv_at hl 4 rfl) ?_
        refine lv_aload_n hx hb dX8_sharedSeconds_33 rfl (lv_at hl 1 rfl) ?_
        refine lv_iload hx hb dX8_sharedSeconds_34 (lv_at hl 0 rfl) ?_
        refine lv_iload_n hx hb dX8_sharedSeconds_36 rfl (lv_at hl 2 rfl) ?_
        refine bd_e h (fun v5 hq h => ?_)
        refine k_X8_secondsOf hq cx hV mk_5_203 ⟨Nat.le_of_ble_eq_true rfl, Nat.le_of_ble_eq_true rfl⟩ ⟨Nat.zero_le _, Nat.zero_le _⟩ hl.1 (Nat.le_of_ble_eq_true rfl) dX8_sharedSeconds_37 (fun H locs hV => ?_)
        refine lv_i2l (v := (Int32.toInt64 v5)) hx hb dX8_sharedSeconds_40 rfl ?_
        refine lv_ladd hx hb dX8_sharedSeconds_41 ?_
        refine lv_lstore (lv' := [(4, .long (u2 + (Int32.toInt64 v5))), (7, .int v4), (0, .ref (eA E 97)), (1, .int p1), (2, .long u1), (6, .int u3)]) hx hb dX8_sharedSeconds_42 hl (by decide) rfl (fun ls hl => ?_)
        refine lv_lload_n hx hb dX8_sharedSeconds_44 rfl (lv_at hl 4 rfl) ?_
        refine lv_aload_n hx hb dX8_sharedSeconds_45 rfl (lv_at hl 2 rfl) ?_
        refine lv_iload hx hb dX8_sharedSeconds_46 (lv_at hl 1 rfl) ?_
        refine bd_e h (fun v6 hq h => ?_)
        refine k_X8_share hq cx hV mk_5_141 ⟨Nat.le_of_ble_eq_true rfl, Nat.le_of_ble_eq_true rfl⟩ ⟨Nat.zero_le _, Nat.zero_le _⟩ hl.1 (Nat.le_of_ble_eq_true rfl) dX8_sharedSeconds_48 (fun H locs hV => ?_)
        refine lv_lload hx hb dX8_sharedSeconds_51 (lv_at hl 0 rfl) ?_
        refine lv_lmul hx hb dX8_sharedSeconds_53 ?_
        refine lv_ladd hx hb dX8_sharedSeconds_54 ?_
        refine lv_lstore_n (lv' := [(2, .long (u1 + (v6 * (u2 + (Int32.toInt64 v5))))), (4, .long (u2 + (Int32.toInt64 v5))), (7, .int v4), (0, .ref (eA E 97)), (1, .int p1), (6, .int u3)]) hx hb dX8_sharedSeconds_55 rfl hl (by decide) rfl (fun ls hl => ?_)
        refine lv_iinc (v := (u3 + 1)) (lv' := [(6, .int (u3 + 1)), (2, .long (u1 + (v6 * (u2 + (Int32.toInt64 v5))))), (4, .long (u2 + (Int32.toInt64 v5))), (7, .int v4), (0, .ref (eA E 97)), (1, .int p1)]) hx hb dX8_sharedSeconds_56 hl (k := 5) rfl rfl (by decide) rfl (fun ls hl => ?_)
        refine lv_goto (tgt := 8) hx hb dX8_sharedSeconds_59 (by decide) ?_
        cases h
        exact hT1 rfl _ _ _ hV (lv_sub hl [4, 5, 1, 2, 0] rfl)
    · have hV : AtW E (wC E σ ++ X) A s H locs := hV
      have hl : lv_has ls 8 [(2, .long z7)] := hl
      refine lv_lload_n hx hb dX8_sharedSeconds_62 rfl (lv_at hl 0 rfl) ?_
      have h1 := Option.some.inj h
      subst h1
      subst hQ
      exact r_lret cx hr hlk hV dX8_sharedSeconds_63
  rw [hH, hlocs] at goal
  exact goal
theorem k_X8_sharedSeconds {p : Program} {l : Launch} {e : Env} {R : Room} {s : State} {m : MethodId} {a : Array Value} {below : List Frame} {meth : Method} {c : Code} {H : Heap} {locs : List Loc} {cells slots : Nat} {Q : State → Prop} {cc : ByteArray} {own : String} {nL pc : Nat} {ls : Array Slot} {rest : List Value} {A : Nat → Prop} {E : EV} {X : va_W} {σ : St} {p1 : Int32} {rv : Int64} (h : x_X8_sharedSeconds p1 σ = some rv) (cx : CallFix p m c cc nL s a TBL own) (hV : AtW E (wC E σ ++ X) A s H locs) {idx : Nat} (w1 : Cond.methodLink own idx yX8_sharedSeconds ∈ TBL) (hR : (rm_X8_sharedSeconds).frames + 1 ≤ R.frames ∧ 8 + (8 + 11) + (rm_X8_sharedSeconds).locals ≤ R.locals) (hcs : cells ≤ R.cells ∧ slots ≤ R.slots) (hls : ls.size = nL) (hcat : (rest.map fun v => v.category).sum ≤ 8) (d : decode cc pc = .ok (.invokevirtual idx, 3)) (kk : ∀ (H1 : Heap) (locs1 : List Loc), AtW E (wC E σ ++ X) A s H1 locs1 → W p l e R s m a below meth c H1 locs1 cells slots Q (F0 m (pc + 3) ls (.long rv :: rest))) : W p l e R s m a below meth c H locs cells slots Q (F0 m pc ls (.int p1 :: .ref (eA E 97) :: rest)) :=
  r_calll (n := 1) (As := [.int p1]) (q0 := 97) (ci := 8) (qq := (RX8, TX8, 6)) (c_X8_sharedSeconds h) rfl rfl rfl mk_5_218 mk_5_219 mk_1_7 mk_5_220 (by decide +kernel) rfl ⟨rfl, rfl⟩ cx hV w1 hR hcs hls rfl hcat d kk
