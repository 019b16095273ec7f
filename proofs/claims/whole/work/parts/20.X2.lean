def x_X2_fill_L2 (j : Nat) (p1 : Int32) (u1 : Int32) (σ2 : St) : Option (Bool × (Int32 × St)) :=
  (if (nI (lenN j)) ≤ u1 then
  some (false, (u1, σ2))
  else
  bd (stI σ2 j (lenN j) u1 p1) fun σ3 =>
  some (true, ((u1 + 1), σ3)))
def x_X2_fill (j : Nat) (p1 : Int32) (σ : St) : Option St :=
  bd2 (lp (fun v : (Int32 × St) => x_X2_fill_L2 j p1 v.1 v.2) FU (0, σ)) fun z4 σ5 =>
  some σ5
abbrev rm_X2_fill : Room := { frames := 0, cells := 0, slots := 0, locals := 0 }
set_option maxHeartbeats 4000000 in
set_option maxRecDepth 100000 in
theorem c_X2_fill {l : Launch} {E : EV} {X : va_W} {σ : St} {j : Nat} {p1 : Int32} {σf : St} (hj : j < 49) (h : x_X2_fill j p1 σ = some σf) : CM l yX2_fill cX2_fill 3 none rm_X2_fill [.ref (eA E (pN j)), .int p1] E (wC E σ ++ X) (wC E σf ++ X) qV := by
  refine CM.start (by decide) (Nat.le_of_ble_eq_true rfl) (fun p e s m a below meth c A ls cx hr hlk hV hl => ?_)
  have cx : CallFix p m c cX2_fill 3 s a TBL RX2 := cx
  have hx := cx.1
  have hb := cx.2.1
  have hl : lv_has ls 3 [(0, .ref (eA E (pN j))), (1, .int p1)] := hl
  generalize hQ : EQ E (wC E σf ++ X) qV A s a below = QQ
  obtain ⟨H, hH⟩ : ∃ H, H = s.heap := ⟨_, rfl⟩
  obtain ⟨locs, hlocs⟩ : ∃ z, z = ([] : List Loc) := ⟨_, rfl⟩
  have hV : AtW E (wC E σ ++ X) A s H locs := by rw [hH, hlocs]; exact hV
  have goal : W p l e rm_X2_fill s m a below meth c H locs 0 0 QQ (F0 m 0 ls []) := by
    unfold x_X2_fill at h
    refine lv_iconst (v := 0) hx hb dX2_fill_0 (by decide) ?_
    refine lv_istore_n (lv' := [(2, .int 0), (0, .ref (eA E (pN j))), (1, .int p1)]) hx hb dX2_fill_1 rfl hl (by decide) rfl (fun ls hl => ?_)
    refine bd2_e h (fun z4 σ5 ho h => ?_)
    refine (lp_rule (G := (fun v : (Int32 × St) => ∀ (H : Heap) (locs : List Loc) (ls : Array Slot), AtW E (wC E v.2 ++ X) A s H locs → lv_has ls 3 [(0, .ref (eA E (pN j))), (1, .int p1), (2, .int v.1)] → W p l e rm_X2_fill s m a below meth c H locs 0 0 QQ (F0 m 2 ls []))) (K := (fun v : (Int32 × St) => ∀ (H : Heap) (locs : List Loc) (ls : Array Slot), AtW E (wC E v.2 ++ X) A s H locs → lv_has ls 3 [] → W p l e rm_X2_fill s m a below meth c H locs 0 0 QQ (F0 m 24 ls []))) (fun v b1 y1 h hT1 hF1 => ?_) ho (fun H locs ls hV hl => ?_)) _ _ _ hV (lv_sub hl [1, 2, 0] rfl)
    · obtain ⟨u1, σ2⟩ := v
      have h : x_X2_fill_L2 j p1 u1 σ2 = some (b1, y1) := h
      intro H locs ls hV hl
      have hV : AtW E (wC E σ2 ++ X) A s H locs := hV
      have hl : lv_has ls 3 [(0, .ref (eA E (pN j))), (1, .int p1), (2, .int u1)] := hl
      unfold x_X2_fill_L2 at h
      refine lv_iload_n hx hb dX2_fill_2 rfl (lv_at hl 2 rfl) ?_
      refine lv_aload_n hx hb dX2_fill_3 rfl (lv_at hl 0 rfl) ?_
      refine G_X2_cells cx hV hj mk_1_39 dX2_fill_4 ?_
      refine R_N_alen cx hV hj dX2_fill_7 ?_
      refine lv_icmp_ge (tgt := 24) hx hb dX2_fill_8 (by decide) (fun hc => ?_) (fun hc => ?_)
      · have h := ifp hc h
        cases h
        exact hF1 rfl _ _ _ hV (lv_sub hl [] rfl)
      · have h := ifn hc h
        refine lv_aload_n hx hb dX2_fill_11 rfl (lv_at hl 0 rfl) ?_
        refine G_X2_cells cx hV hj mk_1_39 dX2_fill_12 ?_
        refine lv_iload_n hx hb dX2_fill_15 rfl (lv_at hl 2 rfl) ?_
        refine lv_iload_n hx hb dX2_fill_16 rfl (lv_at hl 1 rfl) ?_
        refine bd_e h (fun σ3 hq h => ?_)
        refine R_N_iast cx hV hj hq dX2_fill_17 (fun H locs hV => ?_)
        refine lv_iinc (v := (u1 + 1)) (lv' := [(2, .int (u1 + 1)), (0, .ref (eA E (pN j))), (1, .int p1)]) hx hb dX2_fill_18 hl (k := 2) rfl rfl (by decide) rfl (fun ls hl => ?_)
        refine lv_goto (tgt := 2) hx hb dX2_fill_21 (by decide) ?_
        cases h
        exact hT1 rfl _ _ _ hV (lv_sub hl [1, 2, 0] rfl)
    · have hV : AtW E (wC E σ5 ++ X) A s H locs := hV
      have hl : lv_has ls 3 [] := hl
      have h1 := Option.some.inj h
      subst h1
      subst hQ
      exact r_vret cx hr hlk hV dX2_fill_24
  rw [hH, hlocs] at goal
  exact goal
theorem k_X2_fill {p : Program} {l : Launch} {e : Env} {R : Room} {s : State} {m : MethodId} {a : Array Value} {below : List Frame} {meth : Method} {c : Code} {H : Heap} {locs : List Loc} {cells slots : Nat} {Q : State → Prop} {cc : ByteArray} {own : String} {nL pc : Nat} {ls : Array Slot} {rest : List Value} {A : Nat → Prop} {E : EV} {X : va_W} {σ : St} {j : Nat} {p1 : Int32} {σf : St} (hj : j < 49) (h : x_X2_fill j p1 σ = some σf) (cx : CallFix p m c cc nL s a TBL own) (hV : AtW E (wC E σ ++ X) A s H locs) {idx : Nat} (w1 : Cond.methodLink own idx yX2_fill ∈ TBL) (hR : (rm_X2_fill).frames + 1 ≤ R.frames ∧ 8 + (3 + 11) + (rm_X2_fill).locals ≤ R.locals) (hcs : cells ≤ R.cells ∧ slots ≤ R.slots) (hls : ls.size = nL) (hcat : (rest.map fun v => v.category).sum ≤ 8) (d : decode cc pc = .ok (.invokevirtual idx, 3)) (kk : ∀ (H1 : Heap) (locs1 : List Loc), AtW E (wC E σf ++ X) A s H1 locs1 → W p l e R s m a below meth c H1 locs1 cells slots Q (F0 m (pc + 3) ls (rest))) : W p l e R s m a below meth c H locs cells slots Q (F0 m pc ls (.int p1 :: .ref (eA E (pN j)) :: rest)) :=
  r_callv (n := 1) (As := [.int p1]) (q0 := (pN j)) (ci := 2) (qq := (RX2, TX2, 1)) (c_X2_fill hj h) wC_fst (wC_N hj) rfl mk_2_114 mk_2_115 mk_1_2 mk_2_116 (by decide +kernel) rfl ⟨rfl, rfl⟩ cx hV w1 hR hcs hls rfl hcat d kk
def x_X2_put (j : Nat) (p1 : Int32) (p2 : Int32) (σ : St) : Option St :=
  (if p1 < 0 then
  some σ
  else
  (if (nI (lenN j)) ≤ p1 then
  some σ
  else
  bd (stI σ j (lenN j) p1 p2) fun σ1 =>
  some σ1))
abbrev rm_X2_put : Room := { frames := 0, cells := 0, slots := 0, locals := 0 }
set_option maxHeartbeats 4000000 in
set_option maxRecDepth 100000 in
theorem c_X2_put {l : Launch} {E : EV} {X : va_W} {σ : St} {j : Nat} {p1 : Int32} {p2 : Int32} {σf : St} (hj : j < 49) (h : x_X2_put j p1 p2 σ = some σf) : CM l yX2_put cX2_put 3 none rm_X2_put [.ref (eA E (pN j)), .int p1, .int p2] E (wC E σ ++ X) (wC E σf ++ X) qV := by
  refine CM.start (by decide) (Nat.le_of_ble_eq_true rfl) (fun p e s m a below meth c A ls cx hr hlk hV hl => ?_)
  have cx : CallFix p m c cX2_put 3 s a TBL RX2 := cx
  have hx := cx.1
  have hb := cx.2.1
  have hl : lv_has ls 3 [(0, .ref (eA E (pN j))), (1, .int p1), (2, .int p2)] := hl
  generalize hQ : EQ E (wC E σf ++ X) qV A s a below = QQ
  obtain ⟨H, hH⟩ : ∃ H, H = s.heap := ⟨_, rfl⟩
  obtain ⟨locs, hlocs⟩ : ∃ z, z = ([] : List Loc) := ⟨_, rfl⟩
  have hV : AtW E (wC E σ ++ X) A s H locs := by rw [hH, hlocs]; exact hV
  have goal : W p l e rm_X2_put s m a below meth c H locs 0 0 QQ (F0 m 0 ls []) := by
    unfold x_X2_put at h
    refine lv_iload_n hx hb dX2_put_0 rfl (lv_at hl 1 rfl) ?_
    refine lv_if_lt (tgt := 20) hx hb dX2_put_1 (by decide) (fun hc => ?_) (fun hc => ?_)
    · have h := ifp hc h
      have h1 := Option.some.inj h
      subst h1
      subst hQ
      exact r_vret cx hr hlk hV dX2_put_20
    · have h := ifn hc h
      refine lv_iload_n hx hb dX2_put_4 rfl (lv_at hl 1 rfl) ?_
      refine lv_aload_n hx hb dX2_put_5 rfl (lv_at hl 0 rfl) ?_
      refine G_X2_cells cx hV hj mk_1_39 dX2_put_6 ?_
      refine R_N_alen cx hV hj dX2_put_9 ?_
      refine lv_icmp_ge (tgt := 20) hx hb dX2_put_10 (by decide) (fun hc => ?_) (fun hc => ?_)
      · have h := ifp hc h
        have h1 := Option.some.inj h
        subst h1
        subst hQ
        exact r_vret cx hr hlk hV dX2_put_20
      · have h := ifn hc h
        refine lv_aload_n hx hb dX2_put_13 rfl (lv_at hl 0 rfl) ?_
        refine G_X2_cells cx hV hj mk_1_39 dX2_put_14 ?_
        refine lv_iload_n hx hb dX2_put_17 rfl (lv_at hl 1 rfl) ?_
        refine lv_iload_n hx hb dX2_put_18 rfl (lv_at hl 2 rfl) ?_
        refine bd_e h (fun σ1 hq h => ?_)
        refine R_N_iast cx hV hj hq dX2_put_19 (fun H locs hV => ?_)
        have h1 := Option.some.inj h
        subst h1
        subst hQ
        exact r_vret cx hr hlk hV dX2_put_20
  rw [hH, hlocs] at goal
  exact goal
theorem k_X2_put {p : Program} {l : Launch} {e : Env} {R : Room} {s : State} {m : MethodId} {a : Array Value} {below : List Frame} {meth : Method} {c : Code} {H : Heap} {locs : List Loc} {cells slots : Nat} {Q : State → Prop} {cc : ByteArray} {own : String} {nL pc : Nat} {ls : Array Slot} {rest : List Value} {A : Nat → Prop} {E : EV} {X : va_W} {σ : St} {j : Nat} {p1 : Int32} {p2 : Int32} {σf : St} (hj : j < 49) (h : x_X2_put j p1 p2 σ = some σf) (cx : CallFix p m c cc nL s a TBL own) (hV : AtW E (wC E σ ++ X) A s H locs) {idx : Nat} (w1 : Cond.methodLink own idx yX2_put ∈ TBL) (hR : (rm_X2_put).frames + 1 ≤ R.frames ∧ 8 + (3 + 11) + (rm_X2_put).locals ≤ R.locals) (hcs : cells ≤ R.cells ∧ slots ≤ R.slots) (hls : ls.size = nL) (hcat : (rest.map fun v => v.category).sum ≤ 8) (d : decode cc pc = .ok (.invokevirtual idx, 3)) (kk : ∀ (H1 : Heap) (locs1 : List Loc), AtW E (wC E σf ++ X) A s H1 locs1 → W p l e R s m a below meth c H1 locs1 cells slots Q (F0 m (pc + 3) ls (rest))) : W p l e R s m a below meth c H locs cells slots Q (F0 m pc ls (.int p2 :: .int p1 :: .ref (eA E (pN j)) :: rest)) :=
  r_callv (n := 2) (As := [.int p1, .int p2]) (q0 := (pN j)) (ci := 2) (qq := (RX2, TX2, 1)) (c_X2_put hj h) wC_fst (wC_N hj) rfl mk_2_122 mk_2_123 mk_1_2 mk_2_124 (by decide +kernel) rfl ⟨rfl, rfl⟩ cx hV w1 hR hcs hls rfl hcat d kk
def x_X2_at (j : Nat) (p1 : Int32) (σ : St) : Option Int32 :=
  (if p1 < 0 then
  some 0
  else
  (if (nI (lenN j)) ≤ p1 then
  some 0
  else
  bd (ldI (gA σ j) (lenN j) p1) fun v1 =>
  some v1))
abbrev rm_X2_at : Room := { frames := 0, cells := 0, slots := 0, locals := 0 }
set_option maxHeartbeats 4000000 in
set_option maxRecDepth 100000 in
theorem c_X2_at {l : Launch} {E : EV} {X : va_W} {σ : St} {j : Nat} {p1 : Int32} {rv : Int32} (hj : j < 49) (h : x_X2_at j p1 σ = some rv) : CM l yX2_at cX2_at 2 (some .int) rm_X2_at [.ref (eA E (pN j)), .int p1] E (wC E σ ++ X) (wC E σ ++ X) (qI rv) := by
  refine CM.start (by decide) (Nat.le_of_ble_eq_true rfl) (fun p e s m a below meth c A ls cx hr hlk hV hl => ?_)
  have cx : CallFix p m c cX2_at 2 s a TBL RX2 := cx
  have hx := cx.1
  have hb := cx.2.1
  have hl : lv_has ls 2 [(0, .ref (eA E (pN j))), (1, .int p1)] := hl
  generalize hQ : EQ E (wC E σ ++ X) (qI rv) A s a below = QQ
  obtain ⟨H, hH⟩ : ∃ H, H = s.heap := ⟨_, rfl⟩
  obtain ⟨locs, hlocs⟩ : ∃ z, z = ([] : List Loc) := ⟨_, rfl⟩
  have hV : AtW E (wC E σ ++ X) A s H locs := by rw [hH, hlocs]; exact hV
  have goal : W p l e rm_X2_at s m a below meth c H locs 0 0 QQ (F0 m 0 ls []) := by
    unfold x_X2_at at h
    refine lv_iload_n hx hb dX2_at_0 rfl (lv_at hl 1 rfl) ?_
    refine lv_if_lt (tgt := 22) hx hb dX2_at_1 (by decide) (fun hc => ?_) (fun hc => ?_)
    · have h := ifp hc h
      refine lv_iconst (v := 0) hx hb dX2_at_22 (by decide) ?_
      have h1 := Option.some.inj h
      subst h1
      subst hQ
      exact r_ireti cx hr hlk hV dX2_at_23
    · have h := ifn hc h
      refine lv_iload_n hx hb dX2_at_4 rfl (lv_at hl 1 rfl) ?_
      refine lv_aload_n hx hb dX2_at_5 rfl (lv_at hl 0 rfl) ?_
      refine G_X2_cells cx hV hj mk_1_39 dX2_at_6 ?_
      refine R_N_alen cx hV hj dX2_at_9 ?_
      refine lv_icmp_ge (tgt := 22) hx hb dX2_at_10 (by decide) (fun hc => ?_) (fun hc => ?_)
      · have h := ifp hc h
        refine lv_iconst (v := 0) hx hb dX2_at_22 (by decide) ?_
        have h1 := Option.some.inj h
        subst h1
        subst hQ
        exact r_ireti cx hr hlk hV dX2_at_23
      · have h := ifn hc h
        refine lv_aload_n hx hb dX2_at_13 rfl (lv_at hl 0 rfl) ?_
        refine G_X2_cells cx hV hj mk_1_39 dX2_at_14 ?_
        refine lv_iload_n hx hb dX2_at_17 rfl (lv_at hl 1 rfl) ?_
        refine bd_e h (fun v1 hq h => ?_)
        refine R_N_iald cx hV hj hq dX2_at_18 ?_
        refine lv_goto (tgt := 23) hx hb dX2_at_19 (by decide) ?_
        have h1 := Option.some.inj h
        subst h1
        subst hQ
        exact r_ireti cx hr hlk hV dX2_at_23
  rw [hH, hlocs] at goal
  exact goal
theorem k_X2_at {p : Program} {l : Launch} {e : Env} {R : Room} {s : State} {m : MethodId} {a : Array Value} {below : List Frame} {meth : Method} {c : Code} {H : Heap} {locs : List Loc} {cells slots : Nat} {Q : State → Prop} {cc : ByteArray} {own : String} {nL pc : Nat} {ls : Array Slot} {rest : List Value} {A : Nat → Prop} {E : EV} {X : va_W} {σ : St} {j : Nat} {p1 : Int32} {rv : Int32} (hj : j < 49) (h : x_X2_at j p1 σ = some rv) (cx : CallFix p m c cc nL s a TBL own) (hV : AtW E (wC E σ ++ X) A s H locs) {idx : Nat} (w1 : Cond.methodLink own idx yX2_at ∈ TBL) (hR : (rm_X2_at).frames + 1 ≤ R.frames ∧ 8 + (2 + 11) + (rm_X2_at).locals ≤ R.locals) (hcs : cells ≤ R.cells ∧ slots ≤ R.slots) (hls : ls.size = nL) (hcat : (rest.map fun v => v.category).sum ≤ 8) (d : decode cc pc = .ok (.invokevirtual idx, 3)) (kk : ∀ (H1 : Heap) (locs1 : List Loc), AtW E (wC E σ ++ X) A s H1 locs1 → W p l e R s m a below meth c H1 locs1 cells slots Q (F0 m (pc + 3) ls (.int rv :: rest))) : W p l e R s m a below meth c H locs cells slots Q (F0 m pc ls (.int p1 :: .ref (eA E (pN j)) :: rest)) :=
  r_calli (n := 1) (As := [.int p1]) (q0 := (pN j)) (ci := 2) (qq := (RX2, TX2, 1)) (c_X2_at hj h) rfl (wC_N hj) rfl mk_2_134 mk_2_135 mk_1_2 mk_2_136 (by decide +kernel) rfl ⟨rfl, rfl⟩ cx hV w1 hR hcs hls rfl hcat d kk
def x_X2_copy_L2 (j : Nat) (j1 : Nat) (u1 : Int32) (σ2 : St) : Option (Bool × (Int32 × St)) :=
  (if (nI (lenN j)) ≤ u1 then
  some (false, (u1, σ2))
  else
  bd (x_X2_at j1 u1 σ2) fun v3 =>
  bd (stI σ2 j (lenN j) u1 v3) fun σ4 =>
  some (true, ((u1 + 1), σ4)))
def x_X2_copy (j : Nat) (j1 : Nat) (σ : St) : Option St :=
  bd2 (lp (fun v : (Int32 × St) => x_X2_copy_L2 j j1 v.1 v.2) FU (0, σ)) fun z5 σ6 =>
  some σ6
abbrev rm_X2_copy : Room := { frames := 1, cells := 0, slots := 0, locals := 21 }
set_option maxHeartbeats 4000000 in
set_option maxRecDepth 100000 in
theorem c_X2_copy {l : Launch} {E : EV} {X : va_W} {σ : St} {j : Nat} {j1 : Nat} {σf : St} (hj : j < 49) (hj1 : j1 < 49) (h : x_X2_copy j j1 σ = some σf) : CM l yX2_copy cX2_copy 3 none rm_X2_copy [.ref (eA E (pN j)), .ref (eA E (pN j1))] E (wC E σ ++ X) (wC E σf ++ X) qV := by
  refine CM.start (by decide) (Nat.le_of_ble_eq_true rfl) (fun p e s m a below meth c A ls cx hr hlk hV hl => ?_)
  have cx : CallFix p m c cX2_copy 3 s a TBL RX2 := cx
  have hx := cx.1
  have hb := cx.2.1
  have hl : lv_has ls 3 [(0, .ref (eA E (pN j))), (1, .ref (eA E (pN j1)))] := hl
  generalize hQ : EQ E (wC E σf ++ X) qV A s a below = QQ
  obtain ⟨H, hH⟩ : ∃ H, H = s.heap := ⟨_, rfl⟩
  obtain ⟨locs, hlocs⟩ : ∃ z, z = ([] : List Loc) := ⟨_, rfl⟩
  have hV : AtW E (wC E σ ++ X) A s H locs := by rw [hH, hlocs]; exact hV
  have goal : W p l e rm_X2_copy s m a below meth c H locs 0 0 QQ (F0 m 0 ls []) := by
    unfold x_X2_copy at h
    refine lv_iconst (v := 0) hx hb dX2_copy_0 (by decide) ?_
    refine lv_istore_n (lv' := [(2, .int 0), (0, .ref (eA E (pN j))), (1, .ref (eA E (pN j1)))]) hx hb dX2_copy_1 rfl hl (by decide) rfl (fun ls hl => ?_)
    refine bd2_e h (fun z5 σ6 ho h => ?_)
    refine (lp_rule (G := (fun v : (Int32 × St) => ∀ (H : Heap) (locs : List Loc) (ls : Array Slot), AtW E (wC E v.2 ++ X) A s H locs → lv_has ls 3 [(0, .ref (eA E (pN j))), (1, .ref (eA E (pN j1))), (2, .int v.1)] → W p l e rm_X2_copy s m a below meth c H locs 0 0 QQ (F0 m 2 ls []))) (K := (fun v : (Int32 × St) => ∀ (H : Heap) (locs : List Loc) (ls : Array Slot), AtW E (wC E v.2 ++ X) A s H locs → lv_has ls 3 [] → W p l e rm_X2_copy s m a below meth c H locs 0 0 QQ (F0 m 28 ls []))) (fun v b1 y1 h hT1 hF1 => ?_) ho (fun H locs ls hV hl => ?_)) _ _ _ hV (lv_sub hl [1, 2, 0] rfl)
    · obtain ⟨u1, σ2⟩ := v
      have h : x_X2_copy_L2 j j1 u1 σ2 = some (b1, y1) := h
      intro H locs ls hV hl
      have hV : AtW E (wC E σ2 ++ X) A s H locs := hV
      have hl : lv_has ls 3 [(0, .ref (eA E (pN j))), (1, .ref (eA E (pN j1))), (2, .int u1)] := hl
      unfold x_X2_copy_L2 at h
      refine lv_iload_n hx hb dX2_copy_2 rfl (lv_at hl 2 rfl) ?_
      refine lv_aload_n hx hb dX2_copy_3 rfl (lv_at hl 0 rfl) ?_
      refine G_X2_cells cx hV hj mk_1_39 dX2_copy_4 ?_
      refine R_N_alen cx hV hj dX2_copy_7 ?_
      refine lv_icmp_ge (tgt := 28) hx hb dX2_copy_8 (by decide) (fun hc => ?_) (fun hc => ?_)
      · have h := ifp hc h
        cases h
        exact hF1 rfl _ _ _ hV (lv_sub hl [] rfl)
      · have h := ifn hc h
        refine lv_aload_n hx hb dX2_copy_11 rfl (lv_at hl 0 rfl) ?_
        refine G_X2_cells cx hV hj mk_1_39 dX2_copy_12 ?_
        refine lv_iload_n hx hb dX2_copy_15 rfl (lv_at hl 2 rfl) ?_
        refine lv_aload_n hx hb dX2_copy_16 rfl (lv_at hl 1 rfl) ?_
        refine lv_iload_n hx hb dX2_copy_17 rfl (lv_at hl 2 rfl) ?_
        refine bd_e h (fun v3 hq h => ?_)
        refine k_X2_at hj1 hq cx hV mk_2_133 ⟨Nat.le_of_ble_eq_true rfl, Nat.le_of_ble_eq_true rfl⟩ ⟨Nat.zero_le _, Nat.zero_le _⟩ hl.1 (Nat.le_of_ble_eq_true rfl) dX2_copy_18 (fun H locs hV => ?_)
        refine bd_e h (fun σ4 hq h => ?_)
        refine R_N_iast cx hV hj hq dX2_copy_21 (fun H locs hV => ?_)
        refine lv_iinc (v := (u1 + 1)) (lv' := [(2, .int (u1 + 1)), (0, .ref (eA E (pN j))), (1, .ref (eA E (pN j1)))]) hx hb dX2_copy_22 hl (k := 2) rfl rfl (by decide) rfl (fun ls hl => ?_)
        refine lv_goto (tgt := 2) hx hb dX2_copy_25 (by decide) ?_
        cases h
        exact hT1 rfl _ _ _ hV (lv_sub hl [1, 2, 0] rfl)
    · have hV : AtW E (wC E σ6 ++ X) A s H locs := hV
      have hl : lv_has ls 3 [] := hl
      have h1 := Option.some.inj h
      subst h1
      subst hQ
      exact r_vret cx hr hlk hV dX2_copy_28
  rw [hH, hlocs] at goal
  exact goal
theorem k_X2_copy {p : Program} {l : Launch} {e : Env} {R : Room} {s : State} {m : MethodId} {a : Array Value} {below : List Frame} {meth : Method} {c : Code} {H : Heap} {locs : List Loc} {cells slots : Nat} {Q : State → Prop} {cc : ByteArray} {own : String} {nL pc : Nat} {ls : Array Slot} {rest : List Value} {A : Nat → Prop} {E : EV} {X : va_W} {σ : St} {j : Nat} {j1 : Nat} {σf : St} (hj : j < 49) (hj1 : j1 < 49) (h : x_X2_copy j j1 σ = some σf) (cx : CallFix p m c cc nL s a TBL own) (hV : AtW E (wC E σ ++ X) A s H locs) {idx : Nat} (w1 : Cond.methodLink own idx yX2_copy ∈ TBL) (hR : (rm_X2_copy).frames + 1 ≤ R.frames ∧ 8 + (3 + 11) + (rm_X2_copy).locals ≤ R.locals) (hcs : cells ≤ R.cells ∧ slots ≤ R.slots) (hls : ls.size = nL) (hcat : (rest.map fun v => v.category).sum ≤ 8) (d : decode cc pc = .ok (.invokevirtual idx, 3)) (kk : ∀ (H1 : Heap) (locs1 : List Loc), AtW E (wC E σf ++ X) A s H1 locs1 → W p l e R s m a below meth c H1 locs1 cells slots Q (F0 m (pc + 3) ls (rest))) : W p l e R s m a below meth c H locs cells slots Q (F0 m pc ls (.ref (eA E (pN j1)) :: .ref (eA E (pN j)) :: rest)) :=
  r_callv (n := 1) (As := [.ref (eA E (pN j1))]) (q0 := (pN j)) (ci := 2) (qq := (RX2, TX2, 1)) (c_X2_copy hj hj1 h) wC_fst (wC_N hj) rfl mk_2_130 mk_2_131 mk_1_2 mk_2_132 (by decide +kernel) rfl ⟨rfl, rfl⟩ cx hV w1 hR hcs hls rfl hcat d kk
def x_X2_add (j : Nat) (p1 : Int32) (p2 : Int32) (σ : St) : Option St :=
  bd (x_X2_at j p1 σ) fun v1 =>
  bd (x_X2_put j p1 (v1 + p2) σ) fun σ2 =>
  some σ2
abbrev rm_X2_add : Room := { frames := 1, cells := 0, slots := 0, locals := 22 }
set_option maxHeartbeats 4000000 in
set_option maxRecDepth 100000 in
theorem c_X2_add {l : Launch} {E : EV} {X : va_W} {σ : St} {j : Nat} {p1 : Int32} {p2 : Int32} {σf : St} (hj : j < 49) (h : x_X2_add j p1 p2 σ = some σf) : CM l yX2_add cX2_add 3 none rm_X2_add [.ref (eA E (pN j)), .int p1, .int p2] E (wC E σ ++ X) (wC E σf ++ X) qV := by
  refine CM.start (by decide) (Nat.le_of_ble_eq_true rfl) (fun p e s m a below meth c A ls cx hr hlk hV hl => ?_)
  have cx : CallFix p m c cX2_add 3 s a TBL RX2 := cx
  have hx := cx.1
  have hb := cx.2.1
  have hl : lv_has ls 3 [(0, .ref (eA E (pN j))), (1, .int p1), (2, .int p2)] := hl
  generalize hQ : EQ E (wC E σf ++ X) qV A s a below = QQ
  obtain ⟨H, hH⟩ : ∃ H, H = s.heap := ⟨_, rfl⟩
  obtain ⟨locs, hlocs⟩ : ∃ z, z = ([] : List Loc) := ⟨_, rfl⟩
  have hV : AtW E (wC E σ ++ X) A s H locs := by rw [hH, hlocs]; exact hV
  have goal : W p l e rm_X2_add s m a below meth c H locs 0 0 QQ (F0 m 0 ls []) := by
    unfold x_X2_add at h
    refine lv_aload_n hx hb dX2_add_0 rfl (lv_at hl 0 rfl) ?_
    refine lv_iload_n hx hb dX2_add_1 rfl (lv_at hl 1 rfl) ?_
    refine lv_aload_n hx hb dX2_add_2 rfl (lv_at hl 0 rfl) ?_
    refine lv_iload_n hx hb dX2_add_3 rfl (lv_at hl 1 rfl) ?_
    refine bd_e h (fun v1 hq h => ?_)
    refine k_X2_at hj hq cx hV mk_2_133 ⟨Nat.le_of_ble_eq_true rfl, Nat.le_of_ble_eq_true rfl⟩ ⟨Nat.zero_le _, Nat.zero_le _⟩ hl.1 (Nat.le_of_ble_eq_true rfl) dX2_add_4 (fun H locs hV => ?_)
    refine lv_iload_n hx hb dX2_add_7 rfl (lv_at hl 2 rfl) ?_
    refine lv_iadd hx hb dX2_add_8 ?_
    refine bd_e h (fun σ2 hq h => ?_)
    refine k_X2_put hj hq cx hV mk_3_48 ⟨Nat.le_of_ble_eq_true rfl, Nat.le_of_ble_eq_true rfl⟩ ⟨Nat.zero_le _, Nat.zero_le _⟩ hl.1 (Nat.le_of_ble_eq_true rfl) dX2_add_9 (fun H locs hV => ?_)
    have h1 := Option.some.inj h
    subst h1
    subst hQ
    exact r_vret cx hr hlk hV dX2_add_12
  rw [hH, hlocs] at goal
  exact goal
theorem k_X2_add {p : Program} {l : Launch} {e : Env} {R : Room} {s : State} {m : MethodId} {a : Array Value} {below : List Frame} {meth : Method} {c : Code} {H : Heap} {locs : List Loc} {cells slots : Nat} {Q : State → Prop} {cc : ByteArray} {own : String} {nL pc : Nat} {ls : Array Slot} {rest : List Value} {A : Nat → Prop} {E : EV} {X : va_W} {σ : St} {j : Nat} {p1 : Int32} {p2 : Int32} {σf : St} (hj : j < 49) (h : x_X2_add j p1 p2 σ = some σf) (cx : CallFix p m c cc nL s a TBL own) (hV : AtW E (wC E σ ++ X) A s H locs) {idx : Nat} (w1 : Cond.methodLink own idx yX2_add ∈ TBL) (hR : (rm_X2_add).frames + 1 ≤ R.frames ∧ 8 + (3 + 11) + (rm_X2_add).locals ≤ R.locals) (hcs : cells ≤ R.cells ∧ slots ≤ R.slots) (hls : ls.size = nL) (hcat : (rest.map fun v => v.category).sum ≤ 8) (d : decode cc pc = .ok (.invokevirtual idx, 3)) (kk : ∀ (H1 : Heap) (locs1 : List Loc), AtW E (wC E σf ++ X) A s H1 locs1 → W p l e R s m a below meth c H1 locs1 cells slots Q (F0 m (pc + 3) ls (rest))) : W p l e R s m a below meth c H locs cells slots Q (F0 m pc ls (.int p2 :: .int p1 :: .ref (eA E (pN j)) :: rest)) :=
  r_callv (n := 2) (As := [.int p1, .int p2]) (q0 := (pN j)) (ci := 2) (qq := (RX2, TX2, 1)) (c_X2_add hj h) wC_fst (wC_N hj) rfl mk_3_45 mk_3_46 mk_1_2 mk_3_47 (by decide +kernel) rfl ⟨rfl, rfl⟩ cx hV w1 hR hcs hls rfl hcat d kk
def x_X2_sum_L4 (j : Nat) (σ : St) (u1 : Int32) (u2 : Int32) : Option (Bool × (Int32 × Int32)) :=
  (if (nI (lenN j)) ≤ u2 then
  some (false, (u1, u2))
  else
  bd (ldI (gA σ j) (lenN j) u2) fun v3 =>
  some (true, ((u1 + v3), (u2 + 1))))
def x_X2_sum (j : Nat) (σ : St) : Option Int32 :=
  bd2 (lp (fun v : (Int32 × Int32) => x_X2_sum_L4 j σ v.1 v.2) FU (0, 0)) fun z4 z5 =>
  some z4
abbrev rm_X2_sum : Room := { frames := 0, cells := 0, slots := 0, locals := 0 }
set_option maxHeartbeats 4000000 in
set_option maxRecDepth 100000 in
theorem c_X2_sum {l : Launch} {E : EV} {X : va_W} {σ : St} {j : Nat} {rv : Int32} (hj : j < 49) (h : x_X2_sum j σ = some rv) : CM l yX2_sum cX2_sum 3 (some .int) rm_X2_sum [.ref (eA E (pN j))] E (wC E σ ++ X) (wC E σ ++ X) (qI rv) := by
  refine CM.start (by decide) (Nat.le_of_ble_eq_true rfl) (fun p e s m a below meth c A ls cx hr hlk hV hl => ?_)
  have cx : CallFix p m c cX2_sum 3 s a TBL RX2 := cx
  have hx := cx.1
  have hb := cx.2.1
  have hl : lv_has ls 3 [(0, .ref (eA E (pN j)))] := hl
  generalize hQ : EQ E (wC E σ ++ X) (qI rv) A s a below = QQ
  obtain ⟨H, hH⟩ : ∃ H, H = s.heap := ⟨_, rfl⟩
  obtain ⟨locs, hlocs⟩ : ∃ z, z = ([] : List Loc) := ⟨_, rfl⟩
  have hV : AtW E (wC E σ ++ X) A s H locs := by rw [hH, hlocs]; exact hV
  have goal : W p l e rm_X2_sum s m a below meth c H locs 0 0 QQ (F0 m 0 ls []) := by
    unfold x_X2_sum at h
    refine lv_iconst (v := 0) hx hb dX2_sum_0 (by decide) ?_
    refine lv_istore_n (lv' := [(1, .int 0), (0, .ref (eA E (pN j)))]) hx hb dX2_sum_1 rfl hl (by decide) rfl (fun ls hl => ?_)
    refine lv_iconst (v := 0) hx hb dX2_sum_2 (by decide) ?_
    refine lv_istore_n (lv' := [(2, .int 0), (1, .int 0), (0, .ref (eA E (pN j)))]) hx hb dX2_sum_3 rfl hl (by decide) rfl (fun ls hl => ?_)
    refine bd2_e h (fun z4 z5 ho h => ?_)
    refine (lp_rule (G := (fun v : (Int32 × Int32) => ∀ (H : Heap) (locs : List Loc) (ls : Array Slot), AtW E (wC E σ ++ X) A s H locs → lv_has ls 3 [(0, .ref (eA E (pN j))), (1, .int v.1), (2, .int v.2)] → W p l e rm_X2_sum s m a below meth c H locs 0 0 QQ (F0 m 4 ls []))) (K := (fun v : (Int32 × Int32) => ∀ (H : Heap) (locs : List Loc) (ls : Array Slot), AtW E (wC E σ ++ X) A s H locs → lv_has ls 3 [(1, .int v.1)] → W p l e rm_X2_sum s m a below meth c H locs 0 0 QQ (F0 m 28 ls []))) (fun v b1 y1 h hT1 hF1 => ?_) ho (fun H locs ls hV hl => ?_)) _ _ _ hV (lv_sub hl [2, 1, 0] rfl)
    · obtain ⟨u1, u2⟩ := v
      have h : x_X2_sum_L4 j σ u1 u2 = some (b1, y1) := h
      intro H locs ls hV hl
      have hV : AtW E (wC E σ ++ X) A s H locs := hV
      have hl : lv_has ls 3 [(0, .ref (eA E (pN j))), (1, .int u1), (2, .int u2)] := hl
      unfold x_X2_sum_L4 at h
      refine lv_iload_n hx hb dX2_sum_4 rfl (lv_at hl 2 rfl) ?_
      refine lv_aload_n hx hb dX2_sum_5 rfl (lv_at hl 0 rfl) ?_
      refine G_X2_cells cx hV hj mk_1_39 dX2_sum_6 ?_
      refine R_N_alen cx hV hj dX2_sum_9 ?_
      refine lv_icmp_ge (tgt := 28) hx hb dX2_sum_10 (by decide) (fun hc => ?_) (fun hc => ?_)
      · have h := ifp hc h
        cases h
        exact hF1 rfl _ _ _ hV (lv_sub hl [1] rfl)
      · have h := ifn hc h
        refine lv_iload_n hx hb dX2_sum_13 rfl (lv_at hl 1 rfl) ?_
        refine lv_aload_n hx hb dX2_sum_14 rfl (lv_at hl 0 rfl) ?_
        refine G_X2_cells cx hV hj mk_1_39 dX2_sum_15 ?_
        refine lv_iload_n hx hb dX2_sum_18 rfl (lv_at hl 2 rfl) ?_
        refine bd_e h (fun v3 hq h => ?_)
        refine R_N_iald cx hV hj hq dX2_sum_19 ?_
        refine lv_iadd hx hb dX2_sum_20 ?_
        refine lv_istore_n (lv' := [(1, .int (u1 + v3)), (0, .ref (eA E (pN j))), (2, .int u2)]) hx hb dX2_sum_21 rfl hl (by decide) rfl (fun ls hl => ?_)
        refine lv_iinc (v := (u2 + 1)) (lv' := [(2, .int (u2 + 1)), (1, .int (u1 + v3)), (0, .ref (eA E (pN j)))]) hx hb dX2_sum_22 hl (k := 2) rfl rfl (by decide) rfl (fun ls hl => ?_)
        refine lv_goto (tgt := 4) hx hb dX2_sum_25 (by decide) ?_
        cases h
        exact hT1 rfl _ _ _ hV (lv_sub hl [2, 1, 0] rfl)
    · have hV : AtW E (wC E σ ++ X) A s H locs := hV
      have hl : lv_has ls 3 [(1, .int z4)] := hl
      refine lv_iload_n hx hb dX2_sum_28 rfl (lv_at hl 0 rfl) ?_
      have h1 := Option.some.inj h
      subst h1
      subst hQ
      exact r_ireti cx hr hlk hV dX2_sum_29
  rw [hH, hlocs] at goal
  exact goal
theorem k_X2_sum {p : Program} {l : Launch} {e : Env} {R : Room} {s : State} {m : MethodId} {a : Array Value} {below : List Frame} {meth : Method} {c : Code} {H : Heap} {locs : List Loc} {cells slots : Nat} {Q : State → Prop} {cc : ByteArray} {own : String} {nL pc : Nat} {ls : Array Slot} {rest : List Value} {A : Nat → Prop} {E : EV} {X : va_W} {σ : St} {j : Nat} {rv : Int32} (hj : j < 49) (h : x_X2_sum j σ = some rv) (cx : CallFix p m c cc nL s a TBL own) (hV : AtW E (wC E σ ++ X) A s H locs) {idx : Nat} (w1 : Cond.methodLink own idx yX2_sum ∈ TBL) (hR : (rm_X2_sum).frames + 1 ≤ R.frames ∧ 8 + (3 + 11) + (rm_X2_sum).locals ≤ R.locals) (hcs : cells ≤ R.cells ∧ slots ≤ R.slots) (hls : ls.size = nL) (hcat : (rest.map fun v => v.category).sum ≤ 8) (d : decode cc pc = .ok (.invokevirtual idx, 3)) (kk : ∀ (H1 : Heap) (locs1 : List Loc), AtW E (wC E σ ++ X) A s H1 locs1 → W p l e R s m a below meth c H1 locs1 cells slots Q (F0 m (pc + 3) ls (.int rv :: rest))) : W p l e R s m a below meth c H locs cells slots Q (F0 m pc ls (.ref (eA E (pN j)) :: rest)) :=
  r_calli (n := 0) (As := []) (q0 := (pN j)) (ci := 2) (qq := (RX2, TX2, 1)) (c_X2_sum hj h) rfl (wC_N hj) rfl mk_3_54 mk_3_55 mk_1_2 mk_3_56 (by decide +kernel) rfl ⟨rfl, rfl⟩ cx hV w1 hR hcs hls rfl hcat d kk
def x_X2_placeOf_L2 (j : Nat) (p1 : Int32) (σ : St) (u1 : Int32) : Option ((Bool × Int32) ⊕ Int32) :=
  (if (nI (lenN j)) ≤ u1 then
  some (.inl (false, u1))
  else
  bd (ldI (gA σ j) (lenN j) u1) fun v2 =>
  (if v2 = p1 then
  some (.inr u1)
  else
  some (.inl (true, (u1 + 1)))))
def x_X2_placeOf (j : Nat) (p1 : Int32) (σ : St) : Option Int32 :=
  bs (lpr (fun v : Int32 => x_X2_placeOf_L2 j p1 σ v) FU 0) (fun z3 =>
  some (-1)) some
abbrev rm_X2_placeOf : Room := { frames := 0, cells := 0, slots := 0, locals := 0 }
set_option maxHeartbeats 4000000 in
set_option maxRecDepth 100000 in
theorem c_X2_placeOf {l : Launch} {E : EV} {X : va_W} {σ : St} {j : Nat} {p1 : Int32} {rv : Int32} (hj : j < 49) (h : x_X2_placeOf j p1 σ = some rv) : CM l yX2_placeOf cX2_placeOf 3 (some .int) rm_X2_placeOf [.ref (eA E (pN j)), .int p1] E (wC E σ ++ X) (wC E σ ++ X) (qI rv) := by
  refine CM.start (by decide) (Nat.le_of_ble_eq_true rfl) (fun p e s m a below meth c A ls cx hr hlk hV hl => ?_)
  have cx : CallFix p m c cX2_placeOf 3 s a TBL RX2 := cx
  have hx := cx.1
  have hb := cx.2.1
  have hl : lv_has ls 3 [(0, .ref (eA E (pN j))), (1, .int p1)] := hl
  generalize hQ : EQ E (wC E σ ++ X) (qI rv) A s a below = QQ
  obtain ⟨H, hH⟩ : ∃ H, H = s.heap := ⟨_, rfl⟩
  obtain ⟨locs, hlocs⟩ : ∃ z, z = ([] : List Loc) := ⟨_, rfl⟩
  have hV : AtW E (wC E σ ++ X) A s H locs := by rw [hH, hlocs]; exact hV
  have goal : W p l e rm_X2_placeOf s m a below meth c H locs 0 0 QQ (F0 m 0 ls []) := by
    unfold x_X2_placeOf at h
    refine lv_iconst (v := 0) hx hb dX2_placeOf_0 (by decide) ?_
    refine lv_istore_n (lv' := [(2, .int 0), (0, .ref (eA E (pN j))), (1, .int p1)]) hx hb dX2_placeOf_1 rfl hl (by decide) rfl (fun ls hl => ?_)
    obtain ⟨o1, ho⟩ := bs_get h
    rw [ho] at h
    refine (lpr_rule (G := (fun v : Int32 => ∀ (H : Heap) (locs : List Loc) (ls : Array Slot), AtW E (wC E σ ++ X) A s H locs → lv_has ls 3 [(0, .ref (eA E (pN j))), (1, .int p1), (2, .int v)] → W p l e rm_X2_placeOf s m a below meth c H locs 0 0 QQ (F0 m 2 ls []))) (K := (fun v : Int32 => ∀ (H : Heap) (locs : List Loc) (ls : Array Slot), AtW E (wC E σ ++ X) A s H locs → lv_has ls 3 [] → W p l e rm_X2_placeOf s m a below meth c H locs 0 0 QQ (F0 m 29 ls []))) (KR := (fun r => some r = some rv)) (fun v e1 h hT1 hF1 hR1 => ?_) ho (fun v hv => ?_) (fun r hv => ?_)) _ _ _ hV (lv_sub hl [1, 2, 0] rfl)
    · obtain ⟨u1, rfl⟩ : ∃ z, z = v := ⟨_, rfl⟩
      have h : x_X2_placeOf_L2 j p1 σ u1 = some e1 := h
      intro H locs ls hV hl
      have hV : AtW E (wC E σ ++ X) A s H locs := hV
      have hl : lv_has ls 3 [(0, .ref (eA E (pN j))), (1, .int p1), (2, .int u1)] := hl
      unfold x_X2_placeOf_L2 at h
      refine lv_iload_n hx hb dX2_placeOf_2 rfl (lv_at hl 2 rfl) ?_
      refine lv_aload_n hx hb dX2_placeOf_3 rfl (lv_at hl 0 rfl) ?_
      refine G_X2_cells cx hV hj mk_1_39 dX2_placeOf_4 ?_
      refine R_N_alen cx hV hj dX2_placeOf_7 ?_
      refine lv_icmp_ge (tgt := 29) hx hb dX2_placeOf_8 (by decide) (fun hc => ?_) (fun hc => ?_)
      · have h := ifp hc h
        cases h
        exact hF1 _ rfl _ _ _ hV (lv_sub hl [] rfl)
      · have h := ifn hc h
        refine lv_aload_n hx hb dX2_placeOf_11 rfl (lv_at hl 0 rfl) ?_
        refine G_X2_cells cx hV hj mk_1_39 dX2_placeOf_12 ?_
        refine lv_iload_n hx hb dX2_placeOf_15 rfl (lv_at hl 2 rfl) ?_
        refine bd_e h (fun v2 hq h => ?_)
        refine R_N_iald cx hV hj hq dX2_placeOf_16 ?_
        refine lv_iload_n hx hb dX2_placeOf_17 rfl (lv_at hl 1 rfl) ?_
        refine lv_icmp_ne (tgt := 23) hx hb dX2_placeOf_18 (by decide) (fun hc => ?_) (fun hc => ?_)
        · have h := ifn hc h
          refine lv_iinc (v := (u1 + 1)) (lv' := [(2, .int (u1 + 1)), (0, .ref (eA E (pN j))), (1, .int p1)]) hx hb dX2_placeOf_23 hl (k := 2) rfl rfl (by decide) rfl (fun ls hl => ?_)
          refine lv_goto (tgt := 2) hx hb dX2_placeOf_26 (by decide) ?_
          cases h
          exact hT1 _ rfl _ _ _ hV (lv_sub hl [1, 2, 0] rfl)
        · have h := ifp hc h
          refine lv_iload_n hx hb dX2_placeOf_21 rfl (lv_at hl 2 rfl) ?_
          cases h
          have h := hR1 _ rfl
          cases h
          subst hQ
          exact r_ireti cx hr hlk hV dX2_placeOf_22
    · subst hv
      obtain ⟨z3, rfl⟩ : ∃ z, z = v := ⟨_, rfl⟩
      intro H locs ls hV hl
      have hV : AtW E (wC E σ ++ X) A s H locs := hV
      have hl : lv_has ls 3 [] := hl
      have h := bs_inl h
      refine lv_iconst (v := (-1)) hx hb dX2_placeOf_29 (by decide) ?_
      have h1 := Option.some.inj h
      subst h1
      subst hQ
      exact r_ireti cx hr hlk hV dX2_placeOf_30
    · subst hv
      exact bs_inr h
  rw [hH, hlocs] at goal
  exact goal
theorem k_X2_placeOf {p : Program} {l : Launch} {e : Env} {R : Room} {s : State} {m : MethodId} {a : Array Value} {below : List Frame} {meth : Method} {c : Code} {H : Heap} {locs : List Loc} {cells slots : Nat} {Q : State → Prop} {cc : ByteArray} {own : String} {nL pc : Nat} {ls : Array Slot} {rest : List Value} {A : Nat → Prop} {E : EV} {X : va_W} {σ : St} {j : Nat} {p1 : Int32} {rv : Int32} (hj : j < 49) (h : x_X2_placeOf j p1 σ = some rv) (cx : CallFix p m c cc nL s a TBL own) (hV : AtW E (wC E σ ++ X) A s H locs) {idx : Nat} (w1 : Cond.methodLink own idx yX2_placeOf ∈ TBL) (hR : (rm_X2_placeOf).frames + 1 ≤ R.frames ∧ 8 + (3 + 11) + (rm_X2_placeOf).locals ≤ R.locals) (hcs : cells ≤ R.cells ∧ slots ≤ R.slots) (hls : ls.size = nL) (hcat : (rest.map fun v => v.category).sum ≤ 8) (d : decode cc pc = .ok (.invokevirtual idx, 3)) (kk : ∀ (H1 : Heap) (locs1 : List Loc), AtW E (wC E σ ++ X) A s H1 locs1 → W p l e R s m a below meth c H1 locs1 cells slots Q (F0 m (pc + 3) ls (.int rv :: rest))) : W p l e R s m a below meth c H locs cells slots Q (F0 m pc ls (.int p1 :: .ref (eA E (pN j)) :: rest)) :=
  r_calli (n := 1) (As := [.int p1]) (q0 := (pN j)) (ci := 2) (qq := (RX2, TX2, 1)) (c_X2_placeOf hj h) rfl (wC_N hj) rfl mk_3_62 mk_3_63 mk_1_2 mk_3_64 (by decide +kernel) rfl ⟨rfl, rfl⟩ cx hV w1 hR hcs hls rfl hcat d kk
def x_X2_holds (j : Nat) (p1 : Int32) (σ : St) : Option Int32 :=
  (if p1 < 0 then
  some 0
  else
  (if (nI (lenN j)) ≤ p1 then
  some 0
  else
  some 1))
abbrev rm_X2_holds : Room := { frames := 0, cells := 0, slots := 0, locals := 0 }
set_option maxHeartbeats 4000000 in
set_option maxRecDepth 100000 in
theorem c_X2_holds {l : Launch} {E : EV} {X : va_W} {σ : St} {j : Nat} {p1 : Int32} {rv : Int32} (hj : j < 49) (h : x_X2_holds j p1 σ = some rv) : CM l yX2_holds cX2_holds 2 (some .boolean) rm_X2_holds [.ref (eA E (pN j)), .int p1] E (wC E σ ++ X) (wC E σ ++ X) (qI rv) := by
  refine CM.start (by decide) (Nat.le_of_ble_eq_true rfl) (fun p e s m a below meth c A ls cx hr hlk hV hl => ?_)
  have cx : CallFix p m c cX2_holds 2 s a TBL RX2 := cx
  have hx := cx.1
  have hb := cx.2.1
  have hl : lv_has ls 2 [(0, .ref (eA E (pN j))), (1, .int p1)] := hl
  generalize hQ : EQ E (wC E σ ++ X) (qI rv) A s a below = QQ
  obtain ⟨H, hH⟩ : ∃ H, H = s.heap := ⟨_, rfl⟩
  obtain ⟨locs, hlocs⟩ : ∃ z, z = ([] : List Loc) := ⟨_, rfl⟩
  have hV : AtW E (wC E σ ++ X) A s H locs := by rw [hH, hlocs]; exact hV
  have goal : W p l e rm_X2_holds s m a below meth c H locs 0 0 QQ (F0 m 0 ls []) := by
    unfold x_X2_holds at h
    refine lv_iload_n hx hb dX2_holds_0 rfl (lv_at hl 1 rfl) ?_
    refine lv_if_lt (tgt := 17) hx hb dX2_holds_1 (by decide) (fun hc => ?_) (fun hc => ?_)
    · have h := ifp hc h
      refine lv_iconst (v := 0) hx hb dX2_holds_17 (by decide) ?_
      have h1 := Option.some.inj h
      subst h1
      subst hQ
      exact r_zreti cx hr hlk hV (Or.inl rfl) dX2_holds_18
    · have h := ifn hc h
      refine lv_iload_n hx hb dX2_holds_4 rfl (lv_at hl 1 rfl) ?_
      refine lv_aload_n hx hb dX2_holds_5 rfl (lv_at hl 0 rfl) ?_
      refine G_X2_cells cx hV hj mk_1_39 dX2_holds_6 ?_
      refine R_N_alen cx hV hj dX2_holds_9 ?_
      refine lv_icmp_ge (tgt := 17) hx hb dX2_holds_10 (by decide) (fun hc => ?_) (fun hc => ?_)
      · have h := ifp hc h
        refine lv_iconst (v := 0) hx hb dX2_holds_17 (by decide) ?_
        have h1 := Option.some.inj h
        subst h1
        subst hQ
        exact r_zreti cx hr hlk hV (Or.inl rfl) dX2_holds_18
      · have h := ifn hc h
        refine lv_iconst (v := 1) hx hb dX2_holds_13 (by decide) ?_
        refine lv_goto (tgt := 18) hx hb dX2_holds_14 (by decide) ?_
        have h1 := Option.some.inj h
        subst h1
        subst hQ
        exact r_zreti cx hr hlk hV (Or.inr rfl) dX2_holds_18
  rw [hH, hlocs] at goal
  exact goal
theorem k_X2_holds {p : Program} {l : Launch} {e : Env} {R : Room} {s : State} {m : MethodId} {a : Array Value} {below : List Frame} {meth : Method} {c : Code} {H : Heap} {locs : List Loc} {cells slots : Nat} {Q : State → Prop} {cc : ByteArray} {own : String} {nL pc : Nat} {ls : Array Slot} {rest : List Value} {A : Nat → Prop} {E : EV} {X : va_W} {σ : St} {j : Nat} {p1 : Int32} {rv : Int32} (hj : j < 49) (h : x_X2_holds j p1 σ = some rv) (cx : CallFix p m c cc nL s a TBL own) (hV : AtW E (wC E σ ++ X) A s H locs) {idx : Nat} (w1 : Cond.methodLink own idx yX2_holds ∈ TBL) (hR : (rm_X2_holds).frames + 1 ≤ R.frames ∧ 8 + (2 + 11) + (rm_X2_holds).locals ≤ R.locals) (hcs : cells ≤ R.cells ∧ slots ≤ R.slots) (hls : ls.size = nL) (hcat : (rest.map fun v => v.category).sum ≤ 8) (d : decode cc pc = .ok (.invokevirtual idx, 3)) (kk : ∀ (H1 : Heap) (locs1 : List Loc), AtW E (wC E σ ++ X) A s H1 locs1 → W p l e R s m a below meth c H1 locs1 cells slots Q (F0 m (pc + 3) ls (.int rv :: rest))) : W p l e R s m a below meth c H locs cells slots Q (F0 m pc ls (.int p1 :: .ref (eA E (pN j)) :: rest)) :=
  r_calli (n := 1) (As := [.int p1]) (q0 := (pN j)) (ci := 2) (qq := (RX2, TX2, 1)) (c_X2_holds hj h) rfl (wC_N hj) rfl mk_3_70 mk_3_71 mk_1_2 mk_3_72 (by decide +kernel) rfl ⟨rfl, rfl⟩ cx hV w1 hR hcs hls rfl hcat d kk
def x_X2_shift_L26 (j : Nat) (p1 : Int32) (p2 : Int32) (v3 : Int32) (u4 : Int32) (σ5 : St) : Option (Bool × (Int32 × St)) :=
  (if p2 ≤ u4 then
  some (false, (u4, σ5))
  else
  bd (x_X2_at j (u4 + 1) σ5) fun v6 =>
  bd (x_X2_put j u4 v6 σ5) fun σ7 =>
  some (true, ((u4 + 1), σ7)))
def x_X2_shift_L55 (j : Nat) (p2 : Int32) (v3 : Int32) (u10 : Int32) (σ11 : St) : Option (Bool × (Int32 × St)) :=
  (if u10 ≤ p2 then
  some (false, (u10, σ11))
  else
  bd (x_X2_at j (u10 - 1) σ11) fun v12 =>
  bd (x_X2_put j u10 v12 σ11) fun σ13 =>
  some (true, ((u10 + (-1)), σ13)))
def x_X2_shift (j : Nat) (p1 : Int32) (p2 : Int32) (σ : St) : Option St :=
  bd (x_X2_holds j p1 σ) fun v1 =>
  (if v1 = 0 then
  some σ
  else
  bd (x_X2_holds j p2 σ) fun v2 =>
  (if v2 = 0 then
  some σ
  else
  bd (x_X2_at j p1 σ) fun v3 =>
  bd2 (lp (fun v : (Int32 × St) => x_X2_shift_L26 j p1 p2 v3 v.1 v.2) FU (p1, σ)) fun z8 σ9 =>
  bd2 (lp (fun v : (Int32 × St) => x_X2_shift_L55 j p2 v3 v.1 v.2) FU (p1, σ9)) fun z14 σ15 =>
  bd (x_X2_put j p2 v3 σ15) fun σ16 =>
  some σ16))
abbrev rm_X2_shift : Room := { frames := 1, cells := 0, slots := 0, locals := 22 }
set_option maxHeartbeats 4000000 in
set_option maxRecDepth 100000 in
theorem c_X2_shift {l : Launch} {E : EV} {X : va_W} {σ : St} {j : Nat} {p1 : Int32} {p2 : Int32} {σf : St} (hj : j < 49) (h : x_X2_shift j p1 p2 σ = some σf) : CM l yX2_shift cX2_shift 5 none rm_X2_shift [.ref (eA E (pN j)), .int p1, .int p2] E (wC E σ ++ X) (wC E σf ++ X) qV := by
  refine CM.start (by decide) (Nat.le_of_ble_eq_true rfl) (fun p e s m a below meth c A ls cx hr hlk hV hl => ?_)
  have cx : CallFix p m c cX2_shift 5 s a TBL RX2 := cx
  have hx := cx.1
  have hb := cx.2.1
  have hl : lv_has ls 5 [(0, .ref (eA E (pN j))), (1, .int p1), (2, .int p2)] := hl
  generalize hQ : EQ E (wC E σf ++ X) qV A s a below = QQ
  obtain ⟨H, hH⟩ : ∃ H, H = s.heap := ⟨_, rfl⟩
  obtain ⟨locs, hlocs⟩ : ∃ z, z = ([] : List Loc) := ⟨_, rfl⟩
  have hV : AtW E (wC E σ ++ X) A s H locs := by rw [hH, hlocs]; exact hV
  have goal : W p l e rm_X2_shift s m a below meth c H locs 0 0 QQ (F0 m 0 ls []) := by
    unfold x_X2_shift at h
    refine lv_aload_n hx hb dX2_shift_0 rfl (lv_at hl 0 rfl) ?_
    refine lv_iload_n hx hb dX2_shift_1 rfl (lv_at hl 1 rfl) ?_
    refine bd_e h (fun v1 hq h => ?_)
    refine k_X2_holds hj hq cx hV mk_3_69 ⟨Nat.le_of_ble_eq_true rfl, Nat.le_of_ble_eq_true rfl⟩ ⟨Nat.zero_le _, Nat.zero_le _⟩ hl.1 (Nat.le_of_ble_eq_true rfl) dX2_shift_2 (fun H locs hV => ?_)
    refine lv_if_eq (tgt := 16) hx hb dX2_shift_5 (by decide) (fun hc => ?_) (fun hc => ?_)
    · have h := ifp hc h
      have h1 := Option.some.inj h
      subst h1
      subst hQ
      exact r_vret cx hr hlk hV dX2_shift_16
    · have h := ifn hc h
      refine lv_aload_n hx hb dX2_shift_8 rfl (lv_at hl 0 rfl) ?_
      refine lv_iload_n hx hb dX2_shift_9 rfl (lv_at hl 2 rfl) ?_
      refine bd_e h (fun v2 hq h => ?_)
      refine k_X2_holds hj hq cx hV mk_3_69 ⟨Nat.le_of_ble_eq_true rfl, Nat.le_of_ble_eq_true rfl⟩ ⟨Nat.zero_le _, Nat.zero_le _⟩ hl.1 (Nat.le_of_ble_eq_true rfl) dX2_shift_10 (fun H locs hV => ?_)
      refine lv_if_ne (tgt := 17) hx hb dX2_shift_13 (by decide) (fun hc => ?_) (fun hc => ?_)
      · have h := ifn hc h
        refine lv_aload_n hx hb dX2_shift_17 rfl (lv_at hl 0 rfl) ?_
        refine lv_iload_n hx hb dX2_shift_18 rfl (lv_at hl 1 rfl) ?_
        refine bd_e h (fun v3 hq h => ?_)
        refine k_X2_at hj hq cx hV mk_2_133 ⟨Nat.le_of_ble_eq_true rfl, Nat.le_of_ble_eq_true rfl⟩ ⟨Nat.zero_le _, Nat.zero_le _⟩ hl.1 (Nat.le_of_ble_eq_true rfl) dX2_shift_19 (fun H locs hV => ?_)
        refine lv_istore_n (lv' := [(3, .int v3), (0, .ref (eA E (pN j))), (1, .int p1), (2, .int p2)]) hx hb dX2_shift_22 rfl hl (by decide) rfl (fun ls hl => ?_)
        refine lv_iload_n hx hb dX2_shift_23 rfl (lv_at hl 2 rfl) ?_
        refine lv_istore (lv' := [(4, .int p1), (3, .int v3), (0, .ref (eA E (pN j))), (1, .int p1), (2, .int p2)]) hx hb dX2_shift_24 hl (by decide) rfl (fun ls hl => ?_)
        refine bd2_e h (fun z8 σ9 ho h => ?_)
        refine (lp_rule (G := (fun v : (Int32 × St) => ∀ (H : Heap) (locs : List Loc) (ls : Array Slot), AtW E (wC E v.2 ++ X) A s H locs → lv_has ls 5 [(0, .ref (eA E (pN j))), (1, .int p1), (2, .int p2), (3, .int v3), (4, .int v.1)] → W p l e rm_X2_shift s m a below meth c H locs 0 0 QQ (F0 m 26 ls []))) (K := (fun v : (Int32 × St) => ∀ (H : Heap) (locs : List Loc) (ls : Array Slot), AtW E (wC E v.2 ++ X) A s H locs → lv_has ls 5 [(0, .ref (eA E (pN j))), (1, .int p1), (2, .int p2), (3, .int v3)] → W p l e rm_X2_shift s m a below meth c H locs 0 0 QQ (F0 m 52 ls []))) (fun v b1 y1 h hT1 hF1 => ?_) ho (fun H locs ls hV hl => ?_)) _ _ _ hV (lv_sub hl [2, 3, 4, 1, 0] rfl)
        · obtain ⟨u4, σ5⟩ := v
          have h : x_X2_shift_L26 j p1 p2 v3 u4 σ5 = some (b1, y1) := h
          intro H locs ls hV hl
          have hV : AtW E (wC E σ5 ++ X) A s H locs := hV
          have hl : lv_has ls 5 [(0, .ref (eA E (pN j))), (1, .int p1), (2, .int p2), (3, .int v3), (4, .int u4)] := hl
          unfold x_X2_shift_L26 at h
          refine lv_iload hx hb dX2_shift_26 (lv_at hl 4 rfl) ?_
          refine lv_iload_n hx hb dX2_shift_28 rfl (lv_at hl 2 rfl) ?_
          refine lv_icmp_ge (tgt := 52) hx hb dX2_shift_29 (by decide) (fun hc => ?_) (fun hc => ?_)
          · have h := ifp hc h
            cases h
            exact hF1 rfl _ _ _ hV (lv_sub hl [0, 1, 2, 3] rfl)
          · have h := ifn hc h
            refine lv_aload_n hx hb dX2_shift_32 rfl (lv_at hl 0 rfl) ?_
            refine lv_iload hx hb dX2_shift_33 (lv_at hl 4 rfl) ?_
            refine lv_aload_n hx hb dX2_shift_35 rfl (lv_at hl 0 rfl) ?_
            refine lv_iload hx hb dX2_shift_36 (lv_at hl 4 rfl) ?_
            refine lv_iconst (v := 1) hx hb dX2_shift_38 (by decide) ?_
            refine lv_iadd hx hb dX2_shift_39 ?_
            refine bd_e h (fun v6 hq h => ?_)
            refine k_X2_at hj hq cx hV mk_2_133 ⟨Nat.le_of_ble_eq_true rfl, Nat.le_of_ble_eq_true rfl⟩ ⟨Nat.zero_le _, Nat.zero_le _⟩ hl.1 (Nat.le_of_ble_eq_true rfl) dX2_shift_40 (fun H locs hV => ?_)
            refine bd_e h (fun σ7 hq h => ?_)
            refine k_X2_put hj hq cx hV mk_3_48 ⟨Nat.le_of_ble_eq_true rfl, Nat.le_of_ble_eq_true rfl⟩ ⟨Nat.zero_le _, Nat.zero_le _⟩ hl.1 (Nat.le_of_ble_eq_true rfl) dX2_shift_43 (fun H locs hV => ?_)
            refine lv_iinc (v := (u4 + 1)) (lv' := [(4, .int (u4 + 1)), (0, .ref (eA E (pN j))), (1, .int p1), (2, .int p2), (3, .int v3)]) hx hb dX2_shift_46 hl (k := 4) rfl rfl (by decide) rfl (fun ls hl => ?_)
            refine lv_goto (tgt := 26) hx hb dX2_shift_49 (by decide) ?_
            cases h
            exact hT1 rfl _ _ _ hV (lv_sub hl [1, 2, 3, 4, 0] rfl)
        · have hV : AtW E (wC E σ9 ++ X) A s H locs := hV
          have hl : lv_has ls 5 [(0, .ref (eA E (pN j))), (1, .int p1), (2, .int p2), (3, .int v3)] := hl
          refine lv_iload_n hx hb dX2_shift_52 rfl (lv_at hl 1 rfl) ?_
          refine lv_istore (lv' := [(4, .int p1), (0, .ref (eA E (pN j))), (1, .int p1), (2, .int p2), (3, .int v3)]) hx hb dX2_shift_53 hl (by decide) rfl (fun ls hl => ?_)
          refine bd2_e h (fun z14 σ15 ho h => ?_)
          refine (lp_rule (G := (fun v : (Int32 × St) => ∀ (H : Heap) (locs : List Loc) (ls : Array Slot), AtW E (wC E v.2 ++ X) A s H locs → lv_has ls 5 [(0, .ref (eA E (pN j))), (2, .int p2), (3, .int v3), (4, .int v.1)] → W p l e rm_X2_shift s m a below meth c H locs 0 0 QQ (F0 m 55 ls []))) (K := (fun v : (Int32 × St) => ∀ (H : Heap) (locs : List Loc) (ls : Array Slot), AtW E (wC E v.2 ++ X) A s H locs → lv_has ls 5 [(0, .ref (eA E (pN j))), (2, .int p2), (3, .int v3)] → W p l e rm_X2_shift s m a below meth c H locs 0 0 QQ (F0 m 81 ls []))) (fun v b1 y1 h hT1 hF1 => ?_) ho (fun H locs ls hV hl => ?_)) _ _ _ hV (lv_sub hl [1, 3, 4, 0] rfl)
          · obtain ⟨u10, σ11⟩ := v
            have h : x_X2_shift_L55 j p2 v3 u10 σ11 = some (b1, y1) := h
            intro H locs ls hV hl
            have hV : AtW E (wC E σ11 ++ X) A s H locs := hV
            have hl : lv_has ls 5 [(0, .ref (eA E (pN j))), (2, .int p2), (3, .int v3), (4, .int u10)] := hl
            unfold x_X2_shift_L55 at h
            refine lv_iload hx hb dX2_shift_55 (lv_at hl 3 rfl) ?_
            refine lv_iload_n hx hb dX2_shift_57 rfl (lv_at hl 1 rfl) ?_
            refine lv_icmp_le (tgt := 81) hx hb dX2_shift_58 (by decide) (fun hc => ?_) (fun hc => ?_)
            · have h := ifp hc h
              cases h
              exact hF1 rfl _ _ _ hV (lv_sub hl [0, 1, 2] rfl)
            · have h := ifn hc h
              refine lv_aload_n hx hb dX2_shift_61 rfl (lv_at hl 0 rfl) ?_
              refine lv_iload hx hb dX2_shift_62 (lv_at hl 3 rfl) ?_
              refine lv_aload_n hx hb dX2_shift_64 rfl (lv_at hl 0 rfl) ?_
              refine lv_iload hx hb dX2_shift_65 (lv_at hl 3 rfl) ?_
              refine lv_iconst (v := 1) hx hb dX2_shift_67 (by decide) ?_
              refine lv_isub hx hb dX2_shift_68 ?_
              refine bd_e h (fun v12 hq h => ?_)
              refine k_X2_at hj hq cx hV mk_2_133 ⟨Nat.le_of_ble_eq_true rfl, Nat.le_of_ble_eq_true rfl⟩ ⟨Nat.zero_le _, Nat.zero_le _⟩ hl.1 (Nat.le_of_ble_eq_true rfl) dX2_shift_69 (fun H locs hV => ?_)
              refine bd_e h (fun σ13 hq h => ?_)
              refine k_X2_put hj hq cx hV mk_3_48 ⟨Nat.le_of_ble_eq_true rfl, Nat.le_of_ble_eq_true rfl⟩ ⟨Nat.zero_le _, Nat.zero_le _⟩ hl.1 (Nat.le_of_ble_eq_true rfl) dX2_shift_72 (fun H locs hV => ?_)
              refine lv_iinc (v := (u10 + (-1))) (lv' := [(4, .int (u10 + (-1))), (0, .ref (eA E (pN j))), (2, .int p2), (3, .int v3)]) hx hb dX2_shift_75 hl (k := 3) rfl rfl (by decide) rfl (fun ls hl => ?_)
              refine lv_goto (tgt := 55) hx hb dX2_shift_78 (by decide) ?_
              cases h
              exact hT1 rfl _ _ _ hV (lv_sub hl [1, 2, 3, 0] rfl)
          · have hV : AtW E (wC E σ15 ++ X) A s H locs := hV
            have hl : lv_has ls 5 [(0, .ref (eA E (pN j))), (2, .int p2), (3, .int v3)] := hl
            refine lv_aload_n hx hb dX2_shift_81 rfl (lv_at hl 0 rfl) ?_
            refine lv_iload_n hx hb dX2_shift_82 rfl (lv_at hl 1 rfl) ?_
            refine lv_iload_n hx hb dX2_shift_83 rfl (lv_at hl 2 rfl) ?_
            refine bd_e h (fun σ16 hq h => ?_)
            refine k_X2_put hj hq cx hV mk_3_48 ⟨Nat.le_of_ble_eq_true rfl, Nat.le_of_ble_eq_true rfl⟩ ⟨Nat.zero_le _, Nat.zero_le _⟩ hl.1 (Nat.le_of_ble_eq_true rfl) dX2_shift_84 (fun H locs hV => ?_)
            have h1 := Option.some.inj h
            subst h1
            subst hQ
            exact r_vret cx hr hlk hV dX2_shift_87
      · have h := ifp hc h
        have h1 := Option.some.inj h
        subst h1
        subst hQ
        exact r_vret cx hr hlk hV dX2_shift_16
  rw [hH, hlocs] at goal
  exact goal
theorem k_X2_shift {p : Program} {l : Launch} {e : Env} {R : Room} {s : State} {m : MethodId} {a : Array Value} {below : List Frame} {meth : Method} {c : Code} {H : Heap} {locs : List Loc} {cells slots : Nat} {Q : State → Prop} {cc : ByteArray} {own : String} {nL pc : Nat} {ls : Array Slot} {rest : List Value} {A : Nat → Prop} {E : EV} {X : va_W} {σ : St} {j : Nat} {p1 : Int32} {p2 : Int32} {σf : St} (hj : j < 49) (h : x_X2_shift j p1 p2 σ = some σf) (cx : CallFix p m c cc nL s a TBL own) (hV : AtW E (wC E σ ++ X) A s H locs) {idx : Nat} (w1 : Cond.methodLink own idx yX2_shift ∈ TBL) (hR : (rm_X2_shift).frames + 1 ≤ R.frames ∧ 8 + (5 + 11) + (rm_X2_shift).locals ≤ R.locals) (hcs : cells ≤ R.cells ∧ slots ≤ R.slots) (hls : ls.size = nL) (hcat : (rest.map fun v => v.category).sum ≤ 8) (d : decode cc pc = .ok (.invokevirtual idx, 3)) (kk : ∀ (H1 : Heap) (locs1 : List Loc), AtW E (wC E σf ++ X) A s H1 locs1 → W p l e R s m a below meth c H1 locs1 cells slots Q (F0 m (pc + 3) ls (rest))) : W p l e R s m a below meth c H locs cells slots Q (F0 m pc ls (.int p2 :: .int p1 :: .ref (eA E (pN j)) :: rest)) :=
  r_callv (n := 2) (As := [.int p1, .int p2]) (q0 := (pN j)) (ci := 2) (qq := (RX2, TX2, 1)) (c_X2_shift hj h) wC_fst (wC_N hj) rfl mk_3_66 mk_3_67 mk_1_2 mk_3_68 (by decide +kernel) rfl ⟨rfl, rfl⟩ cx hV w1 hR hcs hls rfl hcat d kk
def x_X2_swap (j : Nat) (p1 : Int32) (p2 : Int32) (σ : St) : Option St :=
  bd (x_X2_at j p1 σ) fun v1 =>
  bd (x_X2_at j p2 σ) fun v2 =>
  bd (x_X2_put j p1 v2 σ) fun σ3 =>
  bd (x_X2_put j p2 v1 σ3) fun σ4 =>
  some σ4
abbrev rm_X2_swap : Room := { frames := 1, cells := 0, slots := 0, locals := 22 }
set_option maxHeartbeats 4000000 in
set_option maxRecDepth 100000 in
theorem c_X2_swap {l : Launch} {E : EV} {X : va_W} {σ : St} {j : Nat} {p1 : Int32} {p2 : Int32} {σf : St} (hj : j < 49) (h : x_X2_swap j p1 p2 σ = some σf) : CM l yX2_swap cX2_swap 4 none rm_X2_swap [.ref (eA E (pN j)), .int p1, .int p2] E (wC E σ ++ X) (wC E σf ++ X) qV := by
  refine CM.start (by decide) (Nat.le_of_ble_eq_true rfl) (fun p e s m a below meth c A ls cx hr hlk hV hl => ?_)
  have cx : CallFix p m c cX2_swap 4 s a TBL RX2 := cx
  have hx := cx.1
  have hb := cx.2.1
  have hl : lv_has ls 4 [(0, .ref (eA E (pN j))), (1, .int p1), (2, .int p2)] := hl
  generalize hQ : EQ E (wC E σf ++ X) qV A s a below = QQ
  obtain ⟨H, hH⟩ : ∃ H, H = s.heap := ⟨_, rfl⟩
  obtain ⟨locs, hlocs⟩ : ∃ z, z = ([] : List Loc) := ⟨_, rfl⟩
  have hV : AtW E (wC E σ ++ X) A s H locs := by rw [hH, hlocs]; exact hV
  have goal : W p l e rm_X2_swap s m a below meth c H locs 0 0 QQ (F0 m 0 ls []) := by
    unfold x_X2_swap at h
    refine lv_aload_n hx hb dX2_swap_0 rfl (lv_at hl 0 rfl) ?_
    refine lv_iload_n hx hb dX2_swap_1 rfl (lv_at hl 1 rfl) ?_
    refine bd_e h (fun v1 hq h => ?_)
    refine k_X2_at hj hq cx hV mk_2_133 ⟨Nat.le_of_ble_eq_true rfl, Nat.le_of_ble_eq_true rfl⟩ ⟨Nat.zero_le _, Nat.zero_le _⟩ hl.1 (Nat.le_of_ble_eq_true rfl) dX2_swap_2 (fun H locs hV => ?_)
    refine lv_istore_n (lv' := [(3, .int v1), (0, .ref (eA E (pN j))), (1, .int p1), (2, .int p2)]) hx hb dX2_swap_5 rfl hl (by decide) rfl (fun ls hl => ?_)
    refine lv_aload_n hx hb dX2_swap_6 rfl (lv_at hl 1 rfl) ?_
    refine lv_iload_n hx hb dX2_swap_7 rfl (lv_at hl 2 rfl) ?_
    refine lv_aload_n hx hb dX2_swap_8 rfl (lv_at hl 1 rfl) ?_
    refine lv_iload_n hx hb dX2_swap_9 rfl (lv_at hl 3 rfl) ?_
    refine bd_e h (fun v2 hq h => ?_)
    refine k_X2_at hj hq cx hV mk_2_133 ⟨Nat.le_of_ble_eq_true rfl, Nat.le_of_ble_eq_true rfl⟩ ⟨Nat.zero_le _, Nat.zero_le _⟩ hl.1 (Nat.le_of_ble_eq_true rfl) dX2_swap_10 (fun H locs hV => ?_)
    refine bd_e h (fun σ3 hq h => ?_)
    refine k_X2_put hj hq cx hV mk_3_48 ⟨Nat.le_of_ble_eq_true rfl, Nat.le_of_ble_eq_true rfl⟩ ⟨Nat.zero_le _, Nat.zero_le _⟩ hl.1 (Nat.le_of_ble_eq_true rfl) dX2_swap_13 (fun H locs hV => ?_)
    refine lv_aload_n hx hb dX2_swap_16 rfl (lv_at hl 1 rfl) ?_
    refine lv_iload_n hx hb dX2_swap_17 rfl (lv_at hl 3 rfl) ?_
    refine lv_iload_n hx hb dX2_swap_18 rfl (lv_at hl 0 rfl) ?_
    refine bd_e h (fun σ4 hq h => ?_)
    refine k_X2_put hj hq cx hV mk_3_48 ⟨Nat.le_of_ble_eq_true rfl, Nat.le_of_ble_eq_true rfl⟩ ⟨Nat.zero_le _, Nat.zero_le _⟩ hl.1 (Nat.le_of_ble_eq_true rfl) dX2_swap_19 (fun H locs hV => ?_)
    have h1 := Option.some.inj h
    subst h1
    subst hQ
    exact r_vret cx hr hlk hV dX2_swap_22
  rw [hH, hlocs] at goal
  exact goal
theorem k_X2_swap {p : Program} {l : Launch} {e : Env} {R : Room} {s : State} {m : MethodId} {a : Array Value} {below : List Frame} {meth : Method} {c : Code} {H : Heap} {locs : List Loc} {cells slots : Nat} {Q : State → Prop} {cc : ByteArray} {own : String} {nL pc : Nat} {ls : Array Slot} {rest : List Value} {A : Nat → Prop} {E : EV} {X : va_W} {σ : St} {j : Nat} {p1 : Int32} {p2 : Int32} {σf : St} (hj : j < 49) (h : x_X2_swap j p1 p2 σ = some σf) (cx : CallFix p m c cc nL s a TBL own) (hV : AtW E (wC E σ ++ X) A s H locs) {idx : Nat} (w1 : Cond.methodLink own idx yX2_swap ∈ TBL) (hR : (rm_X2_swap).frames + 1 ≤ R.frames ∧ 8 + (4 + 11) + (rm_X2_swap).locals ≤ R.locals) (hcs : cells ≤ R.cells ∧ slots ≤ R.slots) (hls : ls.size = nL) (hcat : (rest.map fun v => v.category).sum ≤ 8) (d : decode cc pc = .ok (.invokevirtual idx, 3)) (kk : ∀ (H1 : Heap) (locs1 : List Loc), AtW E (wC E σf ++ X) A s H1 locs1 → W p l e R s m a below meth c H1 locs1 cells slots Q (F0 m (pc + 3) ls (rest))) : W p l e R s m a below meth c H locs cells slots Q (F0 m pc ls (.int p2 :: .int p1 :: .ref (eA E (pN j)) :: rest)) :=
  r_callv (n := 2) (As := [.int p1, .int p2]) (q0 := (pN j)) (ci := 2) (qq := (RX2, TX2, 1)) (c_X2_swap hj h) wC_fst (wC_N hj) rfl mk_3_133 mk_3_134 mk_1_2 mk_3_135 (by decide +kernel) rfl ⟨rfl, rfl⟩ cx hV w1 hR hcs hls rfl hcat d kk
def x_X2_fillByNumber_L2 (j : Nat) (u1 : Int32) (σ2 : St) : Option (Bool × (Int32 × St)) :=
  (if (nI (lenN j)) ≤ u1 then
  some (false, (u1, σ2))
  else
  bd (stI σ2 j (lenN j) u1 u1) fun σ3 =>
  some (true, ((u1 + 1), σ3)))
def x_X2_fillByNumber (j : Nat) (σ : St) : Option St :=
  bd2 (lp (fun v : (Int32 × St) => x_X2_fillByNumber_L2 j v.1 v.2) FU (0, σ)) fun z4 σ5 =>
  some σ5
abbrev rm_X2_fillByNumber : Room := { frames := 0, cells := 0, slots := 0, locals := 0 }
set_option maxHeartbeats 4000000 in
set_option maxRecDepth 100000 in
theorem c_X2_fillByNumber {l : Launch} {E : EV} {X : va_W} {σ : St} {j : Nat} {σf : St} (hj : j < 49) (h : x_X2_fillByNumber j σ = some σf) : CM l yX2_fillByNumber cX2_fillByNumber 2 none rm_X2_fillByNumber [.ref (eA E (pN j))] E (wC E σ ++ X) (wC E σf ++ X) qV := by
  refine CM.start (by decide) (Nat.le_of_ble_eq_true rfl) (fun p e s m a below meth c A ls cx hr hlk hV hl => ?_)
  have cx : CallFix p m c cX2_fillByNumber 2 s a TBL RX2 := cx
  have hx := cx.1
  have hb := cx.2.1
  have hl : lv_has ls 2 [(0, .ref (eA E (pN j)))] := hl
  generalize hQ : EQ E (wC E σf ++ X) qV A s a below = QQ
  obtain ⟨H, hH⟩ : ∃ H, H = s.heap := ⟨_, rfl⟩
  obtain ⟨locs, hlocs⟩ : ∃ z, z = ([] : List Loc) := ⟨_, rfl⟩
  have hV : AtW E (wC E σ ++ X) A s H locs := by rw [hH, hlocs]; exact hV
  have goal : W p l e rm_X2_fillByNumber s m a below meth c H locs 0 0 QQ (F0 m 0 ls []) := by
    unfold x_X2_fillByNumber at h
    refine lv_iconst (v := 0) hx hb dX2_fillByNumber_0 (by decide) ?_
    refine lv_istore_n (lv' := [(1, .int 0), (0, .ref (eA E (pN j)))]) hx hb dX2_fillByNumber_1 rfl hl (by decide) rfl (fun ls hl => ?_)
    refine bd2_e h (fun z4 σ5 ho h => ?_)
    refine (lp_rule (G := (fun v : (Int32 × St) => ∀ (H : Heap) (locs : List Loc) (ls : Array Slot), AtW E (wC E v.2 ++ X) A s H locs → lv_has ls 2 [(0, .ref (eA E (pN j))), (1, .int v.1)] → W p l e rm_X2_fillByNumber s m a below meth c H locs 0 0 QQ (F0 m 2 ls []))) (K := (fun v : (Int32 × St) => ∀ (H : Heap) (locs : List Loc) (ls : Array Slot), AtW E (wC E v.2 ++ X) A s H locs → lv_has ls 2 [] → W p l e rm_X2_fillByNumber s m a below meth c H locs 0 0 QQ (F0 m 24 ls []))) (fun v b1 y1 h hT1 hF1 => ?_) ho (fun H locs ls hV hl => ?_)) _ _ _ hV (lv_sub hl [1, 0] rfl)
    · obtain ⟨u1, σ2⟩ := v
      have h : x_X2_fillByNumber_L2 j u1 σ2 = some (b1, y1) := h
      intro H locs ls hV hl
      have hV : AtW E (wC E σ2 ++ X) A s H locs := hV
      have hl : lv_has ls 2 [(0, .ref (eA E (pN j))), (1, .int u1)] := hl
      unfold x_X2_fillByNumber_L2 at h
      refine lv_iload_n hx hb dX2_fillByNumber_2 rfl (lv_at hl 1 rfl) ?_
      refine lv_aload_n hx hb dX2_fillByNumber_3 rfl (lv_at hl 0 rfl) ?_
      refine G_X2_cells cx hV hj mk_1_39 dX2_fillByNumber_4 ?_
      refine R_N_alen cx hV hj dX2_fillByNumber_7 ?_
      refine lv_icmp_ge (tgt := 24) hx hb dX2_fillByNumber_8 (by decide) (fun hc => ?_) (fun hc => ?_)
      · have h := ifp hc h
        cases h
        exact hF1 rfl _ _ _ hV (lv_sub hl [] rfl)
      · have h := ifn hc h
        refine lv_aload_n hx hb dX2_fillByNumber_11 rfl (lv_at hl 0 rfl) ?_
        refine G_X2_cells cx hV hj mk_1_39 dX2_fillByNumber_12 ?_
        refine lv_iload_n hx hb dX2_fillByNumber_15 rfl (lv_at hl 1 rfl) ?_
        refine lv_iload_n hx hb dX2_fillByNumber_16 rfl (lv_at hl 1 rfl) ?_
        refine bd_e h (fun σ3 hq h => ?_)
        refine R_N_iast cx hV hj hq dX2_fillByNumber_17 (fun H locs hV => ?_)
        refine lv_iinc (v := (u1 + 1)) (lv' := [(1, .int (u1 + 1)), (0, .ref (eA E (pN j)))]) hx hb dX2_fillByNumber_18 hl (k := 1) rfl rfl (by decide) rfl (fun ls hl => ?_)
        refine lv_goto (tgt := 2) hx hb dX2_fillByNumber_21 (by decide) ?_
        cases h
        exact hT1 rfl _ _ _ hV (lv_sub hl [1, 0] rfl)
    · have hV : AtW E (wC E σ5 ++ X) A s H locs := hV
      have hl : lv_has ls 2 [] := hl
      have h1 := Option.some.inj h
      subst h1
      subst hQ
      exact r_vret cx hr hlk hV dX2_fillByNumber_24
  rw [hH, hlocs] at goal
  exact goal
theorem k_X2_fillByNumber {p : Program} {l : Launch} {e : Env} {R : Room} {s : State} {m : MethodId} {a : Array Value} {below : List Frame} {meth : Method} {c : Code} {H : Heap} {locs : List Loc} {cells slots : Nat} {Q : State → Prop} {cc : ByteArray} {own : String} {nL pc : Nat} {ls : Array Slot} {rest : List Value} {A : Nat → Prop} {E : EV} {X : va_W} {σ : St} {j : Nat} {σf : St} (hj : j < 49) (h : x_X2_fillByNumber j σ = some σf) (cx : CallFix p m c cc nL s a TBL own) (hV : AtW E (wC E σ ++ X) A s H locs) {idx : Nat} (w1 : Cond.methodLink own idx yX2_fillByNumber ∈ TBL) (hR : (rm_X2_fillByNumber).frames + 1 ≤ R.frames ∧ 8 + (2 + 11) + (rm_X2_fillByNumber).locals ≤ R.locals) (hcs : cells ≤ R.cells ∧ slots ≤ R.slots) (hls : ls.size = nL) (hcat : (rest.map fun v => v.category).sum ≤ 8) (d : decode cc pc = .ok (.invokevirtual idx, 3)) (kk : ∀ (H1 : Heap) (locs1 : List Loc), AtW E (wC E σf ++ X) A s H1 locs1 → W p l e R s m a below meth c H1 locs1 cells slots Q (F0 m (pc + 3) ls (rest))) : W p l e R s m a below meth c H locs cells slots Q (F0 m pc ls (.ref (eA E (pN j)) :: rest)) :=
  r_callv (n := 0) (As := []) (q0 := (pN j)) (ci := 2) (qq := (RX2, TX2, 1)) (c_X2_fillByNumber hj h) wC_fst (wC_N hj) rfl mk_2_118 mk_2_119 mk_1_2 mk_2_120 (by decide +kernel) rfl ⟨rfl, rfl⟩ cx hV w1 hR hcs hls rfl hcat d kk
