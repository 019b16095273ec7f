def x_X0_offer_L24 (p1 : Int32) (v1 : Int32) (v2 : Int32) (u3 : Int32) (σ4 : St) : Option (Bool × (Int32 × St)) :=
  (if u3 < v1 then
  some (false, (u3, σ4))
  else
  bd (x_X2_at 44 (u3 - v1) σ4) fun v5 =>
  (if v5 = (-1) then
  some (true, ((u3 + (-1)), σ4))
  else
  bd (x_X2_at 44 (u3 - v1) σ4) fun v6 =>
  bd (x_X2_at 44 u3 σ4) fun v7 =>
  (if (v6 + v2) ≤ v7 then
  some (true, ((u3 + (-1)), σ4))
  else
  bd (x_X2_at 44 (u3 - v1) σ4) fun v8 =>
  bd (x_X2_put 44 u3 (v8 + v2) σ4) fun σ9 =>
  bd (x_X2_at 45 (u3 - v1) σ9) fun v10 =>
  bd (x_X2_put 45 u3 (v10 ||| (1 <<< (p1 &&& 31))) σ9) fun σ11 =>
  some (true, ((u3 + (-1)), σ11)))))
def x_X0_offer (p1 : Int32) (p2 : Int32) (σ : St) : Option St :=
  bd (x_X7_ofSleeve 0 p1 1 σ) fun v1 =>
  bd (x_X7_ofSleeve 0 p1 2 σ) fun v2 =>
  bd2 (lp (fun v : (Int32 × St) => x_X0_offer_L24 p1 v1 v2 v.1 v.2) FU (p2, σ)) fun z12 σ13 =>
  some σ13
abbrev rm_X0_offer : Room := { frames := 2, cells := 0, slots := 0, locals := 43 }
set_option maxHeartbeats 4000000 in
set_option maxRecDepth 100000 in
theorem c_X0_offer {l : Launch} {E : EV} {X : va_W} {σ : St} {p1 : Int32} {p2 : Int32} {σf : St} (h : x_X0_offer p1 p2 σ = some σf) : CM l yX0_offer cX0_offer 7 none rm_X0_offer [.ref (eA E 102), .int p1, .int p2] E (wC E σ ++ X) (wC E σf ++ X) qV := by
  refine CM.start (by decide) (Nat.le_of_ble_eq_true rfl) (fun p e s m a below meth c A ls cx hr hlk hV hl => ?_)
  have cx : CallFix p m c cX0_offer 7 s a TBL RX0 := cx
  have hx := cx.1
  have hb := cx.2.1
  have hl : lv_has ls 7 [(0, .ref (eA E 102)), (1, .int p1), (2, .int p2)] := hl
  generalize hQ : EQ E (wC E σf ++ X) qV A s a below = QQ
  obtain ⟨H, hH⟩ : ∃ H, H = s.heap := ⟨_, rfl⟩
  obtain ⟨locs, hlocs⟩ : ∃ z, z = ([] : List Loc) := ⟨_, rfl⟩
  have hV : AtW E (wC E σ ++ X) A s H locs := by rw [hH, hlocs]; exact hV
  have goal : W p l e rm_X0_offer s m a below meth c H locs 0 0 QQ (F0 m 0 ls []) := by
    unfold x_X0_offer at h
    refine lv_aload_n hx hb dX0_offer_0 rfl (lv_at hl 0 rfl) ?_
    refine G_X0_told cx hV mk_2_47 dX0_offer_1 ?_
    refine lv_iload_n hx hb dX0_offer_4 rfl (lv_at hl 1 rfl) ?_
    refine lv_iconst (v := 1) hx hb dX0_offer_5 (by decide) ?_
    refine bd_e h (fun v1 hq h => ?_)
    refine k_X7_ofSleeve (by decide) hq cx hV mk_6_2 ⟨Nat.le_of_ble_eq_true rfl, Nat.le_of_ble_eq_true rfl⟩ ⟨Nat.zero_le _, Nat.zero_le _⟩ hl.1 (Nat.le_of_ble_eq_true rfl) dX0_offer_6 (fun H locs hV => ?_)
    refine lv_istore_n (lv' := [(3, .int v1), (0, .ref (eA E 102)), (1, .int p1), (2, .int p2)]) hx hb dX0_offer_9 rfl hl (by decide) rfl (fun ls hl => ?_)
    refine lv_aload_n hx hb dX0_offer_10 rfl (lv_at hl 1 rfl) ?_
    refine G_X0_told cx hV mk_2_47 dX0_offer_11 ?_
    refine lv_iload_n hx hb dX0_offer_14 rfl (lv_at hl 2 rfl) ?_
    refine lv_iconst (v := 2) hx hb dX0_offer_15 (by decide) ?_
    refine bd_e h (fun v2 hq h => ?_)
    refine k_X7_ofSleeve (by decide) hq cx hV mk_6_2 ⟨Nat.le_of_ble_eq_true rfl, Nat.le_of_ble_eq_true rfl⟩ ⟨Nat.zero_le _, Nat.zero_le _⟩ hl.1 (Nat.le_of_ble_eq_true rfl) dX0_offer_16 (fun H locs hV => ?_)
    refine lv_istore (lv' := [(4, .int v2), (3, .int v1), (0, .ref (eA E 102)), (1, .int p1), (2, .int p2)]) hx hb dX0_offer_19 hl (by decide) rfl (fun ls hl => ?_)
    refine lv_iload_n hx hb dX0_offer_21 rfl (lv_at hl 4 rfl) ?_
    refine lv_istore (lv' := [(5, .int p2), (4, .int v2), (3, .int v1), (0, .ref (eA E 102)), (1, .int p1), (2, .int p2)]) hx hb dX0_offer_22 hl (by decide) rfl (fun ls hl => ?_)
    refine bd2_e h (fun z12 σ13 ho h => ?_)
    refine (lp_rule (G := (fun v : (Int32 × St) => ∀ (H : Heap) (locs : List Loc) (ls : Array Slot), AtW E (wC E v.2 ++ X) A s H locs → lv_has ls 7 [(0, .ref (eA E 102)), (1, .int p1), (3, .int v1), (4, .int v2), (5, .int v.1)] → W p l e rm_X0_offer s m a below meth c H locs 0 0 QQ (F0 m 24 ls []))) (K := (fun v : (Int32 × St) => ∀ (H : Heap) (locs : List Loc) (ls : Array Slot), AtW E (wC E v.2 ++ X) A s H locs → lv_has ls 7 [] → W p l e rm_X0_offer s m a below meth c H locs 0 0 QQ (F0 m 122 ls []))) (fun v b1 y1 h hT1 hF1 => ?_) ho (fun H locs ls hV hl => ?_)) _ _ _ hV (lv_sub hl [3, 4, 2, 1, 0] rfl)
    · obtain ⟨u3, σ4⟩ := v
      have h : x_X0_offer_L24 p1 v1 v2 u3 σ4 = some (b1, y1) := h
      intro H locs ls hV hl
      have hV : AtW E (wC E σ4 ++ X) A s H locs := hV
      have hl : lv_has ls 7 [(0, .ref (eA E 102)), (1, .int p1), (3, .int v1), (4, .int v2), (5, .int u3)] := hl
      unfold x_X0_offer_L24 at h
      refine lv_iload hx hb dX0_offer_24 (lv_at hl 4 rfl) ?_
      refine lv_iload_n hx hb dX0_offer_26 rfl (lv_at hl 2 rfl) ?_
      refine lv_icmp_lt (tgt := 122) hx hb dX0_offer_27 (by decide) (fun hc => ?_) (fun hc => ?_)
      · have h := ifp hc h
        cases h
        exact hF1 rfl _ _ _ hV (lv_sub hl [] rfl)
      · have h := ifn hc h
        refine lv_iload hx hb dX0_offer_30 (lv_at hl 4 rfl) ?_
        refine lv_iload_n hx hb dX0_offer_32 rfl (lv_at hl 2 rfl) ?_
        refine lv_isub hx hb dX0_offer_33 ?_
        refine lv_istore (lv' := [(6, .int (u3 - v1)), (0, .ref (eA E 102)), (1, .int p1), (3, .int v1), (4, .int v2), (5, .int u3)]) hx hb dX0_offer_34 hl (by decide) rfl (fun ls hl => ?_)
        refine lv_aload_n hx hb dX0_offer_36 rfl (lv_at hl 1 rfl) ?_
        refine G_X0_goods cx hV mk_2_43 dX0_offer_37 ?_
        refine lv_iload hx hb dX0_offer_40 (lv_at hl 0 rfl) ?_
        refine bd_e h (fun v5 hq h => ?_)
        refine k_X2_at (by decide) hq cx hV mk_6_8 ⟨Nat.le_of_ble_eq_true rfl, Nat.le_of_ble_eq_true rfl⟩ ⟨Nat.zero_le _, Nat.zero_le _⟩ hl.1 (Nat.le_of_ble_eq_true rfl) dX0_offer_42 (fun H locs hV => ?_)
        refine lv_iconst (v := (-1)) hx hb dX0_offer_45 (by decide) ?_
        refine lv_icmp_eq (tgt := 116) hx hb dX0_offer_46 (by decide) (fun hc => ?_) (fun hc => ?_)
        · have h := ifp hc h
          refine lv_iinc (v := (u3 + (-1))) (lv' := [(5, .int (u3 + (-1))), (6, .int (u3 - v1)), (0, .ref (eA E 102)), (1, .int p1), (3, .int v1), (4, .int v2)]) hx hb dX0_offer_116 hl (k := 5) rfl rfl (by decide) rfl (fun ls hl => ?_)
          refine lv_goto (tgt := 24) hx hb dX0_offer_119 (by decide) ?_
          cases h
          exact hT1 rfl _ _ _ hV (lv_sub hl [2, 3, 4, 5, 0] rfl)
        · have h := ifn hc h
          refine lv_aload_n hx hb dX0_offer_49 rfl (lv_at hl 1 rfl) ?_
          refine G_X0_goods cx hV mk_2_43 dX0_offer_50 ?_
          refine lv_iload hx hb dX0_offer_53 (lv_at hl 0 rfl) ?_
          refine bd_e h (fun v6 hq h => ?_)
          refine k_X2_at (by decide) hq cx hV mk_6_8 ⟨Nat.le_of_ble_eq_true rfl, Nat.le_of_ble_eq_true rfl⟩ ⟨Nat.zero_le _, Nat.zero_le _⟩ hl.1 (Nat.le_of_ble_eq_true rfl) dX0_offer_55 (fun H locs hV => ?_)
          refine lv_iload hx hb dX0_offer_58 (lv_at hl 4 rfl) ?_
          refine lv_iadd hx hb dX0_offer_60 ?_
          refine lv_aload_n hx hb dX0_offer_61 rfl (lv_at hl 1 rfl) ?_
          refine G_X0_goods cx hV mk_2_43 dX0_offer_62 ?_
          refine lv_iload hx hb dX0_offer_65 (lv_at hl 5 rfl) ?_
          refine bd_e h (fun v7 hq h => ?_)
          refine k_X2_at (by decide) hq cx hV mk_6_8 ⟨Nat.le_of_ble_eq_true rfl, Nat.le_of_ble_eq_true rfl⟩ ⟨Nat.zero_le _, Nat.zero_le _⟩ hl.1 (Nat.le_of_ble_eq_true rfl) dX0_offer_67 (fun H locs hV => ?_)
          refine lv_icmp_le (tgt := 116) hx hb dX0_offer_70 (by decide) (fun hc => ?_) (fun hc => ?_)
          · have h := ifp hc h
            refine lv_iinc (v := (u3 + (-1))) (lv' := [(5, .int (u3 + (-1))), (6, .int (u3 - v1)), (0, .ref (eA E 102)), (1, .int p1), (3, .int v1), (4, .int v2)]) hx hb dX0_offer_116 hl (k := 5) rfl rfl (by decide) rfl (fun ls hl => ?_)
            refine lv_goto (tgt := 24) hx hb dX0_offer_119 (by decide) ?_
            cases h
            exact hT1 rfl _ _ _ hV (lv_sub hl [2, 3, 4, 5, 0] rfl)
          · have h := ifn hc h
            refine lv_aload_n hx hb dX0_offer_73 rfl (lv_at hl 1 rfl) ?_
            refine G_X0_goods cx hV mk_2_43 dX0_offer_74 ?_
            refine lv_iload hx hb dX0_offer_77 (lv_at hl 5 rfl) ?_
            refine lv_aload_n hx hb dX0_offer_79 rfl (lv_at hl 1 rfl) ?_
            refine G_X0_goods cx hV mk_2_43 dX0_offer_80 ?_
            refine lv_iload hx hb dX0_offer_83 (lv_at hl 0 rfl) ?_
            refine bd_e h (fun v8 hq h => ?_)
            refine k_X2_at (by decide) hq cx hV mk_6_8 ⟨Nat.le_of_ble_eq_true rfl, Nat.le_of_ble_eq_true rfl⟩ ⟨Nat.zero_le _, Nat.zero_le _⟩ hl.1 (Nat.le_of_ble_eq_true rfl) dX0_offer_85 (fun H locs hV => ?_)
            refine lv_iload hx hb dX0_offer_88 (lv_at hl 4 rfl) ?_
            refine lv_iadd hx hb dX0_offer_90 ?_
            refine bd_e h (fun σ9 hq h => ?_)
            refine k_X2_put (by decide) hq cx hV mk_6_0 ⟨Nat.le_of_ble_eq_true rfl, Nat.le_of_ble_eq_true rfl⟩ ⟨Nat.zero_le _, Nat.zero_le _⟩ hl.1 (Nat.le_of_ble_eq_true rfl) dX0_offer_91 (fun H locs hV => ?_)
            refine lv_aload_n hx hb dX0_offer_94 rfl (lv_at hl 1 rfl) ?_
            refine G_X0_sets cx hV mk_2_45 dX0_offer_95 ?_
            refine lv_iload hx hb dX0_offer_98 (lv_at hl 5 rfl) ?_
            refine lv_aload_n hx hb dX0_offer_100 rfl (lv_at hl 1 rfl) ?_
            refine G_X0_sets cx hV mk_2_45 dX0_offer_101 ?_
            refine lv_iload hx hb dX0_offer_104 (lv_at hl 0 rfl) ?_
            refine bd_e h (fun v10 hq h => ?_)
            refine k_X2_at (by decide) hq cx hV mk_6_8 ⟨Nat.le_of_ble_eq_true rfl, Nat.le_of_ble_eq_true rfl⟩ ⟨Nat.zero_le _, Nat.zero_le _⟩ hl.1 (Nat.le_of_ble_eq_true rfl) dX0_offer_106 (fun H locs hV => ?_)
            refine lv_iconst (v := 1) hx hb dX0_offer_109 (by decide) ?_
            refine lv_iload_n hx hb dX0_offer_110 rfl (lv_at hl 2 rfl) ?_
            refine lv_ishl hx hb dX0_offer_111 ?_
            refine lv_ior hx hb dX0_offer_112 ?_
            refine bd_e h (fun σ11 hq h => ?_)
            refine k_X2_put (by decide) hq cx hV mk_6_0 ⟨Nat.le_of_ble_eq_true rfl, Nat.le_of_ble_eq_true rfl⟩ ⟨Nat.zero_le _, Nat.zero_le _⟩ hl.1 (Nat.le_of_ble_eq_true rfl) dX0_offer_113 (fun H locs hV => ?_)
            refine lv_iinc (v := (u3 + (-1))) (lv' := [(5, .int (u3 + (-1))), (6, .int (u3 - v1)), (0, .ref (eA E 102)), (1, .int p1), (3, .int v1), (4, .int v2)]) hx hb dX0_offer_116 hl (k := 5) rfl rfl (by decide) rfl (fun ls hl => ?_)
            refine lv_goto (tgt := 24) hx hb dX0_offer_119 (by decide) ?_
            cases h
            exact hT1 rfl _ _ _ hV (lv_sub hl [2, 3, 4, 5, 0] rfl)
    · have hV : AtW E (wC E σ13 ++ X) A s H locs := hV
      have hl : lv_has ls 7 [] := hl
      have h1 := Option.some.inj h
      subst h1
      subst hQ
      exact r_vret cx hr hlk hV dX0_offer_122
  rw [hH, hlocs] at goal
  exact goal
theorem k_X0_offer {p : Program} {l : Launch} {e : Env} {R : Room} {s : State} {m : MethodId} {a : Array Value} {below : List Frame} {meth : Method} {c : Code} {H : Heap} {locs : List Loc} {cells slots : Nat} {Q : State → Prop} {cc : ByteArray} {own : String} {nL pc : Nat} {ls : Array Slot} {rest : List Value} {A : Nat → Prop} {E : EV} {X : va_W} {σ : St} {p1 : Int32} {p2 : Int32} {σf : St} (h : x_X0_offer p1 p2 σ = some σf) (cx : CallFix p m c cc nL s a TBL own) (hV : AtW E (wC E σ ++ X) A s H locs) {idx : Nat} (w1 : Cond.methodLink own idx yX0_offer ∈ TBL) (hR : (rm_X0_offer).frames + 1 ≤ R.frames ∧ 8 + (7 + 11) + (rm_X0_offer).locals ≤ R.locals) (hcs : cells ≤ R.cells ∧ slots ≤ R.slots) (hls : ls.size = nL) (hcat : (rest.map fun v => v.category).sum ≤ 8) (d : decode cc pc = .ok (.invokevirtual idx, 3)) (kk : ∀ (H1 : Heap) (locs1 : List Loc), AtW E (wC E σf ++ X) A s H1 locs1 → W p l e R s m a below meth c H1 locs1 cells slots Q (F0 m (pc + 3) ls (rest))) : W p l e R s m a below meth c H locs cells slots Q (F0 m pc ls (.int p2 :: .int p1 :: .ref (eA E 102) :: rest)) :=
  r_callv (n := 2) (As := [.int p1, .int p2]) (q0 := 102) (ci := 0) (qq := (RX0, TX0, 4)) (c_X0_offer h) wC_fst rfl rfl mk_6_6 mk_P_52 mk_1_8 mk_6_7 (by decide +kernel) rfl ⟨rfl, rfl⟩ cx hV w1 hR hcs hls rfl hcat d kk
def x_X0_bestPrice_L29 (p1 : Int32) (u4 : Int32) (u5 : Int32) (σ6 : St) : Option (Bool × (Int32 × Int32 × St)) :=
  (if (gI σ6 1) ≤ u5 then
  some (false, (u4, u5, σ6))
  else
  bd (x_X5_lies 0 u5 σ6) fun v7 =>
  (if v7 = 0 then
  some (true, (u4, (u5 + 1), σ6))
  else
  bd (x_X7_ofSleeve 0 u5 1 σ6) fun v8 =>
  bd (x_X0_offer u5 (mnI p1 (u4 + v8)) σ6) fun σ9 =>
  some (true, ((mnI p1 (u4 + v8)), (u5 + 1), σ9))))
def x_X0_bestPrice_L84 (z10 : Int32) (σ12 : St) (u13 : Int32) (u14 : Int32) : Option (Bool × (Int32 × Int32)) :=
  (if z10 < u14 then
  some (false, (u13, u14))
  else
  bd (x_X2_at 44 u14 σ12) fun v15 =>
  bd (x_X2_at 44 u13 σ12) fun v16 =>
  (if v15 ≤ v16 then
  some (true, (u13, (u14 + 1)))
  else
  some (true, (u14, (u14 + 1)))))
def x_X0_bestPrice (p1 : Int32) (σ : St) : Option (Int32 × St) :=
  bd (x_X2_fill 44 (-1) σ) fun σ1 =>
  bd (x_X2_fill 45 0 σ1) fun σ2 =>
  bd (x_X2_put 44 0 0 σ2) fun σ3 =>
  bd3 (lp (fun v : (Int32 × Int32 × St) => x_X0_bestPrice_L29 p1 v.1 v.2.1 v.2.2) FU (0, 0, σ3)) fun z10 z11 σ12 =>
  bd2 (lp (fun v : (Int32 × Int32) => x_X0_bestPrice_L84 z10 σ12 v.1 v.2) FU (0, 1)) fun z17 z18 =>
  some (z17, σ12)
abbrev rm_X0_bestPrice : Room := { frames := 3, cells := 0, slots := 0, locals := 69 }
set_option maxHeartbeats 4000000 in
set_option maxRecDepth 100000 in
theorem c_X0_bestPrice {l : Launch} {E : EV} {X : va_W} {σ : St} {p1 : Int32} {rv : Int32} {σf : St} (h : x_X0_bestPrice p1 σ = some (rv, σf)) : CM l yX0_bestPrice cX0_bestPrice 5 (some .int) rm_X0_bestPrice [.ref (eA E 102), .int p1] E (wC E σ ++ X) (wC E σf ++ X) (qI rv) := by
  refine CM.start (by decide) (Nat.le_of_ble_eq_true rfl) (fun p e s m a below meth c A ls cx hr hlk hV hl => ?_)
  have cx : CallFix p m c cX0_bestPrice 5 s a TBL RX0 := cx
  have hx := cx.1
  have hb := cx.2.1
  have hl : lv_has ls 5 [(0, .ref (eA E 102)), (1, .int p1)] := hl
  generalize hQ : EQ E (wC E σf ++ X) (qI rv) A s a below = QQ
  obtain ⟨H, hH⟩ : ∃ H, H = s.heap := ⟨_, rfl⟩
  obtain ⟨locs, hlocs⟩ : ∃ z, z = ([] : List Loc) := ⟨_, rfl⟩
  have hV : AtW E (wC E σ ++ X) A s H locs := by rw [hH, hlocs]; exact hV
  have goal : W p l e rm_X0_bestPrice s m a below meth c H locs 0 0 QQ (F0 m 0 ls []) := by
    unfold x_X0_bestPrice at h
    refine lv_aload_n hx hb dX0_bestPrice_0 rfl (lv_at hl 0 rfl) ?_
    refine G_X0_goods cx hV mk_2_43 dX0_bestPrice_1 ?_
    refine lv_iconst (v := (-1)) hx hb dX0_bestPrice_4 (by decide) ?_
    refine bd_e h (fun σ1 hq h => ?_)
    refine k_X2_fill (by decide) hq cx hV mk_5_239 ⟨Nat.le_of_ble_eq_true rfl, Nat.le_of_ble_eq_true rfl⟩ ⟨Nat.zero_le _, Nat.zero_le _⟩ hl.1 (Nat.le_of_ble_eq_true rfl) dX0_bestPrice_5 (fun H locs hV => ?_)
    refine lv_aload_n hx hb dX0_bestPrice_8 rfl (lv_at hl 0 rfl) ?_
    refine G_X0_sets cx hV mk_2_45 dX0_bestPrice_9 ?_
    refine lv_iconst (v := 0) hx hb dX0_bestPrice_12 (by decide) ?_
    refine bd_e h (fun σ2 hq h => ?_)
    refine k_X2_fill (by decide) hq cx hV mk_5_239 ⟨Nat.le_of_ble_eq_true rfl, Nat.le_of_ble_eq_true rfl⟩ ⟨Nat.zero_le _, Nat.zero_le _⟩ hl.1 (Nat.le_of_ble_eq_true rfl) dX0_bestPrice_13 (fun H locs hV => ?_)
    refine lv_aload_n hx hb dX0_bestPrice_16 rfl (lv_at hl 0 rfl) ?_
    refine G_X0_goods cx hV mk_2_43 dX0_bestPrice_17 ?_
    refine lv_iconst (v := 0) hx hb dX0_bestPrice_20 (by decide) ?_
    refine lv_iconst (v := 0) hx hb dX0_bestPrice_21 (by decide) ?_
    refine bd_e h (fun σ3 hq h => ?_)
    refine k_X2_put (by decide) hq cx hV mk_6_0 ⟨Nat.le_of_ble_eq_true rfl, Nat.le_of_ble_eq_true rfl⟩ ⟨Nat.zero_le _, Nat.zero_le _⟩ hl.1 (Nat.le_of_ble_eq_true rfl) dX0_bestPrice_22 (fun H locs hV => ?_)
    refine lv_iconst (v := 0) hx hb dX0_bestPrice_25 (by decide) ?_
    refine lv_istore_n (lv' := [(2, .int 0), (0, .ref (eA E 102)), (1, .int p1)]) hx hb dX0_bestPrice_26 rfl hl (by decide) rfl (fun ls hl => ?_)
    refine lv_iconst (v := 0) hx hb dX0_bestPrice_27 (by decide) ?_
    refine lv_istore_n (lv' := [(3, .int 0), (2, .int 0), (0, .ref (eA E 102)), (1, .int p1)]) hx hb dX0_bestPrice_28 rfl hl (by decide) rfl (fun ls hl => ?_)
    refine bd3_e h (fun z10 z11 σ12 ho h => ?_)
    refine (lp_rule (G := (fun v : (Int32 × Int32 × St) => ∀ (H : Heap) (locs : List Loc) (ls : Array Slot), AtW E (wC E v.2.2 ++ X) A s H locs → lv_has ls 5 [(0, .ref (eA E 102)), (1, .int p1), (2, .int v.1), (3, .int v.2.1)] → W p l e rm_X0_bestPrice s m a below meth c H locs 0 0 QQ (F0 m 29 ls []))) (K := (fun v : (Int32 × Int32 × St) => ∀ (H : Heap) (locs : List Loc) (ls : Array Slot), AtW E (wC E v.2.2 ++ X) A s H locs → lv_has ls 5 [(0, .ref (eA E 102)), (2, .int v.1)] → W p l e rm_X0_bestPrice s m a below meth c H locs 0 0 QQ (F0 m 79 ls []))) (fun v b1 y1 h hT1 hF1 => ?_) ho (fun H locs ls hV hl => ?_)) _ _ _ hV (lv_sub hl [2, 3, 1, 0] rfl)
    · obtain ⟨u4, u5, σ6⟩ := v
      have h : x_X0_bestPrice_L29 p1 u4 u5 σ6 = some (b1, y1) := h
      intro H locs ls hV hl
      have hV : AtW E (wC E σ6 ++ X) A s H locs := hV
      have hl : lv_has ls 5 [(0, .ref (eA E 102)), (1, .int p1), (2, .int u4), (3, .int u5)] := hl
      unfold x_X0_bestPrice_L29 at h
      refine lv_iload_n hx hb dX0_bestPrice_29 rfl (lv_at hl 3 rfl) ?_
      refine lv_aload_n hx hb dX0_bestPrice_30 rfl (lv_at hl 0 rfl) ?_
      refine G_X0_told cx hV mk_2_47 dX0_bestPrice_31 ?_
      refine G_X7_sleeves cx hV (by decide) mk_1_58 dX0_bestPrice_34 ?_
      refine lv_icmp_ge (tgt := 79) hx hb dX0_bestPrice_37 (by decide) (fun hc => ?_) (fun hc => ?_)
      · have h := ifp hc h
        cases h
        exact hF1 rfl _ _ _ hV (lv_sub hl [0, 2] rfl)
      · have h := ifn hc h
        refine lv_aload_n hx hb dX0_bestPrice_40 rfl (lv_at hl 0 rfl) ?_
        refine G_X0_stock cx hV mk_2_48 dX0_bestPrice_41 ?_
        refine lv_iload_n hx hb dX0_bestPrice_44 rfl (lv_at hl 3 rfl) ?_
        refine bd_e h (fun v7 hq h => ?_)
        refine k_X5_lies (by decide) hq cx hV mk_6_1 ⟨Nat.le_of_ble_eq_true rfl, Nat.le_of_ble_eq_true rfl⟩ ⟨Nat.zero_le _, Nat.zero_le _⟩ hl.1 (Nat.le_of_ble_eq_true rfl) dX0_bestPrice_45 (fun H locs hV => ?_)
        refine lv_if_eq (tgt := 73) hx hb dX0_bestPrice_48 (by decide) (fun hc => ?_) (fun hc => ?_)
        · have h := ifp hc h
          refine lv_iinc (v := (u5 + 1)) (lv' := [(3, .int (u5 + 1)), (0, .ref (eA E 102)), (1, .int p1), (2, .int u4)]) hx hb dX0_bestPrice_73 hl (k := 3) rfl rfl (by decide) rfl (fun ls hl => ?_)
          refine lv_goto (tgt := 29) hx hb dX0_bestPrice_76 (by decide) ?_
          cases h
          exact hT1 rfl _ _ _ hV (lv_sub hl [1, 2, 3, 0] rfl)
        · have h := ifn hc h
          refine lv_iload_n hx hb dX0_bestPrice_51 rfl (lv_at hl 1 rfl) ?_
          refine lv_iload_n hx hb dX0_bestPrice_52 rfl (lv_at hl 2 rfl) ?_
          refine lv_aload_n hx hb dX0_bestPrice_53 rfl (lv_at hl 0 rfl) ?_
          refine G_X0_told cx hV mk_2_47 dX0_bestPrice_54 ?_
          refine lv_iload_n hx hb dX0_bestPrice_57 rfl (lv_at hl 3 rfl) ?_
          refine lv_iconst (v := 1) hx hb dX0_bestPrice_58 (by decide) ?_
          refine bd_e h (fun v8 hq h => ?_)
          refine k_X7_ofSleeve (by decide) hq cx hV mk_6_2 ⟨Nat.le_of_ble_eq_true rfl, Nat.le_of_ble_eq_true rfl⟩ ⟨Nat.zero_le _, Nat.zero_le _⟩ hl.1 (Nat.le_of_ble_eq_true rfl) dX0_bestPrice_59 (fun H locs hV => ?_)
          refine lv_iadd hx hb dX0_bestPrice_62 ?_
          refine r_min cx hl.1 mk_6_3 mk_3_78 mk_1_20 mk_3_79 (Nat.le_of_ble_eq_true rfl) (Nat.le_of_ble_eq_true rfl) ⟨Nat.zero_le _, Nat.zero_le _⟩ dX0_bestPrice_63 ?_
          refine lv_istore_n (lv' := [(2, .int (mnI p1 (u4 + v8))), (0, .ref (eA E 102)), (1, .int p1), (3, .int u5)]) hx hb dX0_bestPrice_66 rfl hl (by decide) rfl (fun ls hl => ?_)
          refine lv_aload_n hx hb dX0_bestPrice_67 rfl (lv_at hl 1 rfl) ?_
          refine lv_iload_n hx hb dX0_bestPrice_68 rfl (lv_at hl 3 rfl) ?_
          refine lv_iload_n hx hb dX0_bestPrice_69 rfl (lv_at hl 0 rfl) ?_
          refine bd_e h (fun σ9 hq h => ?_)
          refine k_X0_offer hq cx hV mk_6_4 ⟨Nat.le_of_ble_eq_true rfl, Nat.le_of_ble_eq_true rfl⟩ ⟨Nat.zero_le _, Nat.zero_le _⟩ hl.1 (Nat.le_of_ble_eq_true rfl) dX0_bestPrice_70 (fun H locs hV => ?_)
          refine lv_iinc (v := (u5 + 1)) (lv' := [(3, .int (u5 + 1)), (2, .int (mnI p1 (u4 + v8))), (0, .ref (eA E 102)), (1, .int p1)]) hx hb dX0_bestPrice_73 hl (k := 3) rfl rfl (by decide) rfl (fun ls hl => ?_)
          refine lv_goto (tgt := 29) hx hb dX0_bestPrice_76 (by decide) ?_
          cases h
          exact hT1 rfl _ _ _ hV (lv_sub hl [2, 3, 1, 0] rfl)
    · have hV : AtW E (wC E σ12 ++ X) A s H locs := hV
      have hl : lv_has ls 5 [(0, .ref (eA E 102)), (2, .int z10)] := hl
      refine lv_iconst (v := 0) hx hb dX0_bestPrice_79 (by decide) ?_
      refine lv_istore_n (lv' := [(3, .int 0), (0, .ref (eA E 102)), (2, .int z10)]) hx hb dX0_bestPrice_80 rfl hl (by decide) rfl (fun ls hl => ?_)
      refine lv_iconst (v := 1) hx hb dX0_bestPrice_81 (by decide) ?_
      refine lv_istore (lv' := [(4, .int 1), (3, .int 0), (0, .ref (eA E 102)), (2, .int z10)]) hx hb dX0_bestPrice_82 hl (by decide) rfl (fun ls hl => ?_)
      refine bd2_e h (fun z17 z18 ho h => ?_)
      refine (lp_rule (G := (fun v : (Int32 × Int32) => ∀ (H : Heap) (locs : List Loc) (ls : Array Slot), AtW E (wC E σ12 ++ X) A s H locs → lv_has ls 5 [(0, .ref (eA E 102)), (2, .int z10), (3, .int v.1), (4, .int v.2)] → W p l e rm_X0_bestPrice s m a below meth c H locs 0 0 QQ (F0 m 84 ls []))) (K := (fun v : (Int32 × Int32) => ∀ (H : Heap) (locs : List Loc) (ls : Array Slot), AtW E (wC E σ12 ++ X) A s H locs → lv_has ls 5 [(3, .int v.1)] → W p l e rm_X0_bestPrice s m a below meth c H locs 0 0 QQ (F0 m 119 ls []))) (fun v b1 y1 h hT1 hF1 => ?_) ho (fun H locs ls hV hl => ?_)) _ _ _ hV (lv_sub hl [2, 3, 1, 0] rfl)
      · obtain ⟨u13, u14⟩ := v
        have h : x_X0_bestPrice_L84 z10 σ12 u13 u14 = some (b1, y1) := h
        intro H locs ls hV hl
        have hV : AtW E (wC E σ12 ++ X) A s H locs := hV
        have hl : lv_has ls 5 [(0, .ref (eA E 102)), (2, .int z10), (3, .int u13), (4, .int u14)] := hl
        unfold x_X0_bestPrice_L84 at h
        refine lv_iload hx hb dX0_bestPrice_84 (lv_at hl 3 rfl) ?_
        refine lv_iload_n hx hb dX0_bestPrice_86 rfl (lv_at hl 1 rfl) ?_
        refine lv_icmp_gt (tgt := 119) hx hb dX0_bestPrice_87 (by decide) (fun hc => ?_) (fun hc => ?_)
        · have h := ifp hc h
          cases h
          exact hF1 rfl _ _ _ hV (lv_sub hl [2] rfl)
        · have h := ifn hc h
          refine lv_aload_n hx hb dX0_bestPrice_90 rfl (lv_at hl 0 rfl) ?_
          refine G_X0_goods cx hV mk_2_43 dX0_bestPrice_91 ?_
          refine lv_iload hx hb dX0_bestPrice_94 (lv_at hl 3 rfl) ?_
          refine bd_e h (fun v15 hq h => ?_)
          refine k_X2_at (by decide) hq cx hV mk_6_8 ⟨Nat.le_of_ble_eq_true rfl, Nat.le_of_ble_eq_true rfl⟩ ⟨Nat.zero_le _, Nat.zero_le _⟩ hl.1 (Nat.le_of_ble_eq_true rfl) dX0_bestPrice_96 (fun H locs hV => ?_)
          refine lv_aload_n hx hb dX0_bestPrice_99 rfl (lv_at hl 0 rfl) ?_
          refine G_X0_goods cx hV mk_2_43 dX0_bestPrice_100 ?_
          refine lv_iload_n hx hb dX0_bestPrice_103 rfl (lv_at hl 2 rfl) ?_
          refine bd_e h (fun v16 hq h => ?_)
          refine k_X2_at (by decide) hq cx hV mk_6_8 ⟨Nat.le_of_ble_eq_true rfl, Nat.le_of_ble_eq_true rfl⟩ ⟨Nat.zero_le _, Nat.zero_le _⟩ hl.1 (Nat.le_of_ble_eq_true rfl) dX0_bestPrice_104 (fun H locs hV => ?_)
          refine lv_icmp_le (tgt := 113) hx hb dX0_bestPrice_107 (by decide) (fun hc => ?_) (fun hc => ?_)
          · have h := ifp hc h
            refine lv_iinc (v := (u14 + 1)) (lv' := [(4, .int (u14 + 1)), (0, .ref (eA E 102)), (2, .int z10), (3, .int u13)]) hx hb dX0_bestPrice_113 hl (k := 3) rfl rfl (by decide) rfl (fun ls hl => ?_)
            refine lv_goto (tgt := 84) hx hb dX0_bestPrice_116 (by decide) ?_
            cases h
            exact hT1 rfl _ _ _ hV (lv_sub hl [1, 2, 3, 0] rfl)
          · have h := ifn hc h
            refine lv_iload hx hb dX0_bestPrice_110 (lv_at hl 3 rfl) ?_
            refine lv_istore_n (lv' := [(3, .int u14), (0, .ref (eA E 102)), (2, .int z10), (4, .int u14)]) hx hb dX0_bestPrice_112 rfl hl (by decide) rfl (fun ls hl => ?_)
            refine lv_iinc (v := (u14 + 1)) (lv' := [(4, .int (u14 + 1)), (3, .int u14), (0, .ref (eA E 102)), (2, .int z10)]) hx hb dX0_bestPrice_113 hl (k := 3) rfl rfl (by decide) rfl (fun ls hl => ?_)
            refine lv_goto (tgt := 84) hx hb dX0_bestPrice_116 (by decide) ?_
            cases h
            exact hT1 rfl _ _ _ hV (lv_sub hl [2, 3, 1, 0] rfl)
      · have hV : AtW E (wC E σ12 ++ X) A s H locs := hV
        have hl : lv_has ls 5 [(3, .int z17)] := hl
        refine lv_iload_n hx hb dX0_bestPrice_119 rfl (lv_at hl 0 rfl) ?_
        obtain ⟨h1, h2⟩ := Prod.mk.inj (Option.some.inj h)
        subst h1
        subst h2
        subst hQ
        exact r_ireti cx hr hlk hV dX0_bestPrice_120
  rw [hH, hlocs] at goal
  exact goal
theorem k_X0_bestPrice {p : Program} {l : Launch} {e : Env} {R : Room} {s : State} {m : MethodId} {a : Array Value} {below : List Frame} {meth : Method} {c : Code} {H : Heap} {locs : List Loc} {cells slots : Nat} {Q : State → Prop} {cc : ByteArray} {own : String} {nL pc : Nat} {ls : Array Slot} {rest : List Value} {A : Nat → Prop} {E : EV} {X : va_W} {σ : St} {p1 : Int32} {rv : Int32} {σf : St} (h : x_X0_bestPrice p1 σ = some (rv, σf)) (cx : CallFix p m c cc nL s a TBL own) (hV : AtW E (wC E σ ++ X) A s H locs) {idx : Nat} (w1 : Cond.methodLink own idx yX0_bestPrice ∈ TBL) (hR : (rm_X0_bestPrice).frames + 1 ≤ R.frames ∧ 8 + (5 + 11) + (rm_X0_bestPrice).locals ≤ R.locals) (hcs : cells ≤ R.cells ∧ slots ≤ R.slots) (hls : ls.size = nL) (hcat : (rest.map fun v => v.category).sum ≤ 8) (d : decode cc pc = .ok (.invokevirtual idx, 3)) (kk : ∀ (H1 : Heap) (locs1 : List Loc), AtW E (wC E σf ++ X) A s H1 locs1 → W p l e R s m a below meth c H1 locs1 cells slots Q (F0 m (pc + 3) ls (.int rv :: rest))) : W p l e R s m a below meth c H locs cells slots Q (F0 m pc ls (.int p1 :: .ref (eA E 102) :: rest)) :=
  r_calli (n := 1) (As := [.int p1]) (q0 := 102) (ci := 0) (qq := (RX0, TX0, 4)) (c_X0_bestPrice h) wC_fst rfl rfl mk_5_236 mk_5_237 mk_1_8 mk_5_238 (by decide +kernel) rfl ⟨rfl, rfl⟩ cx hV w1 hR hcs hls rfl hcat d kk
def x_X4_begin (p1 : Int32) (p2 : Int32) (p3 : Int32) (p4 : Int32) (σ : St) : Option St :=
  bd (some (sI σ 26 p1)) fun σ1 =>
  bd (some (sI σ1 27 p2)) fun σ2 =>
  bd (some (sI σ2 28 p3)) fun σ3 =>
  bd (some (sI σ3 29 p4)) fun σ4 =>
  bd (some (sI σ4 24 0)) fun σ5 =>
  bd (some (sI σ5 25 (-1))) fun σ6 =>
  some σ6
abbrev rm_X4_begin : Room := { frames := 0, cells := 0, slots := 0, locals := 0 }
set_option maxHeartbeats 4000000 in
set_option maxRecDepth 100000 in
theorem c_X4_begin {l : Launch} {E : EV} {X : va_W} {σ : St} {p1 : Int32} {p2 : Int32} {p3 : Int32} {p4 : Int32} {σf : St} (h : x_X4_begin p1 p2 p3 p4 σ = some σf) : CM l yX4_begin cX4_begin 5 none rm_X4_begin [.ref (eA E 112), .int p1, .int p2, .int p3, .int p4] E (wC E σ ++ X) (wC E σf ++ X) qV := by
  refine CM.start (by decide) (Nat.le_of_ble_eq_true rfl) (fun p e s m a below meth c A ls cx hr hlk hV hl => ?_)
  have cx : CallFix p m c cX4_begin 5 s a TBL RX4 := cx
  have hx := cx.1
  have hb := cx.2.1
  have hl : lv_has ls 5 [(0, .ref (eA E 112)), (1, .int p1), (2, .int p2), (3, .int p3), (4, .int p4)] := hl
  generalize hQ : EQ E (wC E σf ++ X) qV A s a below = QQ
  obtain ⟨H, hH⟩ : ∃ H, H = s.heap := ⟨_, rfl⟩
  obtain ⟨locs, hlocs⟩ : ∃ z, z = ([] : List Loc) := ⟨_, rfl⟩
  have hV : AtW E (wC E σ ++ X) A s H locs := by rw [hH, hlocs]; exact hV
  have goal : W p l e rm_X4_begin s m a below meth c H locs 0 0 QQ (F0 m 0 ls []) := by
    unfold x_X4_begin at h
    refine lv_aload_n hx hb dX4_begin_0 rfl (lv_at hl 0 rfl) ?_
    refine lv_iload_n hx hb dX4_begin_1 rfl (lv_at hl 1 rfl) ?_
    refine bd_e h (fun σ1 hq h => ?_)
    refine P_X4_players cx hV hq mk_2_89 dX4_begin_2 (fun H locs hV => ?_)
    refine lv_aload_n hx hb dX4_begin_5 rfl (lv_at hl 0 rfl) ?_
    refine lv_iload_n hx hb dX4_begin_6 rfl (lv_at hl 2 rfl) ?_
    refine bd_e h (fun σ2 hq h => ?_)
    refine P_X4_hours cx hV hq mk_2_90 dX4_begin_7 (fun H locs hV => ?_)
    refine lv_aload_n hx hb dX4_begin_10 rfl (lv_at hl 0 rfl) ?_
    refine lv_iload_n hx hb dX4_begin_11 rfl (lv_at hl 3 rfl) ?_
    refine bd_e h (fun σ3 hq h => ?_)
    refine P_X4_cost cx hV hq mk_2_91 dX4_begin_12 (fun H locs hV => ?_)
    refine lv_aload_n hx hb dX4_begin_15 rfl (lv_at hl 0 rfl) ?_
    refine lv_iload hx hb dX4_begin_16 (lv_at hl 4 rfl) ?_
    refine bd_e h (fun σ4 hq h => ?_)
    refine P_X4_value cx hV hq mk_2_92 dX4_begin_18 (fun H locs hV => ?_)
    refine lv_aload_n hx hb dX4_begin_21 rfl (lv_at hl 0 rfl) ?_
    refine lv_iconst (v := 0) hx hb dX4_begin_22 (by decide) ?_
    refine bd_e h (fun σ5 hq h => ?_)
    refine P_X4_rests cx hV hq mk_2_85 dX4_begin_23 (fun H locs hV => ?_)
    refine lv_aload_n hx hb dX4_begin_26 rfl (lv_at hl 0 rfl) ?_
    refine lv_iconst (v := (-1)) hx hb dX4_begin_27 (by decide) ?_
    refine bd_e h (fun σ6 hq h => ?_)
    refine P_X4_first cx hV hq mk_2_87 dX4_begin_28 (fun H locs hV => ?_)
    have h1 := Option.some.inj h
    subst h1
    subst hQ
    exact r_vret cx hr hlk hV dX4_begin_31
  rw [hH, hlocs] at goal
  exact goal
theorem k_X4_begin {p : Program} {l : Launch} {e : Env} {R : Room} {s : State} {m : MethodId} {a : Array Value} {below : List Frame} {meth : Method} {c : Code} {H : Heap} {locs : List Loc} {cells slots : Nat} {Q : State → Prop} {cc : ByteArray} {own : String} {nL pc : Nat} {ls : Array Slot} {rest : List Value} {A : Nat → Prop} {E : EV} {X : va_W} {σ : St} {p1 : Int32} {p2 : Int32} {p3 : Int32} {p4 : Int32} {σf : St} (h : x_X4_begin p1 p2 p3 p4 σ = some σf) (cx : CallFix p m c cc nL s a TBL own) (hV : AtW E (wC E σ ++ X) A s H locs) {idx : Nat} (w1 : Cond.methodLink own idx yX4_begin ∈ TBL) (hR : (rm_X4_begin).frames + 1 ≤ R.frames ∧ 8 + (5 + 11) + (rm_X4_begin).locals ≤ R.locals) (hcs : cells ≤ R.cells ∧ slots ≤ R.slots) (hls : ls.size = nL) (hcat : (rest.map fun v => v.category).sum ≤ 8) (d : decode cc pc = .ok (.invokevirtual idx, 3)) (kk : ∀ (H1 : Heap) (locs1 : List Loc), AtW E (wC E σf ++ X) A s H1 locs1 → W p l e R s m a below meth c H1 locs1 cells slots Q (F0 m (pc + 3) ls (rest))) : W p l e R s m a below meth c H locs cells slots Q (F0 m pc ls (.int p4 :: .int p3 :: .int p2 :: .int p1 :: .ref (eA E 112) :: rest)) :=
  r_callv (n := 4) (As := [.int p1, .int p2, .int p3, .int p4]) (q0 := 112) (ci := 4) (qq := (RX4, TX4, 7)) (c_X4_begin h) wC_fst rfl rfl mk_6_46 mk_6_47 mk_1_10 mk_6_48 (by decide +kernel) rfl ⟨rfl, rfl⟩ cx hV w1 hR hcs hls rfl hcat d kk
def x_X4_choose_b9_35 (w4 : Int32) (w5 : Int32) (w6 : Int32) (w7 : Int32) (σ8 : St) : Option (Bool × (Int32 × Int32 × St)) :=
  bd (x_X2_put 48 w6 w7 σ8) fun σ9 =>
  (if (gI σ9 27) ≤ 0 then
  some (true, (0, (w5 + (-1)), σ9))
  else
  bd (dvI w4 (gI σ9 27)) fun v10 =>
  some (true, (v10, (w5 + (-1)), σ9)))
def x_X4_choose_L9 (u1 : Int32) (u2 : Int32) (σ3 : St) : Option (Bool × (Int32 × Int32 × St)) :=
  (if u2 < 0 then
  some (false, (u1, u2, σ3))
  else
  (if (gI σ3 27) ≤ 0 then
  x_X4_choose_b9_35 u1 u2 u2 0 σ3
  else
  bd (rmI u1 (gI σ3 27)) fun v11 =>
  x_X4_choose_b9_35 u1 u2 u2 v11 σ3))
def x_X4_choose (p1 : Int32) (σ : St) : Option St :=
  bd3 (lp (fun v : (Int32 × Int32 × St) => x_X4_choose_L9 v.1 v.2.1 v.2.2) FU (p1, ((gI σ 26) - 1), σ)) fun z12 z13 σ14 =>
  some σ14
abbrev rm_X4_choose : Room := { frames := 1, cells := 0, slots := 0, locals := 22 }
set_option maxHeartbeats 4000000 in
set_option maxRecDepth 100000 in
theorem c_X4_choose {l : Launch} {E : EV} {X : va_W} {σ : St} {p1 : Int32} {σf : St} (h : x_X4_choose p1 σ = some σf) : CM l yX4_choose cX4_choose 4 none rm_X4_choose [.ref (eA E 112), .int p1] E (wC E σ ++ X) (wC E σf ++ X) qV := by
  refine CM.start (by decide) (Nat.le_of_ble_eq_true rfl) (fun p e s m a below meth c A ls cx hr hlk hV hl => ?_)
  have cx : CallFix p m c cX4_choose 4 s a TBL RX4 := cx
  have hx := cx.1
  have hb := cx.2.1
  have hl : lv_has ls 4 [(0, .ref (eA E 112)), (1, .int p1)] := hl
  generalize hQ : EQ E (wC E σf ++ X) qV A s a below = QQ
  obtain ⟨H, hH⟩ : ∃ H, H = s.heap := ⟨_, rfl⟩
  obtain ⟨locs, hlocs⟩ : ∃ z, z = ([] : List Loc) := ⟨_, rfl⟩
  have hV : AtW E (wC E σ ++ X) A s H locs := by rw [hH, hlocs]; exact hV
  have goal : W p l e rm_X4_choose s m a below meth c H locs 0 0 QQ (F0 m 0 ls []) := by
    unfold x_X4_choose at h
    refine lv_iload_n hx hb dX4_choose_0 rfl (lv_at hl 1 rfl) ?_
    refine lv_istore_n (lv' := [(2, .int p1), (0, .ref (eA E 112)), (1, .int p1)]) hx hb dX4_choose_1 rfl hl (by decide) rfl (fun ls hl => ?_)
    refine lv_aload_n hx hb dX4_choose_2 rfl (lv_at hl 1 rfl) ?_
    refine G_X4_players cx hV mk_2_89 dX4_choose_3 ?_
    refine lv_iconst (v := 1) hx hb dX4_choose_6 (by decide) ?_
    refine lv_isub hx hb dX4_choose_7 ?_
    refine lv_istore_n (lv' := [(3, .int ((gI σ 26) - 1)), (2, .int p1), (0, .ref (eA E 112)), (1, .int p1)]) hx hb dX4_choose_8 rfl hl (by decide) rfl (fun ls hl => ?_)
    refine bd3_e h (fun z12 z13 σ14 ho h => ?_)
    refine (lp_rule (G := (fun v : (Int32 × Int32 × St) => ∀ (H : Heap) (locs : List Loc) (ls : Array Slot), AtW E (wC E v.2.2 ++ X) A s H locs → lv_has ls 4 [(0, .ref (eA E 112)), (2, .int v.1), (3, .int v.2.1)] → W p l e rm_X4_choose s m a below meth c H locs 0 0 QQ (F0 m 9 ls []))) (K := (fun v : (Int32 × Int32 × St) => ∀ (H : Heap) (locs : List Loc) (ls : Array Slot), AtW E (wC E v.2.2 ++ X) A s H locs → lv_has ls 4 [] → W p l e rm_X4_choose s m a below meth c H locs 0 0 QQ (F0 m 62 ls []))) (fun v b1 y1 h hT1 hF1 => ?_) ho (fun H locs ls hV hl => ?_)) _ _ _ hV (lv_sub hl [2, 1, 0] rfl)
    · have hj9_35 : ∀ (w4 : Int32) (w5 : Int32) (w6 : Int32) (w7 : Int32) (σ8 : St) (H : Heap) (locs : List Loc) (ls : Array Slot), x_X4_choose_b9_35 w4 w5 w6 w7 σ8 = some (b1, y1) → AtW E (wC E σ8 ++ X) A s H locs → lv_has ls 4 [(0, .ref (eA E 112)), (2, .int w4), (3, .int w5)] → W p l e rm_X4_choose s m a below meth c H locs 0 0 QQ (F0 m 35 ls [.int w7, .int w6, .ref (eA E (pN 48))]) := by
        intro w4 w5 w6 w7 σ8 H locs ls h hV hl
        unfold x_X4_choose_b9_35 at h
        refine bd_e h (fun σ9 hq h => ?_)
        refine k_X2_put (by decide) hq cx hV mk_6_57 ⟨Nat.le_of_ble_eq_true rfl, Nat.le_of_ble_eq_true rfl⟩ ⟨Nat.zero_le _, Nat.zero_le _⟩ hl.1 (Nat.le_of_ble_eq_true rfl) dX4_choose_35 (fun H locs hV => ?_)
        refine lv_aload_n hx hb dX4_choose_38 rfl (lv_at hl 0 rfl) ?_
        refine G_X4_hours cx hV mk_2_90 dX4_choose_39 ?_
        refine lv_if_le (tgt := 54) hx hb dX4_choose_42 (by decide) (fun hc => ?_) (fun hc => ?_)
        · have h := ifp hc h
          refine lv_iconst (v := 0) hx hb dX4_choose_54 (by decide) ?_
          refine lv_istore_n (lv' := [(2, .int 0), (0, .ref (eA E 112)), (3, .int w5)]) hx hb dX4_choose_55 rfl hl (by decide) rfl (fun ls hl => ?_)
          refine lv_iinc (v := (w5 + (-1))) (lv' := [(3, .int (w5 + (-1))), (2, .int 0), (0, .ref (eA E 112))]) hx hb dX4_choose_56 hl (k := 2) rfl rfl (by decide) rfl (fun ls hl => ?_)
          refine lv_goto (tgt := 9) hx hb dX4_choose_59 (by decide) ?_
          cases h
          exact hT1 rfl _ _ _ hV (lv_sub hl [2, 1, 0] rfl)
        · have h := ifn hc h
          refine lv_iload_n hx hb dX4_choose_45 rfl (lv_at hl 1 rfl) ?_
          refine lv_aload_n hx hb dX4_choose_46 rfl (lv_at hl 0 rfl) ?_
          refine G_X4_hours cx hV mk_2_90 dX4_choose_47 ?_
          refine bd_e h (fun v10 hq h => ?_)
          obtain ⟨hne, hq⟩ := dvI_e hq
          refine lv_idiv hx hb dX4_choose_50 hne ?_
          rw [hq]
          refine lv_goto (tgt := 55) hx hb dX4_choose_51 (by decide) ?_
          refine lv_istore_n (lv' := [(2, .int v10), (0, .ref (eA E 112)), (3, .int w5)]) hx hb dX4_choose_55 rfl hl (by decide) rfl (fun ls hl => ?_)
          refine lv_iinc (v := (w5 + (-1))) (lv' := [(3, .int (w5 + (-1))), (2, .int v10), (0, .ref (eA E 112))]) hx hb dX4_choose_56 hl (k := 2) rfl rfl (by decide) rfl (fun ls hl => ?_)
          refine lv_goto (tgt := 9) hx hb dX4_choose_59 (by decide) ?_
          cases h
          exact hT1 rfl _ _ _ hV (lv_sub hl [2, 1, 0] rfl)
      obtain ⟨u1, u2, σ3⟩ := v
      have h : x_X4_choose_L9 u1 u2 σ3 = some (b1, y1) := h
      intro H locs ls hV hl
      have hV : AtW E (wC E σ3 ++ X) A s H locs := hV
      have hl : lv_has ls 4 [(0, .ref (eA E 112)), (2, .int u1), (3, .int u2)] := hl
      unfold x_X4_choose_L9 at h
      refine lv_iload_n hx hb dX4_choose_9 rfl (lv_at hl 2 rfl) ?_
      refine lv_if_lt (tgt := 62) hx hb dX4_choose_10 (by decide) (fun hc => ?_) (fun hc => ?_)
      · have h := ifp hc h
        cases h
        exact hF1 rfl _ _ _ hV (lv_sub hl [] rfl)
      · have h := ifn hc h
        refine lv_aload_n hx hb dX4_choose_13 rfl (lv_at hl 0 rfl) ?_
        refine G_X4_chosen cx hV mk_2_93 dX4_choose_14 ?_
        refine lv_iload_n hx hb dX4_choose_17 rfl (lv_at hl 2 rfl) ?_
        refine lv_aload_n hx hb dX4_choose_18 rfl (lv_at hl 0 rfl) ?_
        refine G_X4_hours cx hV mk_2_90 dX4_choose_19 ?_
        refine lv_if_le (tgt := 34) hx hb dX4_choose_22 (by decide) (fun hc => ?_) (fun hc => ?_)
        · have h := ifp hc h
          refine lv_iconst (v := 0) hx hb dX4_choose_34 (by decide) ?_
          exact hj9_35 u1 u2 u2 0 σ3 _ _ _ h hV (lv_sub hl [0, 1, 2] rfl)
        · have h := ifn hc h
          refine lv_iload_n hx hb dX4_choose_25 rfl (lv_at hl 1 rfl) ?_
          refine lv_aload_n hx hb dX4_choose_26 rfl (lv_at hl 0 rfl) ?_
          refine G_X4_hours cx hV mk_2_90 dX4_choose_27 ?_
          refine bd_e h (fun v11 hq h => ?_)
          obtain ⟨hne, hq⟩ := rmI_e hq
          refine lv_irem hx hb dX4_choose_30 hne ?_
          rw [hq]
          refine lv_goto (tgt := 35) hx hb dX4_choose_31 (by decide) ?_
          exact hj9_35 u1 u2 u2 v11 σ3 _ _ _ h hV (lv_sub hl [0, 1, 2] rfl)
    · have hV : AtW E (wC E σ14 ++ X) A s H locs := hV
      have hl : lv_has ls 4 [] := hl
      have h1 := Option.some.inj h
      subst h1
      subst hQ
      exact r_vret cx hr hlk hV dX4_choose_62
  rw [hH, hlocs] at goal
  exact goal
theorem k_X4_choose {p : Program} {l : Launch} {e : Env} {R : Room} {s : State} {m : MethodId} {a : Array Value} {below : List Frame} {meth : Method} {c : Code} {H : Heap} {locs : List Loc} {cells slots : Nat} {Q : State → Prop} {cc : ByteArray} {own : String} {nL pc : Nat} {ls : Array Slot} {rest : List Value} {A : Nat → Prop} {E : EV} {X : va_W} {σ : St} {p1 : Int32} {σf : St} (h : x_X4_choose p1 σ = some σf) (cx : CallFix p m c cc nL s a TBL own) (hV : AtW E (wC E σ ++ X) A s H locs) {idx : Nat} (w1 : Cond.methodLink own idx yX4_choose ∈ TBL) (hR : (rm_X4_choose).frames + 1 ≤ R.frames ∧ 8 + (4 + 11) + (rm_X4_choose).locals ≤ R.locals) (hcs : cells ≤ R.cells ∧ slots ≤ R.slots) (hls : ls.size = nL) (hcat : (rest.map fun v => v.category).sum ≤ 8) (d : decode cc pc = .ok (.invokevirtual idx, 3)) (kk : ∀ (H1 : Heap) (locs1 : List Loc), AtW E (wC E σf ++ X) A s H1 locs1 → W p l e R s m a below meth c H1 locs1 cells slots Q (F0 m (pc + 3) ls (rest))) : W p l e R s m a below meth c H locs cells slots Q (F0 m pc ls (.int p1 :: .ref (eA E 112) :: rest)) :=
  r_callv (n := 1) (As := [.int p1]) (q0 := 112) (ci := 4) (qq := (RX4, TX4, 7)) (c_X4_choose h) wC_fst rfl rfl mk_6_55 mk_P_54 mk_1_10 mk_6_56 (by decide +kernel) rfl ⟨rfl, rfl⟩ cx hV w1 hR hcs hls rfl hcat d kk
def x_X4_gainOf_b92 (w1 : Int32) (w2 : Int32) (σ : St) : Option Int32 :=
  some (w2 - ((12 * (gI σ 28)) * (((gI σ 27) - 1) - w1)))
def x_X4_gainOf_L14 (v3 : Int32) (σ : St) (u4 : Int32) (u5 : Int32) : Option ((Bool × (Int32 × Int32)) ⊕ Int32) :=
  (if (gI σ 26) ≤ u5 then
  some (.inl (false, (u4, u5)))
  else
  bd (x_X2_at 48 u5 σ) fun v6 =>
  (if v3 ≤ v6 then
  bd (x_X2_at 48 u5 σ) fun v7 =>
  (if v7 = v3 then
  some (.inl (true, ((u4 + 1), (u5 + 1))))
  else
  some (.inl (true, (u4, (u5 + 1)))))
  else
  some (.inr (((-12) * (gI σ 28)) * (((gI σ 27) - 1) - v3)))))
def x_X4_gainOf (p1 : Int32) (σ : St) : Option Int32 :=
  bd (x_X2_at 48 p1 σ) fun v3 =>
  bs2 (lpr (fun v : (Int32 × Int32) => x_X4_gainOf_L14 v3 σ v.1 v.2) FU (0, 0)) (fun z8 z9 =>
  (if z8 ≤ 0 then
  x_X4_gainOf_b92 v3 0 σ
  else
  bd (dvI (12 * (gI σ 29)) z8) fun v10 =>
  x_X4_gainOf_b92 v3 v10 σ)) some
abbrev rm_X4_gainOf : Room := { frames := 1, cells := 0, slots := 0, locals := 21 }
set_option maxHeartbeats 4000000 in
set_option maxRecDepth 100000 in
theorem c_X4_gainOf {l : Launch} {E : EV} {X : va_W} {σ : St} {p1 : Int32} {rv : Int32} (h : x_X4_gainOf p1 σ = some rv) : CM l yX4_gainOf cX4_gainOf 5 (some .int) rm_X4_gainOf [.ref (eA E 112), .int p1] E (wC E σ ++ X) (wC E σ ++ X) (qI rv) := by
  refine CM.start (by decide) (Nat.le_of_ble_eq_true rfl) (fun p e s m a below meth c A ls cx hr hlk hV hl => ?_)
  have cx : CallFix p m c cX4_gainOf 5 s a TBL RX4 := cx
  have hx := cx.1
  have hb := cx.2.1
  have hl : lv_has ls 5 [(0, .ref (eA E 112)), (1, .int p1)] := hl
  generalize hQ : EQ E (wC E σ ++ X) (qI rv) A s a below = QQ
  obtain ⟨H, hH⟩ : ∃ H, H = s.heap := ⟨_, rfl⟩
  obtain ⟨locs, hlocs⟩ : ∃ z, z = ([] : List Loc) := ⟨_, rfl⟩
  have hV : AtW E (wC E σ ++ X) A s H locs := by rw [hH, hlocs]; exact hV
  have goal : W p l e rm_X4_gainOf s m a below meth c H locs 0 0 QQ (F0 m 0 ls []) := by
    unfold x_X4_gainOf at h
    have hj92 : ∀ (w1 : Int32) (w2 : Int32) (H : Heap) (locs : List Loc) (ls : Array Slot), x_X4_gainOf_b92 w1 w2 σ = some rv → AtW E (wC E σ ++ X) A s H locs → lv_has ls 5 [(0, .ref (eA E 112)), (2, .int w1)] → W p l e rm_X4_gainOf s m a below meth c H locs 0 0 QQ (F0 m 92 ls [.int w2]) := by
      intro w1 w2 H locs ls h hV hl
      unfold x_X4_gainOf_b92 at h
      refine lv_istore (lv' := [(4, .int w2), (0, .ref (eA E 112)), (2, .int w1)]) hx hb dX4_gainOf_92 hl (by decide) rfl (fun ls hl => ?_)
      refine lv_iload hx hb dX4_gainOf_94 (lv_at hl 0 rfl) ?_
      refine lv_bipush (v := 12) hx hb dX4_gainOf_96 (by decide) ?_
      refine lv_aload_n hx hb dX4_gainOf_98 rfl (lv_at hl 1 rfl) ?_
      refine G_X4_cost cx hV mk_2_91 dX4_gainOf_99 ?_
      refine lv_imul hx hb dX4_gainOf_102 ?_
      refine lv_aload_n hx hb dX4_gainOf_103 rfl (lv_at hl 1 rfl) ?_
      refine G_X4_hours cx hV mk_2_90 dX4_gainOf_104 ?_
      refine lv_iconst (v := 1) hx hb dX4_gainOf_107 (by decide) ?_
      refine lv_isub hx hb dX4_gainOf_108 ?_
      refine lv_iload_n hx hb dX4_gainOf_109 rfl (lv_at hl 2 rfl) ?_
      refine lv_isub hx hb dX4_gainOf_110 ?_
      refine lv_imul hx hb dX4_gainOf_111 ?_
      refine lv_isub hx hb dX4_gainOf_112 ?_
      have h1 := Option.some.inj h
      subst h1
      subst hQ
      exact r_ireti cx hr hlk hV dX4_gainOf_113
    refine lv_aload_n hx hb dX4_gainOf_0 rfl (lv_at hl 0 rfl) ?_
    refine G_X4_chosen cx hV mk_2_93 dX4_gainOf_1 ?_
    refine lv_iload_n hx hb dX4_gainOf_4 rfl (lv_at hl 1 rfl) ?_
    refine bd_e h (fun v3 hq h => ?_)
    refine k_X2_at (by decide) hq cx hV mk_6_66 ⟨Nat.le_of_ble_eq_true rfl, Nat.le_of_ble_eq_true rfl⟩ ⟨Nat.zero_le _, Nat.zero_le _⟩ hl.1 (Nat.le_of_ble_eq_true rfl) dX4_gainOf_5 (fun H locs hV => ?_)
    refine lv_istore_n (lv' := [(2, .int v3), (0, .ref (eA E 112)), (1, .int p1)]) hx hb dX4_gainOf_8 rfl hl (by decide) rfl (fun ls hl => ?_)
    refine lv_iconst (v := 0) hx hb dX4_gainOf_9 (by decide) ?_
    refine lv_istore_n (lv' := [(3, .int 0), (2, .int v3), (0, .ref (eA E 112)), (1, .int p1)]) hx hb dX4_gainOf_10 rfl hl (by decide) rfl (fun ls hl => ?_)
    refine lv_iconst (v := 0) hx hb dX4_gainOf_11 (by decide) ?_
    refine lv_istore (lv' := [(4, .int 0), (3, .int 0), (2, .int v3), (0, .ref (eA E 112)), (1, .int p1)]) hx hb dX4_gainOf_12 hl (by decide) rfl (fun ls hl => ?_)
    obtain ⟨o1, ho⟩ := bs2_get h
    rw [ho] at h
    refine (lpr_rule (G := (fun v : (Int32 × Int32) => ∀ (H : Heap) (locs : List Loc) (ls : Array Slot), AtW E (wC E σ ++ X) A s H locs → lv_has ls 5 [(0, .ref (eA E 112)), (2, .int v3), (3, .int v.1), (4, .int v.2)] → W p l e rm_X4_gainOf s m a below meth c H locs 0 0 QQ (F0 m 14 ls []))) (K := (fun v : (Int32 × Int32) => ∀ (H : Heap) (locs : List Loc) (ls : Array Slot), AtW E (wC E σ ++ X) A s H locs → lv_has ls 5 [(0, .ref (eA E 112)), (2, .int v3), (3, .int v.1)] → W p l e rm_X4_gainOf s m a below meth c H locs 0 0 QQ (F0 m 75 ls []))) (KR := (fun r => some r = some rv)) (fun v e1 h hT1 hF1 hR1 => ?_) ho (fun v hv => ?_) (fun r hv => ?_)) _ _ _ hV (lv_sub hl [3, 2, 1, 0] rfl)
    · obtain ⟨u4, u5⟩ := v
      have h : x_X4_gainOf_L14 v3 σ u4 u5 = some e1 := h
      intro H locs ls hV hl
      have hV : AtW E (wC E σ ++ X) A s H locs := hV
      have hl : lv_has ls 5 [(0, .ref (eA E 112)), (2, .int v3), (3, .int u4), (4, .int u5)] := hl
      unfold x_X4_gainOf_L14 at h
      refine lv_iload hx hb dX4_gainOf_14 (lv_at hl 3 rfl) ?_
      refine lv_aload_n hx hb dX4_gainOf_16 rfl (lv_at hl 0 rfl) ?_
      refine G_X4_players cx hV mk_2_89 dX4_gainOf_17 ?_
      refine lv_icmp_ge (tgt := 75) hx hb dX4_gainOf_20 (by decide) (fun hc => ?_) (fun hc => ?_)
      · have h := ifp hc h
        cases h
        exact hF1 _ rfl _ _ _ hV (lv_sub hl [0, 1, 2] rfl)
      · have h := ifn hc h
        refine lv_aload_n hx hb dX4_gainOf_23 rfl (lv_at hl 0 rfl) ?_
        refine G_X4_chosen cx hV mk_2_93 dX4_gainOf_24 ?_
        refine lv_iload hx hb dX4_gainOf_27 (lv_at hl 3 rfl) ?_
        refine bd_e h (fun v6 hq h => ?_)
        refine k_X2_at (by decide) hq cx hV mk_6_66 ⟨Nat.le_of_ble_eq_true rfl, Nat.le_of_ble_eq_true rfl⟩ ⟨Nat.zero_le _, Nat.zero_le _⟩ hl.1 (Nat.le_of_ble_eq_true rfl) dX4_gainOf_29 (fun H locs hV => ?_)
        refine lv_iload_n hx hb dX4_gainOf_32 rfl (lv_at hl 1 rfl) ?_
        refine lv_icmp_ge (tgt := 53) hx hb dX4_gainOf_33 (by decide) (fun hc => ?_) (fun hc => ?_)
        · have h := ifp hc h
          refine lv_aload_n hx hb dX4_gainOf_53 rfl (lv_at hl 0 rfl) ?_
          refine G_X4_chosen cx hV mk_2_93 dX4_gainOf_54 ?_
          refine lv_iload hx hb dX4_gainOf_57 (lv_at hl 3 rfl) ?_
          refine bd_e h (fun v7 hq h => ?_)
          refine k_X2_at (by decide) hq cx hV mk_6_66 ⟨Nat.le_of_ble_eq_true rfl, Nat.le_of_ble_eq_true rfl⟩ ⟨Nat.zero_le _, Nat.zero_le _⟩ hl.1 (Nat.le_of_ble_eq_true rfl) dX4_gainOf_59 (fun H locs hV => ?_)
          refine lv_iload_n hx hb dX4_gainOf_62 rfl (lv_at hl 1 rfl) ?_
          refine lv_icmp_ne (tgt := 69) hx hb dX4_gainOf_63 (by decide) (fun hc => ?_) (fun hc => ?_)
          · have h := ifn hc h
            refine lv_iinc (v := (u5 + 1)) (lv' := [(4, .int (u5 + 1)), (0, .ref (eA E 112)), (2, .int v3), (3, .int u4)]) hx hb dX4_gainOf_69 hl (k := 3) rfl rfl (by decide) rfl (fun ls hl => ?_)
            refine lv_goto (tgt := 14) hx hb dX4_gainOf_72 (by decide) ?_
            cases h
            exact hT1 _ rfl _ _ _ hV (lv_sub hl [1, 2, 3, 0] rfl)
          · have h := ifp hc h
            refine lv_iinc (v := (u4 + 1)) (lv' := [(3, .int (u4 + 1)), (0, .ref (eA E 112)), (2, .int v3), (4, .int u5)]) hx hb dX4_gainOf_66 hl (k := 2) rfl rfl (by decide) rfl (fun ls hl => ?_)
            refine lv_iinc (v := (u5 + 1)) (lv' := [(4, .int (u5 + 1)), (3, .int (u4 + 1)), (0, .ref (eA E 112)), (2, .int v3)]) hx hb dX4_gainOf_69 hl (k := 3) rfl rfl (by decide) rfl (fun ls hl => ?_)
            refine lv_goto (tgt := 14) hx hb dX4_gainOf_72 (by decide) ?_
            cases h
            exact hT1 _ rfl _ _ _ hV (lv_sub hl [2, 3, 1, 0] rfl)
        · have h := ifn hc h
          refine lv_bipush (v := (-12)) hx hb dX4_gainOf_36 (by decide) ?_
          refine lv_aload_n hx hb dX4_gainOf_38 rfl (lv_at hl 0 rfl) ?_
          refine G_X4_cost cx hV mk_2_91 dX4_gainOf_39 ?_
          refine lv_imul hx hb dX4_gainOf_42 ?_
          refine lv_aload_n hx hb dX4_gainOf_43 rfl (lv_at hl 0 rfl) ?_
          refine G_X4_hours cx hV mk_2_90 dX4_gainOf_44 ?_
          refine lv_iconst (v := 1) hx hb dX4_gainOf_47 (by decide) ?_
          refine lv_isub hx hb dX4_gainOf_48 ?_
          refine lv_iload_n hx hb dX4_gainOf_49 rfl (lv_at hl 1 rfl) ?_
          refine lv_isub hx hb dX4_gainOf_50 ?_
          refine lv_imul hx hb dX4_gainOf_51 ?_
          cases h
          have h := hR1 _ rfl
          cases h
          subst hQ
          exact r_ireti cx hr hlk hV dX4_gainOf_52
    · subst hv
      obtain ⟨z8, z9⟩ := v
      intro H locs ls hV hl
      have hV : AtW E (wC E σ ++ X) A s H locs := hV
      have hl : lv_has ls 5 [(0, .ref (eA E 112)), (2, .int v3), (3, .int z8)] := hl
      have h := bs2_inl h
      refine lv_iload_n hx hb dX4_gainOf_75 rfl (lv_at hl 2 rfl) ?_
      refine lv_if_le (tgt := 91) hx hb dX4_gainOf_76 (by decide) (fun hc => ?_) (fun hc => ?_)
      · have h := ifp hc h
        refine lv_iconst (v := 0) hx hb dX4_gainOf_91 (by decide) ?_
        exact hj92 v3 0 _ _ _ h hV (lv_sub hl [0, 1] rfl)
      · have h := ifn hc h
        refine lv_bipush (v := 12) hx hb dX4_gainOf_79 (by decide) ?_
        refine lv_aload_n hx hb dX4_gainOf_81 rfl (lv_at hl 0 rfl) ?_
        refine G_X4_value cx hV mk_2_92 dX4_gainOf_82 ?_
        refine lv_imul hx hb dX4_gainOf_85 ?_
        refine lv_iload_n hx hb dX4_gainOf_86 rfl (lv_at hl 2 rfl) ?_
        refine bd_e h (fun v10 hq h => ?_)
        obtain ⟨hne, hq⟩ := dvI_e hq
        refine lv_idiv hx hb dX4_gainOf_87 hne ?_
        rw [hq]
        refine lv_goto (tgt := 92) hx hb dX4_gainOf_88 (by decide) ?_
        exact hj92 v3 v10 _ _ _ h hV (lv_sub hl [0, 1] rfl)
    · subst hv
      exact bs2_inr h
  rw [hH, hlocs] at goal
  exact goal
theorem k_X4_gainOf {p : Program} {l : Launch} {e : Env} {R : Room} {s : State} {m : MethodId} {a : Array Value} {below : List Frame} {meth : Method} {c : Code} {H : Heap} {locs : List Loc} {cells slots : Nat} {Q : State → Prop} {cc : ByteArray} {own : String} {nL pc : Nat} {ls : Array Slot} {rest : List Value} {A : Nat → Prop} {E : EV} {X : va_W} {σ : St} {p1 : Int32} {rv : Int32} (h : x_X4_gainOf p1 σ = some rv) (cx : CallFix p m c cc nL s a TBL own) (hV : AtW E (wC E σ ++ X) A s H locs) {idx : Nat} (w1 : Cond.methodLink own idx yX4_gainOf ∈ TBL) (hR : (rm_X4_gainOf).frames + 1 ≤ R.frames ∧ 8 + (5 + 11) + (rm_X4_gainOf).locals ≤ R.locals) (hcs : cells ≤ R.cells ∧ slots ≤ R.slots) (hls : ls.size = nL) (hcat : (rest.map fun v => v.category).sum ≤ 8) (d : decode cc pc = .ok (.invokevirtual idx, 3)) (kk : ∀ (H1 : Heap) (locs1 : List Loc), AtW E (wC E σ ++ X) A s H1 locs1 → W p l e R s m a below meth c H1 locs1 cells slots Q (F0 m (pc + 3) ls (.int rv :: rest))) : W p l e R s m a below meth c H locs cells slots Q (F0 m pc ls (.int p1 :: .ref (eA E 112) :: rest)) :=
  r_calli (n := 1) (As := [.int p1]) (q0 := 112) (ci := 4) (qq := (RX4, TX4, 7)) (c_X4_gainOf h) rfl rfl rfl mk_6_69 mk_P_57 mk_1_10 mk_6_70 (by decide +kernel) rfl ⟨rfl, rfl⟩ cx hV w1 hR hcs hls rfl hcat d kk
def x_X4_wouldChange_L21 (p1 : Int32) (v1 : Int32) (v2 : Int32) (u3 : Int32) (u4 : Int32) (σ5 : St) : Option (Bool × (Int32 × Int32 × St)) :=
  (if (gI σ5 27) ≤ u4 then
  some (false, (u3, u4, σ5))
  else
  bd (x_X2_put 48 p1 u4 σ5) fun σ6 =>
  bd (x_X4_gainOf p1 σ6) fun v7 =>
  (if v7 ≤ v2 then
  some (true, (u3, (u4 + 1), σ6))
  else
  some (true, (1, (u4 + 1), σ6))))
def x_X4_wouldChange (p1 : Int32) (σ : St) : Option (Int32 × St) :=
  bd (x_X2_at 48 p1 σ) fun v1 =>
  bd (x_X4_gainOf p1 σ) fun v2 =>
  bd3 (lp (fun v : (Int32 × Int32 × St) => x_X4_wouldChange_L21 p1 v1 v2 v.1 v.2.1 v.2.2) FU (0, 0, σ)) fun z8 z9 σ10 =>
  bd (x_X2_put 48 p1 v1 σ10) fun σ11 =>
  bd (bz z8) fun v12 =>
  some (v12, σ11)
abbrev rm_X4_wouldChange : Room := { frames := 2, cells := 0, slots := 0, locals := 45 }
set_option maxHeartbeats 4000000 in
set_option maxRecDepth 100000 in
theorem c_X4_wouldChange {l : Launch} {E : EV} {X : va_W} {σ : St} {p1 : Int32} {rv : Int32} {σf : St} (h : x_X4_wouldChange p1 σ = some (rv, σf)) : CM l yX4_wouldChange cX4_wouldChange 6 (some .boolean) rm_X4_wouldChange [.ref (eA E 112), .int p1] E (wC E σ ++ X) (wC E σf ++ X) (qI rv) := by
  refine CM.start (by decide) (Nat.le_of_ble_eq_true rfl) (fun p e s m a below meth c A ls cx hr hlk hV hl => ?_)
  have cx : CallFix p m c cX4_wouldChange 6 s a TBL RX4 := cx
  have hx := cx.1
  have hb := cx.2.1
  have hl : lv_has ls 6 [(0, .ref (eA E 112)), (1, .int p1)] := hl
  generalize hQ : EQ E (wC E σf ++ X) (qI rv) A s a below = QQ
  obtain ⟨H, hH⟩ : ∃ H, H = s.heap := ⟨_, rfl⟩
  obtain ⟨locs, hlocs⟩ : ∃ z, z = ([] : List Loc) := ⟨_, rfl⟩
  have hV : AtW E (wC E σ ++ X) A s H locs := by rw [hH, hlocs]; exact hV
  have goal : W p l e rm_X4_wouldChange s m a below meth c H locs 0 0 QQ (F0 m 0 ls []) := by
    unfold x_X4_wouldChange at h
    refine lv_aload_n hx hb dX4_wouldChange_0 rfl (lv_at hl 0 rfl) ?_
    refine G_X4_chosen cx hV mk_2_93 dX4_wouldChange_1 ?_
    refine lv_iload_n hx hb dX4_wouldChange_4 rfl (lv_at hl 1 rfl) ?_
    refine bd_e h (fun v1 hq h => ?_)
    refine k_X2_at (by decide) hq cx hV mk_6_66 ⟨Nat.le_of_ble_eq_true rfl, Nat.le_of_ble_eq_true rfl⟩ ⟨Nat.zero_le _, Nat.zero_le _⟩ hl.1 (Nat.le_of_ble_eq_true rfl) dX4_wouldChange_5 (fun H locs hV => ?_)
    refine lv_istore_n (lv' := [(2, .int v1), (0, .ref (eA E 112)), (1, .int p1)]) hx hb dX4_wouldChange_8 rfl hl (by decide) rfl (fun ls hl => ?_)
    refine lv_aload_n hx hb dX4_wouldChange_9 rfl (lv_at hl 1 rfl) ?_
    refine lv_iload_n hx hb dX4_wouldChange_10 rfl (lv_at hl 2 rfl) ?_
    refine bd_e h (fun v2 hq h => ?_)
    refine k_X4_gainOf hq cx hV mk_6_67 ⟨Nat.le_of_ble_eq_true rfl, Nat.le_of_ble_eq_true rfl⟩ ⟨Nat.zero_le _, Nat.zero_le _⟩ hl.1 (Nat.le_of_ble_eq_true rfl) dX4_wouldChange_11 (fun H locs hV => ?_)
    refine lv_istore_n (lv' := [(3, .int v2), (2, .int v1), (0, .ref (eA E 112)), (1, .int p1)]) hx hb dX4_wouldChange_14 rfl hl (by decide) rfl (fun ls hl => ?_)
    refine lv_iconst (v := 0) hx hb dX4_wouldChange_15 (by decide) ?_
    refine lv_istore (lv' := [(4, .int 0), (3, .int v2), (2, .int v1), (0, .ref (eA E 112)), (1, .int p1)]) hx hb dX4_wouldChange_16 hl (by decide) rfl (fun ls hl => ?_)
    refine lv_iconst (v := 0) hx hb dX4_wouldChange_18 (by decide) ?_
    refine lv_istore (lv' := [(5, .int 0), (4, .int 0), (3, .int v2), (2, .int v1), (0, .ref (eA E 112)), (1, .int p1)]) hx hb dX4_wouldChange_19 hl (by decide) rfl (fun ls hl => ?_)
    refine bd3_e h (fun z8 z9 σ10 ho h => ?_)
    refine (lp_rule (G := (fun v : (Int32 × Int32 × St) => ∀ (H : Heap) (locs : List Loc) (ls : Array Slot), AtW E (wC E v.2.2 ++ X) A s H locs → lv_has ls 6 [(0, .ref (eA E 112)), (1, .int p1), (2, .int v1), (3, .int v2), (4, .int v.1), (5, .int v.2.1)] → W p l e rm_X4_wouldChange s m a below meth c H locs 0 0 QQ (F0 m 21 ls []))) (K := (fun v : (Int32 × Int32 × St) => ∀ (H : Heap) (locs : List Loc) (ls : Array Slot), AtW E (wC E v.2.2 ++ X) A s H locs → lv_has ls 6 [(0, .ref (eA E 112)), (1, .int p1), (2, .int v1), (4, .int v.1)] → W p l e rm_X4_wouldChange s m a below meth c H locs 0 0 QQ (F0 m 58 ls []))) (fun v b1 y1 h hT1 hF1 => ?_) ho (fun H locs ls hV hl => ?_)) _ _ _ hV (lv_sub hl [4, 5, 3, 2, 1, 0] rfl)
    · obtain ⟨u3, u4, σ5⟩ := v
      have h : x_X4_wouldChange_L21 p1 v1 v2 u3 u4 σ5 = some (b1, y1) := h
      intro H locs ls hV hl
      have hV : AtW E (wC E σ5 ++ X) A s H locs := hV
      have hl : lv_has ls 6 [(0, .ref (eA E 112)), (1, .int p1), (2, .int v1), (3, .int v2), (4, .int u3), (5, .int u4)] := hl
      unfold x_X4_wouldChange_L21 at h
      refine lv_iload hx hb dX4_wouldChange_21 (lv_at hl 5 rfl) ?_
      refine lv_aload_n hx hb dX4_wouldChange_23 rfl (lv_at hl 0 rfl) ?_
      refine G_X4_hours cx hV mk_2_90 dX4_wouldChange_24 ?_
      refine lv_icmp_ge (tgt := 58) hx hb dX4_wouldChange_27 (by decide) (fun hc => ?_) (fun hc => ?_)
      · have h := ifp hc h
        cases h
        exact hF1 rfl _ _ _ hV (lv_sub hl [0, 1, 2, 4] rfl)
      · have h := ifn hc h
        refine lv_aload_n hx hb dX4_wouldChange_30 rfl (lv_at hl 0 rfl) ?_
        refine G_X4_chosen cx hV mk_2_93 dX4_wouldChange_31 ?_
        refine lv_iload_n hx hb dX4_wouldChange_34 rfl (lv_at hl 1 rfl) ?_
        refine lv_iload hx hb dX4_wouldChange_35 (lv_at hl 5 rfl) ?_
        refine bd_e h (fun σ6 hq h => ?_)
        refine k_X2_put (by decide) hq cx hV mk_6_57 ⟨Nat.le_of_ble_eq_true rfl, Nat.le_of_ble_eq_true rfl⟩ ⟨Nat.zero_le _, Nat.zero_le _⟩ hl.1 (Nat.le_of_ble_eq_true rfl) dX4_wouldChange_37 (fun H locs hV => ?_)
        refine lv_aload_n hx hb dX4_wouldChange_40 rfl (lv_at hl 0 rfl) ?_
        refine lv_iload_n hx hb dX4_wouldChange_41 rfl (lv_at hl 1 rfl) ?_
        refine bd_e h (fun v7 hq h => ?_)
        refine k_X4_gainOf hq cx hV mk_6_67 ⟨Nat.le_of_ble_eq_true rfl, Nat.le_of_ble_eq_true rfl⟩ ⟨Nat.zero_le _, Nat.zero_le _⟩ hl.1 (Nat.le_of_ble_eq_true rfl) dX4_wouldChange_42 (fun H locs hV => ?_)
        refine lv_iload_n hx hb dX4_wouldChange_45 rfl (lv_at hl 3 rfl) ?_
        refine lv_icmp_le (tgt := 52) hx hb dX4_wouldChange_46 (by decide) (fun hc => ?_) (fun hc => ?_)
        · have h := ifp hc h
          refine lv_iinc (v := (u4 + 1)) (lv' := [(5, .int (u4 + 1)), (0, .ref (eA E 112)), (1, .int p1), (2, .int v1), (3, .int v2), (4, .int u3)]) hx hb dX4_wouldChange_52 hl (k := 5) rfl rfl (by decide) rfl (fun ls hl => ?_)
          refine lv_goto (tgt := 21) hx hb dX4_wouldChange_55 (by decide) ?_
          cases h
          exact hT1 rfl _ _ _ hV (lv_sub hl [1, 2, 3, 4, 5, 0] rfl)
        · have h := ifn hc h
          refine lv_iconst (v := 1) hx hb dX4_wouldChange_49 (by decide) ?_
          refine lv_istore (lv' := [(4, .int 1), (0, .ref (eA E 112)), (1, .int p1), (2, .int v1), (3, .int v2), (5, .int u4)]) hx hb dX4_wouldChange_50 hl (by decide) rfl (fun ls hl => ?_)
          refine lv_iinc (v := (u4 + 1)) (lv' := [(5, .int (u4 + 1)), (4, .int 1), (0, .ref (eA E 112)), (1, .int p1), (2, .int v1), (3, .int v2)]) hx hb dX4_wouldChange_52 hl (k := 5) rfl rfl (by decide) rfl (fun ls hl => ?_)
          refine lv_goto (tgt := 21) hx hb dX4_wouldChange_55 (by decide) ?_
          cases h
          exact hT1 rfl _ _ _ hV (lv_sub hl [2, 3, 4, 5, 1, 0] rfl)
    · have hV : AtW E (wC E σ10 ++ X) A s H locs := hV
      have hl : lv_has ls 6 [(0, .ref (eA E 112)), (1, .int p1), (2, .int v1), (4, .int z8)] := hl
      refine lv_aload_n hx hb dX4_wouldChange_58 rfl (lv_at hl 0 rfl) ?_
      refine G_X4_chosen cx hV mk_2_93 dX4_wouldChange_59 ?_
      refine lv_iload_n hx hb dX4_wouldChange_62 rfl (lv_at hl 1 rfl) ?_
      refine lv_iload_n hx hb dX4_wouldChange_63 rfl (lv_at hl 2 rfl) ?_
      refine bd_e h (fun σ11 hq h => ?_)
      refine k_X2_put (by decide) hq cx hV mk_6_57 ⟨Nat.le_of_ble_eq_true rfl, Nat.le_of_ble_eq_true rfl⟩ ⟨Nat.zero_le _, Nat.zero_le _⟩ hl.1 (Nat.le_of_ble_eq_true rfl) dX4_wouldChange_64 (fun H locs hV => ?_)
      refine lv_iload hx hb dX4_wouldChange_67 (lv_at hl 3 rfl) ?_
      refine bd_e h (fun v12 hq h => ?_)
      obtain ⟨hq, hz⟩ := bz_e hq
      rw [hq]
      obtain ⟨h1, h2⟩ := Prod.mk.inj (Option.some.inj h)
      subst h1
      subst h2
      subst hQ
      exact r_zreti cx hr hlk hV hz dX4_wouldChange_69
  rw [hH, hlocs] at goal
  exact goal
theorem k_X4_wouldChange {p : Program} {l : Launch} {e : Env} {R : Room} {s : State} {m : MethodId} {a : Array Value} {below : List Frame} {meth : Method} {c : Code} {H : Heap} {locs : List Loc} {cells slots : Nat} {Q : State → Prop} {cc : ByteArray} {own : String} {nL pc : Nat} {ls : Array Slot} {rest : List Value} {A : Nat → Prop} {E : EV} {X : va_W} {σ : St} {p1 : Int32} {rv : Int32} {σf : St} (h : x_X4_wouldChange p1 σ = some (rv, σf)) (cx : CallFix p m c cc nL s a TBL own) (hV : AtW E (wC E σ ++ X) A s H locs) {idx : Nat} (w1 : Cond.methodLink own idx yX4_wouldChange ∈ TBL) (hR : (rm_X4_wouldChange).frames + 1 ≤ R.frames ∧ 8 + (6 + 11) + (rm_X4_wouldChange).locals ≤ R.locals) (hcs : cells ≤ R.cells ∧ slots ≤ R.slots) (hls : ls.size = nL) (hcat : (rest.map fun v => v.category).sum ≤ 8) (d : decode cc pc = .ok (.invokevirtual idx, 3)) (kk : ∀ (H1 : Heap) (locs1 : List Loc), AtW E (wC E σf ++ X) A s H1 locs1 → W p l e R s m a below meth c H1 locs1 cells slots Q (F0 m (pc + 3) ls (.int rv :: rest))) : W p l e R s m a below meth c H locs cells slots Q (F0 m pc ls (.int p1 :: .ref (eA E 112) :: rest)) :=
  r_calli (n := 1) (As := [.int p1]) (q0 := 112) (ci := 4) (qq := (RX4, TX4, 7)) (c_X4_wouldChange h) wC_fst rfl rfl mk_6_64 mk_P_56 mk_1_10 mk_6_65 (by decide +kernel) rfl ⟨rfl, rfl⟩ cx hV w1 hR hcs hls rfl hcat d kk
def x_X4_isRest_L2 (u1 : Int32) (σ2 : St) : Option ((Bool × (Int32 × St)) ⊕ (Int32 × St)) :=
  (if (gI σ2 26) ≤ u1 then
  some (.inl (false, (u1, σ2)))
  else
  bd2 (x_X4_wouldChange u1 σ2) fun v3 σ4 =>
  (if v3 = 0 then
  some (.inl (true, ((u1 + 1), σ4)))
  else
  some (.inr (0, σ4))))
def x_X4_isRest (σ : St) : Option (Int32 × St) :=
  bs2 (lpr (fun v : (Int32 × St) => x_X4_isRest_L2 v.1 v.2) FU (0, σ)) (fun z5 σ6 =>
  some (1, σ6)) some
abbrev rm_X4_isRest : Room := { frames := 3, cells := 0, slots := 0, locals := 70 }
set_option maxHeartbeats 4000000 in
set_option maxRecDepth 100000 in
theorem c_X4_isRest {l : Launch} {E : EV} {X : va_W} {σ : St} {rv : Int32} {σf : St} (h : x_X4_isRest σ = some (rv, σf)) : CM l yX4_isRest cX4_isRest 2 (some .boolean) rm_X4_isRest [.ref (eA E 112)] E (wC E σ ++ X) (wC E σf ++ X) (qI rv) := by
  refine CM.start (by decide) (Nat.le_of_ble_eq_true rfl) (fun p e s m a below meth c A ls cx hr hlk hV hl => ?_)
  have cx : CallFix p m c cX4_isRest 2 s a TBL RX4 := cx
  have hx := cx.1
  have hb := cx.2.1
  have hl : lv_has ls 2 [(0, .ref (eA E 112))] := hl
  generalize hQ : EQ E (wC E σf ++ X) (qI rv) A s a below = QQ
  obtain ⟨H, hH⟩ : ∃ H, H = s.heap := ⟨_, rfl⟩
  obtain ⟨locs, hlocs⟩ : ∃ z, z = ([] : List Loc) := ⟨_, rfl⟩
  have hV : AtW E (wC E σ ++ X) A s H locs := by rw [hH, hlocs]; exact hV
  have goal : W p l e rm_X4_isRest s m a below meth c H locs 0 0 QQ (F0 m 0 ls []) := by
    unfold x_X4_isRest at h
    refine lv_iconst (v := 0) hx hb dX4_isRest_0 (by decide) ?_
    refine lv_istore_n (lv' := [(1, .int 0), (0, .ref (eA E 112))]) hx hb dX4_isRest_1 rfl hl (by decide) rfl (fun ls hl => ?_)
    obtain ⟨o1, ho⟩ := bs2_get h
    rw [ho] at h
    refine (lpr_rule (G := (fun v : (Int32 × St) => ∀ (H : Heap) (locs : List Loc) (ls : Array Slot), AtW E (wC E v.2 ++ X) A s H locs → lv_has ls 2 [(0, .ref (eA E 112)), (1, .int v.1)] → W p l e rm_X4_isRest s m a below meth c H locs 0 0 QQ (F0 m 2 ls []))) (K := (fun v : (Int32 × St) => ∀ (H : Heap) (locs : List Loc) (ls : Array Slot), AtW E (wC E v.2 ++ X) A s H locs → lv_has ls 2 [] → W p l e rm_X4_isRest s m a below meth c H locs 0 0 QQ (F0 m 26 ls []))) (KR := (fun r => some r = some (rv, σf))) (fun v e1 h hT1 hF1 hR1 => ?_) ho (fun v hv => ?_) (fun r hv => ?_)) _ _ _ hV (lv_sub hl [1, 0] rfl)
    · obtain ⟨u1, σ2⟩ := v
      have h : x_X4_isRest_L2 u1 σ2 = some e1 := h
      intro H locs ls hV hl
      have hV : AtW E (wC E σ2 ++ X) A s H locs := hV
      have hl : lv_has ls 2 [(0, .ref (eA E 112)), (1, .int u1)] := hl
      unfold x_X4_isRest_L2 at h
      refine lv_iload_n hx hb dX4_isRest_2 rfl (lv_at hl 1 rfl) ?_
      refine lv_aload_n hx hb dX4_isRest_3 rfl (lv_at hl 0 rfl) ?_
      refine G_X4_players cx hV mk_2_89 dX4_isRest_4 ?_
      refine lv_icmp_ge (tgt := 26) hx hb dX4_isRest_7 (by decide) (fun hc => ?_) (fun hc => ?_)
      · have h := ifp hc h
        cases h
        exact hF1 _ rfl _ _ _ hV (lv_sub hl [] rfl)
      · have h := ifn hc h
        refine lv_aload_n hx hb dX4_isRest_10 rfl (lv_at hl 0 rfl) ?_
        refine lv_iload_n hx hb dX4_isRest_11 rfl (lv_at hl 1 rfl) ?_
        refine bd2_e h (fun v3 σ4 hq h => ?_)
        refine k_X4_wouldChange hq cx hV mk_6_62 ⟨Nat.le_of_ble_eq_true rfl, Nat.le_of_ble_eq_true rfl⟩ ⟨Nat.zero_le _, Nat.zero_le _⟩ hl.1 (Nat.le_of_ble_eq_true rfl) dX4_isRest_12 (fun H locs hV => ?_)
        refine lv_if_eq (tgt := 20) hx hb dX4_isRest_15 (by decide) (fun hc => ?_) (fun hc => ?_)
        · have h := ifp hc h
          refine lv_iinc (v := (u1 + 1)) (lv' := [(1, .int (u1 + 1)), (0, .ref (eA E 112))]) hx hb dX4_isRest_20 hl (k := 1) rfl rfl (by decide) rfl (fun ls hl => ?_)
          refine lv_goto (tgt := 2) hx hb dX4_isRest_23 (by decide) ?_
          cases h
          exact hT1 _ rfl _ _ _ hV (lv_sub hl [1, 0] rfl)
        · have h := ifn hc h
          refine lv_iconst (v := 0) hx hb dX4_isRest_18 (by decide) ?_
          cases h
          have h := hR1 _ rfl
          cases h
          subst hQ
          exact r_zreti cx hr hlk hV (Or.inl rfl) dX4_isRest_19
    · subst hv
      obtain ⟨z5, σ6⟩ := v
      intro H locs ls hV hl
      have hV : AtW E (wC E σ6 ++ X) A s H locs := hV
      have hl : lv_has ls 2 [] := hl
      have h := bs2_inl h
      refine lv_iconst (v := 1) hx hb dX4_isRest_26 (by decide) ?_
      obtain ⟨h1, h2⟩ := Prod.mk.inj (Option.some.inj h)
      subst h1
      subst h2
      subst hQ
      exact r_zreti cx hr hlk hV (Or.inr rfl) dX4_isRest_27
    · subst hv
      exact bs2_inr h
  rw [hH, hlocs] at goal
  exact goal
theorem k_X4_isRest {p : Program} {l : Launch} {e : Env} {R : Room} {s : State} {m : MethodId} {a : Array Value} {below : List Frame} {meth : Method} {c : Code} {H : Heap} {locs : List Loc} {cells slots : Nat} {Q : State → Prop} {cc : ByteArray} {own : String} {nL pc : Nat} {ls : Array Slot} {rest : List Value} {A : Nat → Prop} {E : EV} {X : va_W} {σ : St} {rv : Int32} {σf : St} (h : x_X4_isRest σ = some (rv, σf)) (cx : CallFix p m c cc nL s a TBL own) (hV : AtW E (wC E σ ++ X) A s H locs) {idx : Nat} (w1 : Cond.methodLink own idx yX4_isRest ∈ TBL) (hR : (rm_X4_isRest).frames + 1 ≤ R.frames ∧ 8 + (2 + 11) + (rm_X4_isRest).locals ≤ R.locals) (hcs : cells ≤ R.cells ∧ slots ≤ R.slots) (hls : ls.size = nL) (hcat : (rest.map fun v => v.category).sum ≤ 8) (d : decode cc pc = .ok (.invokevirtual idx, 3)) (kk : ∀ (H1 : Heap) (locs1 : List Loc), AtW E (wC E σf ++ X) A s H1 locs1 → W p l e R s m a below meth c H1 locs1 cells slots Q (F0 m (pc + 3) ls (.int rv :: rest))) : W p l e R s m a below meth c H locs cells slots Q (F0 m pc ls (.ref (eA E 112) :: rest)) :=
  r_calli (n := 0) (As := []) (q0 := 112) (ci := 4) (qq := (RX4, TX4, 7)) (c_X4_isRest h) wC_fst rfl rfl mk_6_60 mk_P_55 mk_1_10 mk_6_61 (by decide +kernel) rfl ⟨rfl, rfl⟩ cx hV w1 hR hcs hls rfl hcat d kk
def x_X4_digits_L4 (σ : St) (u1 : Int32) (u2 : Int32) : Option (Bool × (Int32 × Int32)) :=
  (if (gI σ 26) ≤ u2 then
  some (false, (u1, u2))
  else
  bd (x_X2_at 48 u2 σ) fun v3 =>
  some (true, (((u1 * 10) + v3), (u2 + 1))))
def x_X4_digits (σ : St) : Option Int32 :=
  bd2 (lp (fun v : (Int32 × Int32) => x_X4_digits_L4 σ v.1 v.2) FU (0, 0)) fun z4 z5 =>
  some z4
abbrev rm_X4_digits : Room := { frames := 1, cells := 0, slots := 0, locals := 21 }
set_option maxHeartbeats 4000000 in
set_option maxRecDepth 100000 in
theorem c_X4_digits {l : Launch} {E : EV} {X : va_W} {σ : St} {rv : Int32} (h : x_X4_digits σ = some rv) : CM l yX4_digits cX4_digits 3 (some .int) rm_X4_digits [.ref (eA E 112)] E (wC E σ ++ X) (wC E σ ++ X) (qI rv) := by
  refine CM.start (by decide) (Nat.le_of_ble_eq_true rfl) (fun p e s m a below meth c A ls cx hr hlk hV hl => ?_)
  have cx : CallFix p m c cX4_digits 3 s a TBL RX4 := cx
  have hx := cx.1
  have hb := cx.2.1
  have hl : lv_has ls 3 [(0, .ref (eA E 112))] := hl
  generalize hQ : EQ E (wC E σ ++ X) (qI rv) A s a below = QQ
  obtain ⟨H, hH⟩ : ∃ H, H = s.heap := ⟨_, rfl⟩
  obtain ⟨locs, hlocs⟩ : ∃ z, z = ([] : List Loc) := ⟨_, rfl⟩
  have hV : AtW E (wC E σ ++ X) A s H locs := by rw [hH, hlocs]; exact hV
  have goal : W p l e rm_X4_digits s m a below meth c H locs 0 0 QQ (F0 m 0 ls []) := by
    unfold x_X4_digits at h
    refine lv_iconst (v := 0) hx hb dX4_digits_0 (by decide) ?_
    refine lv_istore_n (lv' := [(1, .int 0), (0, .ref (eA E 112))]) hx hb dX4_digits_1 rfl hl (by decide) rfl (fun ls hl => ?_)
    refine lv_iconst (v := 0) hx hb dX4_digits_2 (by decide) ?_
    refine lv_istore_n (lv' := [(2, .int 0), (1, .int 0), (0, .ref (eA E 112))]) hx hb dX4_digits_3 rfl hl (by decide) rfl (fun ls hl => ?_)
    refine bd2_e h (fun z4 z5 ho h => ?_)
    refine (lp_rule (G := (fun v : (Int32 × Int32) => ∀ (H : Heap) (locs : List Loc) (ls : Array Slot), AtW E (wC E σ ++ X) A s H locs → lv_has ls 3 [(0, .ref (eA E 112)), (1, .int v.1), (2, .int v.2)] → W p l e rm_X4_digits s m a below meth c H locs 0 0 QQ (F0 m 4 ls []))) (K := (fun v : (Int32 × Int32) => ∀ (H : Heap) (locs : List Loc) (ls : Array Slot), AtW E (wC E σ ++ X) A s H locs → lv_has ls 3 [(1, .int v.1)] → W p l e rm_X4_digits s m a below meth c H locs 0 0 QQ (F0 m 32 ls []))) (fun v b1 y1 h hT1 hF1 => ?_) ho (fun H locs ls hV hl => ?_)) _ _ _ hV (lv_sub hl [2, 1, 0] rfl)
    · obtain ⟨u1, u2⟩ := v
      have h : x_X4_digits_L4 σ u1 u2 = some (b1, y1) := h
      intro H locs ls hV hl
      have hV : AtW E (wC E σ ++ X) A s H locs := hV
      have hl : lv_has ls 3 [(0, .ref (eA E 112)), (1, .int u1), (2, .int u2)] := hl
      unfold x_X4_digits_L4 at h
      refine lv_iload_n hx hb dX4_digits_4 rfl (lv_at hl 2 rfl) ?_
      refine lv_aload_n hx hb dX4_digits_5 rfl (lv_at hl 0 rfl) ?_
      refine G_X4_players cx hV mk_2_89 dX4_digits_6 ?_
      refine lv_icmp_ge (tgt := 32) hx hb dX4_digits_9 (by decide) (fun hc => ?_) (fun hc => ?_)
      · have h := ifp hc h
        cases h
        exact hF1 rfl _ _ _ hV (lv_sub hl [1] rfl)
      · have h := ifn hc h
        refine lv_iload_n hx hb dX4_digits_12 rfl (lv_at hl 1 rfl) ?_
        refine lv_bipush (v := 10) hx hb dX4_digits_13 (by decide) ?_
        refine lv_imul hx hb dX4_digits_15 ?_
        refine lv_aload_n hx hb dX4_digits_16 rfl (lv_at hl 0 rfl) ?_
        refine G_X4_chosen cx hV mk_2_93 dX4_digits_17 ?_
        refine lv_iload_n hx hb dX4_digits_20 rfl (lv_at hl 2 rfl) ?_
        refine bd_e h (fun v3 hq h => ?_)
        refine k_X2_at (by decide) hq cx hV mk_6_66 ⟨Nat.le_of_ble_eq_true rfl, Nat.le_of_ble_eq_true rfl⟩ ⟨Nat.zero_le _, Nat.zero_le _⟩ hl.1 (Nat.le_of_ble_eq_true rfl) dX4_digits_21 (fun H locs hV => ?_)
        refine lv_iadd hx hb dX4_digits_24 ?_
        refine lv_istore_n (lv' := [(1, .int ((u1 * 10) + v3)), (0, .ref (eA E 112)), (2, .int u2)]) hx hb dX4_digits_25 rfl hl (by decide) rfl (fun ls hl => ?_)
        refine lv_iinc (v := (u2 + 1)) (lv' := [(2, .int (u2 + 1)), (1, .int ((u1 * 10) + v3)), (0, .ref (eA E 112))]) hx hb dX4_digits_26 hl (k := 2) rfl rfl (by decide) rfl (fun ls hl => ?_)
        refine lv_goto (tgt := 4) hx hb dX4_digits_29 (by decide) ?_
        cases h
        exact hT1 rfl _ _ _ hV (lv_sub hl [2, 1, 0] rfl)
    · have hV : AtW E (wC E σ ++ X) A s H locs := hV
      have hl : lv_has ls 3 [(1, .int z4)] := hl
      refine lv_iload_n hx hb dX4_digits_32 rfl (lv_at hl 0 rfl) ?_
      have h1 := Option.some.inj h
      subst h1
      subst hQ
      exact r_ireti cx hr hlk hV dX4_digits_33
  rw [hH, hlocs] at goal
  exact goal
theorem k_X4_digits {p : Program} {l : Launch} {e : Env} {R : Room} {s : State} {m : MethodId} {a : Array Value} {below : List Frame} {meth : Method} {c : Code} {H : Heap} {locs : List Loc} {cells slots : Nat} {Q : State → Prop} {cc : ByteArray} {own : String} {nL pc : Nat} {ls : Array Slot} {rest : List Value} {A : Nat → Prop} {E : EV} {X : va_W} {σ : St} {rv : Int32} (h : x_X4_digits σ = some rv) (cx : CallFix p m c cc nL s a TBL own) (hV : AtW E (wC E σ ++ X) A s H locs) {idx : Nat} (w1 : Cond.methodLink own idx yX4_digits ∈ TBL) (hR : (rm_X4_digits).frames + 1 ≤ R.frames ∧ 8 + (3 + 11) + (rm_X4_digits).locals ≤ R.locals) (hcs : cells ≤ R.cells ∧ slots ≤ R.slots) (hls : ls.size = nL) (hcat : (rest.map fun v => v.category).sum ≤ 8) (d : decode cc pc = .ok (.invokevirtual idx, 3)) (kk : ∀ (H1 : Heap) (locs1 : List Loc), AtW E (wC E σ ++ X) A s H1 locs1 → W p l e R s m a below meth c H1 locs1 cells slots Q (F0 m (pc + 3) ls (.int rv :: rest))) : W p l e R s m a below meth c H locs cells slots Q (F0 m pc ls (.ref (eA E 112) :: rest)) :=
  r_calli (n := 0) (As := []) (q0 := 112) (ci := 4) (qq := (RX4, TX4, 7)) (c_X4_digits h) rfl rfl rfl mk_6_73 mk_P_58 mk_1_10 mk_6_74 (by decide +kernel) rfl ⟨rfl, rfl⟩ cx hV w1 hR hcs hls rfl hcat d kk
def x_X4_findRests_L4 (σ : St) (u1 : Int32) (u2 : Int32) : Option (Bool × (Int32 × Int32)) :=
  (if (gI σ 26) ≤ u2 then
  some (false, (u1, u2))
  else
  some (true, ((u1 * (gI σ 27)), (u2 + 1))))
def x_X4_findRests_L27 (z3 : Int32) (u5 : Int32) (σ6 : St) : Option (Bool × (Int32 × St)) :=
  (if z3 ≤ u5 then
  some (false, (u5, σ6))
  else
  bd (x_X4_choose u5 σ6) fun σ7 =>
  bd2 (x_X4_isRest σ7) fun v8 σ9 =>
  (if v8 = 0 then
  some (true, ((u5 + 1), σ9))
  else
  bd (some (sI σ9 24 ((gI σ9 24) + 1))) fun σ10 =>
  (if (gI σ10 25) = (-1) then
  bd (x_X4_digits σ10) fun v11 =>
  bd (some (sI σ10 25 v11)) fun σ12 =>
  some (true, ((u5 + 1), σ12))
  else
  some (true, ((u5 + 1), σ10)))))
def x_X4_findRests (σ : St) : Option St :=
  bd2 (lp (fun v : (Int32 × Int32) => x_X4_findRests_L4 σ v.1 v.2) FU (1, 0)) fun z3 z4 =>
  bd2 (lp (fun v : (Int32 × St) => x_X4_findRests_L27 z3 v.1 v.2) FU (0, σ)) fun z13 σ14 =>
  some σ14
abbrev rm_X4_findRests : Room := { frames := 4, cells := 0, slots := 0, locals := 91 }
set_option maxHeartbeats 4000000 in
set_option maxRecDepth 100000 in
theorem c_X4_findRests {l : Launch} {E : EV} {X : va_W} {σ : St} {σf : St} (h : x_X4_findRests σ = some σf) : CM l yX4_findRests cX4_findRests 3 none rm_X4_findRests [.ref (eA E 112)] E (wC E σ ++ X) (wC E σf ++ X) qV := by
  refine CM.start (by decide) (Nat.le_of_ble_eq_true rfl) (fun p e s m a below meth c A ls cx hr hlk hV hl => ?_)
  have cx : CallFix p m c cX4_findRests 3 s a TBL RX4 := cx
  have hx := cx.1
  have hb := cx.2.1
  have hl : lv_has ls 3 [(0, .ref (eA E 112))] := hl
  generalize hQ : EQ E (wC E σf ++ X) qV A s a below = QQ
  obtain ⟨H, hH⟩ : ∃ H, H = s.heap := ⟨_, rfl⟩
  obtain ⟨locs, hlocs⟩ : ∃ z, z = ([] : List Loc) := ⟨_, rfl⟩
  have hV : AtW E (wC E σ ++ X) A s H locs := by rw [hH, hlocs]; exact hV
  have goal : W p l e rm_X4_findRests s m a below meth c H locs 0 0 QQ (F0 m 0 ls []) := by
    unfold x_X4_findRests at h
    refine lv_iconst (v := 1) hx hb dX4_findRests_0 (by decide) ?_
    refine lv_istore_n (lv' := [(1, .int 1), (0, .ref (eA E 112))]) hx hb dX4_findRests_1 rfl hl (by decide) rfl (fun ls hl => ?_)
    refine lv_iconst (v := 0) hx hb dX4_findRests_2 (by decide) ?_
    refine lv_istore_n (lv' := [(2, .int 0), (1, .int 1), (0, .ref (eA E 112))]) hx hb dX4_findRests_3 rfl hl (by decide) rfl (fun ls hl => ?_)
    refine bd2_e h (fun z3 z4 ho h => ?_)
    refine (lp_rule (G := (fun v : (Int32 × Int32) => ∀ (H : Heap) (locs : List Loc) (ls : Array Slot), AtW E (wC E σ ++ X) A s H locs → lv_has ls 3 [(0, .ref (eA E 112)), (1, .int v.1), (2, .int v.2)] → W p l e rm_X4_findRests s m a below meth c H locs 0 0 QQ (F0 m 4 ls []))) (K := (fun v : (Int32 × Int32) => ∀ (H : Heap) (locs : List Loc) (ls : Array Slot), AtW E (wC E σ ++ X) A s H locs → lv_has ls 3 [(0, .ref (eA E 112)), (1, .int v.1)] → W p l e rm_X4_findRests s m a below meth c H locs 0 0 QQ (F0 m 25 ls []))) (fun v b1 y1 h hT1 hF1 => ?_) ho (fun H locs ls hV hl => ?_)) _ _ _ hV (lv_sub hl [2, 1, 0] rfl)
    · obtain ⟨u1, u2⟩ := v
      have h : x_X4_findRests_L4 σ u1 u2 = some (b1, y1) := h
      intro H locs ls hV hl
      have hV : AtW E (wC E σ ++ X) A s H locs := hV
      have hl : lv_has ls 3 [(0, .ref (eA E 112)), (1, .int u1), (2, .int u2)] := hl
      unfold x_X4_findRests_L4 at h
      refine lv_iload_n hx hb dX4_findRests_4 rfl (lv_at hl 2 rfl) ?_
      refine lv_aload_n hx hb dX4_findRests_5 rfl (lv_at hl 0 rfl) ?_
      refine G_X4_players cx hV mk_2_89 dX4_findRests_6 ?_
      refine lv_icmp_ge (tgt := 25) hx hb dX4_findRests_9 (by decide) (fun hc => ?_) (fun hc => ?_)
      · have h := ifp hc h
        cases h
        exact hF1 rfl _ _ _ hV (lv_sub hl [0, 1] rfl)
      · have h := ifn hc h
        refine lv_iload_n hx hb dX4_findRests_12 rfl (lv_at hl 1 rfl) ?_
        refine lv_aload_n hx hb dX4_findRests_13 rfl (lv_at hl 0 rfl) ?_
        refine G_X4_hours cx hV mk_2_90 dX4_findRests_14 ?_
        refine lv_imul hx hb dX4_findRests_17 ?_
        refine lv_istore_n (lv' := [(1, .int (u1 * (gI σ 27))), (0, .ref (eA E 112)), (2, .int u2)]) hx hb dX4_findRests_18 rfl hl (by decide) rfl (fun ls hl => ?_)
        refine lv_iinc (v := (u2 + 1)) (lv' := [(2, .int (u2 + 1)), (1, .int (u1 * (gI σ 27))), (0, .ref (eA E 112))]) hx hb dX4_findRests_19 hl (k := 2) rfl rfl (by decide) rfl (fun ls hl => ?_)
        refine lv_goto (tgt := 4) hx hb dX4_findRests_22 (by decide) ?_
        cases h
        exact hT1 rfl _ _ _ hV (lv_sub hl [2, 1, 0] rfl)
    · have hV : AtW E (wC E σ ++ X) A s H locs := hV
      have hl : lv_has ls 3 [(0, .ref (eA E 112)), (1, .int z3)] := hl
      refine lv_iconst (v := 0) hx hb dX4_findRests_25 (by decide) ?_
      refine lv_istore_n (lv' := [(2, .int 0), (0, .ref (eA E 112)), (1, .int z3)]) hx hb dX4_findRests_26 rfl hl (by decide) rfl (fun ls hl => ?_)
      refine bd2_e h (fun z13 σ14 ho h => ?_)
      refine (lp_rule (G := (fun v : (Int32 × St) => ∀ (H : Heap) (locs : List Loc) (ls : Array Slot), AtW E (wC E v.2 ++ X) A s H locs → lv_has ls 3 [(0, .ref (eA E 112)), (1, .int z3), (2, .int v.1)] → W p l e rm_X4_findRests s m a below meth c H locs 0 0 QQ (F0 m 27 ls []))) (K := (fun v : (Int32 × St) => ∀ (H : Heap) (locs : List Loc) (ls : Array Slot), AtW E (wC E v.2 ++ X) A s H locs → lv_has ls 3 [] → W p l e rm_X4_findRests s m a below meth c H locs 0 0 QQ (F0 m 76 ls []))) (fun v b1 y1 h hT1 hF1 => ?_) ho (fun H locs ls hV hl => ?_)) _ _ _ hV (lv_sub hl [1, 2, 0] rfl)
      · obtain ⟨u5, σ6⟩ := v
        have h : x_X4_findRests_L27 z3 u5 σ6 = some (b1, y1) := h
        intro H locs ls hV hl
        have hV : AtW E (wC E σ6 ++ X) A s H locs := hV
        have hl : lv_has ls 3 [(0, .ref (eA E 112)), (1, .int z3), (2, .int u5)] := hl
        unfold x_X4_findRests_L27 at h
        refine lv_iload_n hx hb dX4_findRests_27 rfl (lv_at hl 2 rfl) ?_
        refine lv_iload_n hx hb dX4_findRests_28 rfl (lv_at hl 1 rfl) ?_
        refine lv_icmp_ge (tgt := 76) hx hb dX4_findRests_29 (by decide) (fun hc => ?_) (fun hc => ?_)
        · have h := ifp hc h
          cases h
          exact hF1 rfl _ _ _ hV (lv_sub hl [] rfl)
        · have h := ifn hc h
          refine lv_aload_n hx hb dX4_findRests_32 rfl (lv_at hl 0 rfl) ?_
          refine lv_iload_n hx hb dX4_findRests_33 rfl (lv_at hl 2 rfl) ?_
          refine bd_e h (fun σ7 hq h => ?_)
          refine k_X4_choose hq cx hV mk_6_53 ⟨Nat.le_of_ble_eq_true rfl, Nat.le_of_ble_eq_true rfl⟩ ⟨Nat.zero_le _, Nat.zero_le _⟩ hl.1 (Nat.le_of_ble_eq_true rfl) dX4_findRests_34 (fun H locs hV => ?_)
          refine lv_aload_n hx hb dX4_findRests_37 rfl (lv_at hl 0 rfl) ?_
          refine bd2_e h (fun v8 σ9 hq h => ?_)
          refine k_X4_isRest hq cx hV mk_6_58 ⟨Nat.le_of_ble_eq_true rfl, Nat.le_of_ble_eq_true rfl⟩ ⟨Nat.zero_le _, Nat.zero_le _⟩ hl.1 (Nat.le_of_ble_eq_true rfl) dX4_findRests_38 (fun H locs hV => ?_)
          refine lv_if_eq (tgt := 70) hx hb dX4_findRests_41 (by decide) (fun hc => ?_) (fun hc => ?_)
          · have h := ifp hc h
            refine lv_iinc (v := (u5 + 1)) (lv' := [(2, .int (u5 + 1)), (0, .ref (eA E 112)), (1, .int z3)]) hx hb dX4_findRests_70 hl (k := 2) rfl rfl (by decide) rfl (fun ls hl => ?_)
            refine lv_goto (tgt := 27) hx hb dX4_findRests_73 (by decide) ?_
            cases h
            exact hT1 rfl _ _ _ hV (lv_sub hl [1, 2, 0] rfl)
          · have h := ifn hc h
            refine lv_aload_n hx hb dX4_findRests_44 rfl (lv_at hl 0 rfl) ?_
            refine lv_dup hx hb dX4_findRests_45 rfl ?_
            refine G_X4_rests cx hV mk_2_85 dX4_findRests_46 ?_
            refine lv_iconst (v := 1) hx hb dX4_findRests_49 (by decide) ?_
            refine lv_iadd hx hb dX4_findRests_50 ?_
            refine bd_e h (fun σ10 hq h => ?_)
            refine P_X4_rests cx hV hq mk_2_85 dX4_findRests_51 (fun H locs hV => ?_)
            refine lv_aload_n hx hb dX4_findRests_54 rfl (lv_at hl 0 rfl) ?_
            refine G_X4_first cx hV mk_2_87 dX4_findRests_55 ?_
            refine lv_iconst (v := (-1)) hx hb dX4_findRests_58 (by decide) ?_
            refine lv_icmp_ne (tgt := 70) hx hb dX4_findRests_59 (by decide) (fun hc => ?_) (fun hc => ?_)
            · have h := ifn hc h
              refine lv_iinc (v := (u5 + 1)) (lv' := [(2, .int (u5 + 1)), (0, .ref (eA E 112)), (1, .int z3)]) hx hb dX4_findRests_70 hl (k := 2) rfl rfl (by decide) rfl (fun ls hl => ?_)
              refine lv_goto (tgt := 27) hx hb dX4_findRests_73 (by decide) ?_
              cases h
              exact hT1 rfl _ _ _ hV (lv_sub hl [1, 2, 0] rfl)
            · have h := ifp hc h
              refine lv_aload_n hx hb dX4_findRests_62 rfl (lv_at hl 0 rfl) ?_
              refine lv_aload_n hx hb dX4_findRests_63 rfl (lv_at hl 0 rfl) ?_
              refine bd_e h (fun v11 hq h => ?_)
              refine k_X4_digits hq cx hV mk_6_71 ⟨Nat.le_of_ble_eq_true rfl, Nat.le_of_ble_eq_true rfl⟩ ⟨Nat.zero_le _, Nat.zero_le _⟩ hl.1 (Nat.le_of_ble_eq_true rfl) dX4_findRests_64 (fun H locs hV => ?_)
              refine bd_e h (fun σ12 hq h => ?_)
              refine P_X4_first cx hV hq mk_2_87 dX4_findRests_67 (fun H locs hV => ?_)
              refine lv_iinc (v := (u5 + 1)) (lv' := [(2, .int (u5 + 1)), (0, .ref (eA E 112)), (1, .int z3)]) hx hb dX4_findRests_70 hl (k := 2) rfl rfl (by decide) rfl (fun ls hl => ?_)
              refine lv_goto (tgt := 27) hx hb dX4_findRests_73 (by decide) ?_
              cases h
              exact hT1 rfl _ _ _ hV (lv_sub hl [1, 2, 0] rfl)
      · have hV : AtW E (wC E σ14 ++ X) A s H locs := hV
        have hl : lv_has ls 3 [] := hl
        have h1 := Option.some.inj h
        subst h1
        subst hQ
        exact r_vret cx hr hlk hV dX4_findRests_76
  rw [hH, hlocs] at goal
  exact goal
theorem k_X4_findRests {p : Program} {l : Launch} {e : Env} {R : Room} {s : State} {m : MethodId} {a : Array Value} {below : List Frame} {meth : Method} {c : Code} {H : Heap} {locs : List Loc} {cells slots : Nat} {Q : State → Prop} {cc : ByteArray} {own : String} {nL pc : Nat} {ls : Array Slot} {rest : List Value} {A : Nat → Prop} {E : EV} {X : va_W} {σ : St} {σf : St} (h : x_X4_findRests σ = some σf) (cx : CallFix p m c cc nL s a TBL own) (hV : AtW E (wC E σ ++ X) A s H locs) {idx : Nat} (w1 : Cond.methodLink own idx yX4_findRests ∈ TBL) (hR : (rm_X4_findRests).frames + 1 ≤ R.frames ∧ 8 + (3 + 11) + (rm_X4_findRests).locals ≤ R.locals) (hcs : cells ≤ R.cells ∧ slots ≤ R.slots) (hls : ls.size = nL) (hcat : (rest.map fun v => v.category).sum ≤ 8) (d : decode cc pc = .ok (.invokevirtual idx, 3)) (kk : ∀ (H1 : Heap) (locs1 : List Loc), AtW E (wC E σf ++ X) A s H1 locs1 → W p l e R s m a below meth c H1 locs1 cells slots Q (F0 m (pc + 3) ls (rest))) : W p l e R s m a below meth c H locs cells slots Q (F0 m pc ls (.ref (eA E 112) :: rest)) :=
  r_callv (n := 0) (As := []) (q0 := 112) (ci := 4) (qq := (RX4, TX4, 7)) (c_X4_findRests h) wC_fst rfl rfl mk_6_50 mk_6_51 mk_1_10 mk_6_52 (by decide +kernel) rfl ⟨rfl, rfl⟩ cx hV w1 hR hcs hls rfl hcat d kk
def x_X6_list_L18 (u2 : Int32) (u3 : Int32) (σ4 : St) : Option (Bool × (Int32 × Int32 × St)) :=
  (if 24 ≤ u3 then
  some (false, (u2, u3, σ4))
  else
  bd (x_X2_at 47 u3 σ4) fun v5 =>
  (if v5 = u3 then
  some (true, (u2, (u3 + 1), σ4))
  else
  bd (x_X2_placeOf 47 u3 σ4) fun v6 =>
  bd (x_X2_swap 47 u3 v6 σ4) fun σ7 =>
  bd (x_X2_put 46 u2 ((100 * u3) + v6) σ7) fun σ8 =>
  some (true, ((u2 + 1), (u3 + 1), σ8))))
def x_X6_list (σ : St) : Option (Int32 × St) :=
  bd (x_X2_copy 47 17 σ) fun σ1 =>
  bd3 (lp (fun v : (Int32 × Int32 × St) => x_X6_list_L18 v.1 v.2.1 v.2.2) FU (0, 0, σ1)) fun z9 z10 σ11 =>
  some (z9, σ11)
abbrev rm_X6_list : Room := { frames := 2, cells := 0, slots := 0, locals := 45 }
set_option maxHeartbeats 4000000 in
set_option maxRecDepth 100000 in
theorem c_X6_list {l : Launch} {E : EV} {X : va_W} {σ : St} {rv : Int32} {σf : St} (h : x_X6_list σ = some (rv, σf)) : CM l yX6_list cX6_list 4 (some .int) rm_X6_list [.ref (eA E 107)] E (wC E σ ++ X) (wC E σf ++ X) (qI rv) := by
  refine CM.start (by decide) (Nat.le_of_ble_eq_true rfl) (fun p e s m a below meth c A ls cx hr hlk hV hl => ?_)
  have cx : CallFix p m c cX6_list 4 s a TBL RX6 := cx
  have hx := cx.1
  have hb := cx.2.1
  have hl : lv_has ls 4 [(0, .ref (eA E 107))] := hl
  generalize hQ : EQ E (wC E σf ++ X) (qI rv) A s a below = QQ
  obtain ⟨H, hH⟩ : ∃ H, H = s.heap := ⟨_, rfl⟩
  obtain ⟨locs, hlocs⟩ : ∃ z, z = ([] : List Loc) := ⟨_, rfl⟩
  have hV : AtW E (wC E σ ++ X) A s H locs := by rw [hH, hlocs]; exact hV
  have goal : W p l e rm_X6_list s m a below meth c H locs 0 0 QQ (F0 m 0 ls []) := by
    unfold x_X6_list at h
    refine lv_aload_n hx hb dX6_list_0 rfl (lv_at hl 0 rfl) ?_
    refine G_X6_discs cx hV mk_2_69 dX6_list_1 ?_
    refine lv_aload_n hx hb dX6_list_4 rfl (lv_at hl 0 rfl) ?_
    refine G_X6_stock cx hV mk_2_68 dX6_list_5 ?_
    refine G_X5_discs cx hV (by decide) mk_1_128 dX6_list_8 ?_
    refine bd_e h (fun σ1 hq h => ?_)
    refine k_X2_copy (by decide) (by decide) hq cx hV mk_3_129 ⟨Nat.le_of_ble_eq_true rfl, Nat.le_of_ble_eq_true rfl⟩ ⟨Nat.zero_le _, Nat.zero_le _⟩ hl.1 (Nat.le_of_ble_eq_true rfl) dX6_list_11 (fun H locs hV => ?_)
    refine lv_iconst (v := 0) hx hb dX6_list_14 (by decide) ?_
    refine lv_istore_n (lv' := [(1, .int 0), (0, .ref (eA E 107))]) hx hb dX6_list_15 rfl hl (by decide) rfl (fun ls hl => ?_)
    refine lv_iconst (v := 0) hx hb dX6_list_16 (by decide) ?_
    refine lv_istore_n (lv' := [(2, .int 0), (1, .int 0), (0, .ref (eA E 107))]) hx hb dX6_list_17 rfl hl (by decide) rfl (fun ls hl => ?_)
    refine bd3_e h (fun z9 z10 σ11 ho h => ?_)
    refine (lp_rule (G := (fun v : (Int32 × Int32 × St) => ∀ (H : Heap) (locs : List Loc) (ls : Array Slot), AtW E (wC E v.2.2 ++ X) A s H locs → lv_has ls 4 [(0, .ref (eA E 107)), (1, .int v.1), (2, .int v.2.1)] → W p l e rm_X6_list s m a below meth c H locs 0 0 QQ (F0 m 18 ls []))) (K := (fun v : (Int32 × Int32 × St) => ∀ (H : Heap) (locs : List Loc) (ls : Array Slot), AtW E (wC E v.2.2 ++ X) A s H locs → lv_has ls 4 [(1, .int v.1)] → W p l e rm_X6_list s m a below meth c H locs 0 0 QQ (F0 m 77 ls []))) (fun v b1 y1 h hT1 hF1 => ?_) ho (fun H locs ls hV hl => ?_)) _ _ _ hV (lv_sub hl [2, 1, 0] rfl)
    · obtain ⟨u2, u3, σ4⟩ := v
      have h : x_X6_list_L18 u2 u3 σ4 = some (b1, y1) := h
      intro H locs ls hV hl
      have hV : AtW E (wC E σ4 ++ X) A s H locs := hV
      have hl : lv_has ls 4 [(0, .ref (eA E 107)), (1, .int u2), (2, .int u3)] := hl
      unfold x_X6_list_L18 at h
      refine lv_iload_n hx hb dX6_list_18 rfl (lv_at hl 2 rfl) ?_
      refine lv_bipush (v := 24) hx hb dX6_list_19 (by decide) ?_
      refine lv_icmp_ge (tgt := 77) hx hb dX6_list_21 (by decide) (fun hc => ?_) (fun hc => ?_)
      · have h := ifp hc h
        cases h
        exact hF1 rfl _ _ _ hV (lv_sub hl [1] rfl)
      · have h := ifn hc h
        refine lv_aload_n hx hb dX6_list_24 rfl (lv_at hl 0 rfl) ?_
        refine G_X6_discs cx hV mk_2_69 dX6_list_25 ?_
        refine lv_iload_n hx hb dX6_list_28 rfl (lv_at hl 2 rfl) ?_
        refine bd_e h (fun v5 hq h => ?_)
        refine k_X2_at (by decide) hq cx hV mk_3_130 ⟨Nat.le_of_ble_eq_true rfl, Nat.le_of_ble_eq_true rfl⟩ ⟨Nat.zero_le _, Nat.zero_le _⟩ hl.1 (Nat.le_of_ble_eq_true rfl) dX6_list_29 (fun H locs hV => ?_)
        refine lv_iload_n hx hb dX6_list_32 rfl (lv_at hl 2 rfl) ?_
        refine lv_icmp_eq (tgt := 71) hx hb dX6_list_33 (by decide) (fun hc => ?_) (fun hc => ?_)
        · have h := ifp hc h
          refine lv_iinc (v := (u3 + 1)) (lv' := [(2, .int (u3 + 1)), (0, .ref (eA E 107)), (1, .int u2)]) hx hb dX6_list_71 hl (k := 2) rfl rfl (by decide) rfl (fun ls hl => ?_)
          refine lv_goto (tgt := 18) hx hb dX6_list_74 (by decide) ?_
          cases h
          exact hT1 rfl _ _ _ hV (lv_sub hl [1, 2, 0] rfl)
        · have h := ifn hc h
          refine lv_aload_n hx hb dX6_list_36 rfl (lv_at hl 0 rfl) ?_
          refine G_X6_discs cx hV mk_2_69 dX6_list_37 ?_
          refine lv_iload_n hx hb dX6_list_40 rfl (lv_at hl 2 rfl) ?_
          refine bd_e h (fun v6 hq h => ?_)
          refine k_X2_placeOf (by decide) hq cx hV mk_3_131 ⟨Nat.le_of_ble_eq_true rfl, Nat.le_of_ble_eq_true rfl⟩ ⟨Nat.zero_le _, Nat.zero_le _⟩ hl.1 (Nat.le_of_ble_eq_true rfl) dX6_list_41 (fun H locs hV => ?_)
          refine lv_istore_n (lv' := [(3, .int v6), (0, .ref (eA E 107)), (1, .int u2), (2, .int u3)]) hx hb dX6_list_44 rfl hl (by decide) rfl (fun ls hl => ?_)
          refine lv_aload_n hx hb dX6_list_45 rfl (lv_at hl 1 rfl) ?_
          refine G_X6_discs cx hV mk_2_69 dX6_list_46 ?_
          refine lv_iload_n hx hb dX6_list_49 rfl (lv_at hl 3 rfl) ?_
          refine lv_iload_n hx hb dX6_list_50 rfl (lv_at hl 0 rfl) ?_
          refine bd_e h (fun σ7 hq h => ?_)
          refine k_X2_swap (by decide) hq cx hV mk_3_132 ⟨Nat.le_of_ble_eq_true rfl, Nat.le_of_ble_eq_true rfl⟩ ⟨Nat.zero_le _, Nat.zero_le _⟩ hl.1 (Nat.le_of_ble_eq_true rfl) dX6_list_51 (fun H locs hV => ?_)
          refine lv_aload_n hx hb dX6_list_54 rfl (lv_at hl 1 rfl) ?_
          refine G_X6_listed cx hV mk_2_66 dX6_list_55 ?_
          refine lv_iload_n hx hb dX6_list_58 rfl (lv_at hl 2 rfl) ?_
          refine lv_bipush (v := 100) hx hb dX6_list_59 (by decide) ?_
          refine lv_iload_n hx hb dX6_list_61 rfl (lv_at hl 3 rfl) ?_
          refine lv_imul hx hb dX6_list_62 ?_
          refine lv_iload_n hx hb dX6_list_63 rfl (lv_at hl 0 rfl) ?_
          refine lv_iadd hx hb dX6_list_64 ?_
          refine bd_e h (fun σ8 hq h => ?_)
          refine k_X2_put (by decide) hq cx hV mk_3_136 ⟨Nat.le_of_ble_eq_true rfl, Nat.le_of_ble_eq_true rfl⟩ ⟨Nat.zero_le _, Nat.zero_le _⟩ hl.1 (Nat.le_of_ble_eq_true rfl) dX6_list_65 (fun H locs hV => ?_)
          refine lv_iinc (v := (u2 + 1)) (lv' := [(1, .int (u2 + 1)), (3, .int v6), (0, .ref (eA E 107)), (2, .int u3)]) hx hb dX6_list_68 hl (k := 2) rfl rfl (by decide) rfl (fun ls hl => ?_)
          refine lv_iinc (v := (u3 + 1)) (lv' := [(2, .int (u3 + 1)), (1, .int (u2 + 1)), (3, .int v6), (0, .ref (eA E 107))]) hx hb dX6_list_71 hl (k := 3) rfl rfl (by decide) rfl (fun ls hl => ?_)
          refine lv_goto (tgt := 18) hx hb dX6_list_74 (by decide) ?_
          cases h
          exact hT1 rfl _ _ _ hV (lv_sub hl [3, 1, 0] rfl)
    · have hV : AtW E (wC E σ11 ++ X) A s H locs := hV
      have hl : lv_has ls 4 [(1, .int z9)] := hl
      refine lv_iload_n hx hb dX6_list_77 rfl (lv_at hl 0 rfl) ?_
      obtain ⟨h1, h2⟩ := Prod.mk.inj (Option.some.inj h)
      subst h1
      subst h2
      subst hQ
      exact r_ireti cx hr hlk hV dX6_list_78
  rw [hH, hlocs] at goal
  exact goal
theorem k_X6_list {p : Program} {l : Launch} {e : Env} {R : Room} {s : State} {m : MethodId} {a : Array Value} {below : List Frame} {meth : Method} {c : Code} {H : Heap} {locs : List Loc} {cells slots : Nat} {Q : State → Prop} {cc : ByteArray} {own : String} {nL pc : Nat} {ls : Array Slot} {rest : List Value} {A : Nat → Prop} {E : EV} {X : va_W} {σ : St} {rv : Int32} {σf : St} (h : x_X6_list σ = some (rv, σf)) (cx : CallFix p m c cc nL s a TBL own) (hV : AtW E (wC E σ ++ X) A s H locs) {idx : Nat} (w1 : Cond.methodLink own idx yX6_list ∈ TBL) (hR : (rm_X6_list).frames + 1 ≤ R.frames ∧ 8 + (4 + 11) + (rm_X6_list).locals ≤ R.locals) (hcs : cells ≤ R.cells ∧ slots ≤ R.slots) (hls : ls.size = nL) (hcat : (rest.map fun v => v.category).sum ≤ 8) (d : decode cc pc = .ok (.invokevirtual idx, 3)) (kk : ∀ (H1 : Heap) (locs1 : List Loc), AtW E (wC E σf ++ X) A s H1 locs1 → W p l e R s m a below meth c H1 locs1 cells slots Q (F0 m (pc + 3) ls (.int rv :: rest))) : W p l e R s m a below meth c H locs cells slots Q (F0 m pc ls (.ref (eA E 107) :: rest)) :=
  r_calli (n := 0) (As := []) (q0 := 107) (ci := 6) (qq := (RX6, TX6, 3)) (c_X6_list h) wC_fst rfl rfl mk_3_126 mk_3_127 mk_1_9 mk_3_128 (by decide +kernel) rfl ⟨rfl, rfl⟩ cx hV w1 hR hcs hls rfl hcat d kk
