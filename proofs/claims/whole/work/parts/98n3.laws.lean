set_option maxHeartbeats 4000000 in
set_option maxRecDepth 100000 in
theorem lc_order {p : Program} {l : Launch} {e : Env} {s : State} {m : MethodId} {below : List Frame} {meth : Method} {c : Code} {b L : Nat} {xs : Nat → Int32} {E : EV} {ad : Nat → Nat} {σ τ : St} {o : Nat} {f : Nat → Int64} {H : Heap} {locs : List Loc} {ls : Array Slot} {x4 : Int32} {cells slots : Nat} {Q : State → Prop} (D : LwD p l s m c b L xs E ad) (hi1 : vp_in (x4 + 1) L) (hi2 : vp_in (x4 + 2) L) (hi3 : vp_in (x4 + 3) L) (hi4 : vp_in (x4 + 4) L) (hi5 : vp_in (x4 + 5) L) (hcs : cells + 1 ≤ room_1.cells ∧ slots + 6 ≤ room_1.slots) (hV : AtW E (lwW E ad σ τ o f) (lwA s) s H locs) (hI : Inv σ τ) (hl : lv_has ls 8 [(0, .ref b), (1, .ref (eA E 0)), (2, .ref (eA (eW E ad) 0)), (3, .ref o), (4, .int x4)]) (kk : LwK p l e s m below meth c b E ad o x4 cells slots Q) : W p l e room_1 s m #[Value.ref b] below meth c H locs cells slots Q (F0 m 1314 ls []) := by
  obtain ⟨cx, hX, hbl, hF, hF2, hN, hT⟩ := D
  have hx := cx.1
  have hb := cx.2.1
  have hbA : ¬ lwA s b := Nat.not_le.mpr hbl
  have hc0 : cells ≤ room_1.cells ∧ slots ≤ room_1.slots := ⟨Nat.le_trans (Nat.le_add_right _ 1) hcs.1, Nat.le_trans (Nat.le_add_right _ 6) hcs.2⟩
  rcases op_order hI (xs (x4 + 1).toNatClampNeg) (xs (x4 + 2).toNatClampNeg) (xs (x4 + 3).toNatClampNeg) (xs (x4 + 4).toNatClampNeg) with ⟨r, σ2, τ2, hx1, hy1, h0, hI2⟩ | ⟨c9, σ2, r, τ2, hx1, hy1, hc, hI2⟩
  · refine lv_aload_n hx hb dL_law_1314 rfl (lv_at hl 1 rfl) ?_
    refine lv_aload_n hx hb dL_law_1315 rfl (lv_at hl 0 rfl) ?_
    refine lv_iload hx hb dL_law_1316 (lv_at hl 4 rfl) ?_
    refine lv_iconst (v := 1) hx hb dL_law_1318 (by decide) ?_
    refine lv_iadd hx hb dL_law_1319 ?_
    refine va_sld hx hb hX hbl hbA hV.2.2.2.2.1 hi1 dL_law_1320 ?_
    refine lv_aload_n hx hb dL_law_1321 rfl (lv_at hl 0 rfl) ?_
    refine lv_iload hx hb dL_law_1322 (lv_at hl 4 rfl) ?_
    refine lv_iconst (v := 2) hx hb dL_law_1324 (by decide) ?_
    refine lv_iadd hx hb dL_law_1325 ?_
    refine va_sld hx hb hX hbl hbA hV.2.2.2.2.1 hi2 dL_law_1326 ?_
    refine lv_aload_n hx hb dL_law_1327 rfl (lv_at hl 0 rfl) ?_
    refine lv_iload hx hb dL_law_1328 (lv_at hl 4 rfl) ?_
    refine lv_iconst (v := 3) hx hb dL_law_1330 (by decide) ?_
    refine lv_iadd hx hb dL_law_1331 ?_
    refine va_sld hx hb hX hbl hbA hV.2.2.2.2.1 hi3 dL_law_1332 ?_
    refine lv_aload_n hx hb dL_law_1333 rfl (lv_at hl 0 rfl) ?_
    refine lv_iload hx hb dL_law_1334 (lv_at hl 4 rfl) ?_
    refine lv_iconst (v := 4) hx hb dL_law_1336 (by decide) ?_
    refine lv_iadd hx hb dL_law_1337 ?_
    refine va_sld hx hb hX hbl hbA hV.2.2.2.2.1 hi4 dL_law_1338 ?_
    refine lv_aload_n hx hb dL_law_1339 rfl (lv_at hl 3 rfl) ?_
    refine r_stW (n := 6) (As := [.ref (eA E 0), .int (xs (x4 + 1).toNatClampNeg), .int (xs (x4 + 2).toNatClampNeg), .int (xs (x4 + 3).toNatClampNeg), .int (xs (x4 + 4).toNatClampNeg), .ref o]) (w_L_order hx1) lw_fst mk_5_180 mk_1_0 mk_5_181 (by decide +kernel) rfl ⟨rfl, rfl⟩ cx hV hF hN mk_5_179 ⟨Nat.le_of_ble_eq_true rfl, Nat.le_of_ble_eq_true rfl⟩ hc0 hl.1 rfl (Nat.le_of_ble_eq_true rfl) dL_law_1340 (fun H locs hV => ?_)
    refine lv_istore (lv' := [(5, .int 0), (0, .ref b), (1, .ref (eA E 0)), (2, .ref (eA (eW E ad) 0)), (3, .ref o), (4, .int x4)]) hx hb dL_law_1343 hl (by decide) rfl (fun ls hl => ?_)
    refine lv_aload_n hx hb dL_law_1345 rfl (lv_at hl 3 rfl) ?_
    refine lv_aload_n hx hb dL_law_1346 rfl (lv_at hl 1 rfl) ?_
    refine lv_iload hx hb dL_law_1347 (lv_at hl 5 rfl) ?_
    refine lv_iconst (v := 1) hx hb dL_law_1349 (by decide) ?_
    refine lv_iadd hx hb dL_law_1350 ?_
    refine va_sld hx hb hX hbl hbA hV.2.2.2.2.1 hi1 dL_law_1351 ?_
    refine lv_aload_n hx hb dL_law_1352 rfl (lv_at hl 1 rfl) ?_
    refine lv_iload hx hb dL_law_1353 (lv_at hl 5 rfl) ?_
    refine lv_iconst (v := 2) hx hb dL_law_1355 (by decide) ?_
    refine lv_iadd hx hb dL_law_1356 ?_
    refine va_sld hx hb hX hbl hbA hV.2.2.2.2.1 hi2 dL_law_1357 ?_
    refine lv_aload_n hx hb dL_law_1358 rfl (lv_at hl 1 rfl) ?_
    refine lv_iload hx hb dL_law_1359 (lv_at hl 5 rfl) ?_
    refine lv_iconst (v := 3) hx hb dL_law_1361 (by decide) ?_
    refine lv_iadd hx hb dL_law_1362 ?_
    refine va_sld hx hb hX hbl hbA hV.2.2.2.2.1 hi3 dL_law_1363 ?_
    refine lv_aload_n hx hb dL_law_1364 rfl (lv_at hl 1 rfl) ?_
    refine lv_iload hx hb dL_law_1365 (lv_at hl 5 rfl) ?_
    refine lv_iconst (v := 4) hx hb dL_law_1367 (by decide) ?_
    refine lv_iadd hx hb dL_law_1368 ?_
    refine va_sld hx hb hX hbl hbA hV.2.2.2.2.1 hi4 dL_law_1369 ?_
    refine k_X10_order hy1 cx (lw_toM hV) mk_8_68 ⟨Nat.le_of_ble_eq_true rfl, Nat.le_of_ble_eq_true rfl⟩ hc0 hl.1 (Nat.le_of_ble_eq_true rfl) dL_law_1370 (fun H locs hV => ?_)
    have hV := lw_ofM hV
    refine lv_istore (lv' := [(6, .int r), (5, .int 0), (0, .ref b), (1, .ref (eA E 0)), (2, .ref (eA (eW E ad) 0)), (3, .ref o), (4, .int x4)]) hx hb dL_law_1373 hl (by decide) rfl (fun ls hl => ?_)
    refine lv_aload_n hx hb dL_law_1375 rfl (lv_at hl 4 rfl) ?_
    refine k_X10_thrown (rv := 0) (show x_X10_thrown _ = some 0 from congrArg some h0) cx (lw_toM hV) mk_6_75 ⟨Nat.le_of_ble_eq_true rfl, Nat.le_of_ble_eq_true rfl⟩ hc0 hl.1 (Nat.le_of_ble_eq_true rfl) dL_law_1376 (fun H locs hV => ?_)
    have hV := lw_ofM hV
    refine lv_iload hx hb dL_law_1379 (lv_at hl 1 rfl) ?_
    refine lv_icmp_eq (tgt := 1386) hx hb dL_law_1381 (by decide) (fun _ => ?_) (fun q => absurd rfl q)
    refine lv_iload hx hb dL_law_1386 (lv_at hl 1 rfl) ?_
    refine lv_if_ne (tgt := 1403) hx hb dL_law_1388 (by decide) (fun q => absurd rfl q) (fun _ => ?_)
    refine lv_aload_n hx hb dL_law_1391 rfl (lv_at hl 5 rfl) ?_
    refine lv_iconst (v := 0) hx hb dL_law_1392 (by decide) ?_
    refine r_lald cx hV 115 rfl (n := 1) (by unfold vp_in; decide) dL_law_1393 ?_
    rw [lw_upd0]
    refine lv_iload hx hb dL_law_1394 (lv_at hl 0 rfl) ?_
    refine lv_i2l (v := Int32.toInt64 r) hx hb dL_law_1396 rfl ?_
    refine W.lcmp hx hb dL_law_1397 ?_
    rw [lw_cmp0]
    refine lv_if_eq (tgt := 1403) hx hb dL_law_1398 (by decide) (fun _ => ?_) (fun q => absurd rfl q)
    refine lv_goto (tgt := 2051) hx hb dL_law_1403 (by decide) ?_
    refine W.widen (k := cells + 1) (n := slots + 6) (by omega) (by omega) ?_
    exact kk _ _ _ _ _ _ hV hI2 (lv_sub hl [2, 3, 4, 5, 6] rfl)
  · simp only [List.mem_cons, Prod.mk.injEq, List.not_mem_nil, or_false] at hc
    rcases hc with ⟨rfl, h0⟩ | ⟨rfl, h0⟩ | ⟨rfl, h0⟩
    · refine lv_aload_n hx hb dL_law_1314 rfl (lv_at hl 1 rfl) ?_
      refine lv_aload_n hx hb dL_law_1315 rfl (lv_at hl 0 rfl) ?_
      refine lv_iload hx hb dL_law_1316 (lv_at hl 4 rfl) ?_
      refine lv_iconst (v := 1) hx hb dL_law_1318 (by decide) ?_
      refine lv_iadd hx hb dL_law_1319 ?_
      refine va_sld hx hb hX hbl hbA hV.2.2.2.2.1 hi1 dL_law_1320 ?_
      refine lv_aload_n hx hb dL_law_1321 rfl (lv_at hl 0 rfl) ?_
      refine lv_iload hx hb dL_law_1322 (lv_at hl 4 rfl) ?_
      refine lv_iconst (v := 2) hx hb dL_law_1324 (by decide) ?_
      refine lv_iadd hx hb dL_law_1325 ?_
      refine va_sld hx hb hX hbl hbA hV.2.2.2.2.1 hi2 dL_law_1326 ?_
      refine lv_aload_n hx hb dL_law_1327 rfl (lv_at hl 0 rfl) ?_
      refine lv_iload hx hb dL_law_1328 (lv_at hl 4 rfl) ?_
      refine lv_iconst (v := 3) hx hb dL_law_1330 (by decide) ?_
      refine lv_iadd hx hb dL_law_1331 ?_
      refine va_sld hx hb hX hbl hbA hV.2.2.2.2.1 hi3 dL_law_1332 ?_
      refine lv_aload_n hx hb dL_law_1333 rfl (lv_at hl 0 rfl) ?_
      refine lv_iload hx hb dL_law_1334 (lv_at hl 4 rfl) ?_
      refine lv_iconst (v := 4) hx hb dL_law_1336 (by decide) ?_
      refine lv_iadd hx hb dL_law_1337 ?_
      refine va_sld hx hb hX hbl hbA hV.2.2.2.2.1 hi4 dL_law_1338 ?_
      refine lv_aload_n hx hb dL_law_1339 rfl (lv_at hl 3 rfl) ?_
      refine r_stW (n := 6) (As := [.ref (eA E 0), .int (xs (x4 + 1).toNatClampNeg), .int (xs (x4 + 2).toNatClampNeg), .int (xs (x4 + 3).toNatClampNeg), .int (xs (x4 + 4).toNatClampNeg), .ref o]) (wt_L_order_2 hT hx1) lw_fst mk_5_180 mk_1_0 mk_5_181 (by decide +kernel) rfl ⟨rfl, rfl⟩ cx hV hF hN mk_5_179 ⟨Nat.le_of_ble_eq_true rfl, Nat.le_of_ble_eq_true rfl⟩ hcs hl.1 rfl (Nat.le_of_ble_eq_true rfl) dL_law_1340 (fun H locs hV => ?_)
      refine lv_istore (lv' := [(5, .int 1), (0, .ref b), (1, .ref (eA E 0)), (2, .ref (eA (eW E ad) 0)), (3, .ref o), (4, .int x4)]) hx hb dL_law_1343 hl (by decide) rfl (fun ls hl => ?_)
      refine lv_aload_n hx hb dL_law_1345 rfl (lv_at hl 3 rfl) ?_
      refine lv_aload_n hx hb dL_law_1346 rfl (lv_at hl 1 rfl) ?_
      refine lv_iload hx hb dL_law_1347 (lv_at hl 5 rfl) ?_
      refine lv_iconst (v := 1) hx hb dL_law_1349 (by decide) ?_
      refine lv_iadd hx hb dL_law_1350 ?_
      refine va_sld hx hb hX hbl hbA hV.2.2.2.2.1 hi1 dL_law_1351 ?_
      refine lv_aload_n hx hb dL_law_1352 rfl (lv_at hl 1 rfl) ?_
      refine lv_iload hx hb dL_law_1353 (lv_at hl 5 rfl) ?_
      refine lv_iconst (v := 2) hx hb dL_law_1355 (by decide) ?_
      refine lv_iadd hx hb dL_law_1356 ?_
      refine va_sld hx hb hX hbl hbA hV.2.2.2.2.1 hi2 dL_law_1357 ?_
      refine lv_aload_n hx hb dL_law_1358 rfl (lv_at hl 1 rfl) ?_
      refine lv_iload hx hb dL_law_1359 (lv_at hl 5 rfl) ?_
      refine lv_iconst (v := 3) hx hb dL_law_1361 (by decide) ?_
      refine lv_iadd hx hb dL_law_1362 ?_
      refine va_sld hx hb hX hbl hbA hV.2.2.2.2.1 hi3 dL_law_1363 ?_
      refine lv_aload_n hx hb dL_law_1364 rfl (lv_at hl 1 rfl) ?_
      refine lv_iload hx hb dL_law_1365 (lv_at hl 5 rfl) ?_
      refine lv_iconst (v := 4) hx hb dL_law_1367 (by decide) ?_
      refine lv_iadd hx hb dL_law_1368 ?_
      refine va_sld hx hb hX hbl hbA hV.2.2.2.2.1 hi4 dL_law_1369 ?_
      refine k_X10_order hy1 cx (lw_toM hV) mk_8_68 ⟨Nat.le_of_ble_eq_true rfl, Nat.le_of_ble_eq_true rfl⟩ hcs hl.1 (Nat.le_of_ble_eq_true rfl) dL_law_1370 (fun H locs hV => ?_)
      have hV := lw_ofM hV
      refine lv_istore (lv' := [(6, .int r), (5, .int 1), (0, .ref b), (1, .ref (eA E 0)), (2, .ref (eA (eW E ad) 0)), (3, .ref o), (4, .int x4)]) hx hb dL_law_1373 hl (by decide) rfl (fun ls hl => ?_)
      refine lv_aload_n hx hb dL_law_1375 rfl (lv_at hl 4 rfl) ?_
      refine k_X10_thrown (rv := 1) (show x_X10_thrown _ = some 1 from congrArg some h0) cx (lw_toM hV) mk_6_75 ⟨Nat.le_of_ble_eq_true rfl, Nat.le_of_ble_eq_true rfl⟩ hcs hl.1 (Nat.le_of_ble_eq_true rfl) dL_law_1376 (fun H locs hV => ?_)
      have hV := lw_ofM hV
      refine lv_iload hx hb dL_law_1379 (lv_at hl 1 rfl) ?_
      refine lv_icmp_eq (tgt := 1386) hx hb dL_law_1381 (by decide) (fun _ => ?_) (fun q => absurd rfl q)
      refine lv_iload hx hb dL_law_1386 (lv_at hl 1 rfl) ?_
      refine lv_if_ne (tgt := 1403) hx hb dL_law_1388 (by decide) (fun _ => ?_) (fun q => absurd q (by decide))
      refine lv_goto (tgt := 2051) hx hb dL_law_1403 (by decide) ?_
      refine W.widen (k := cells + 1) (n := slots + 6) (by omega) (by omega) ?_
      exact kk _ _ _ _ _ _ hV hI2 (lv_sub hl [2, 3, 4, 5, 6] rfl)
    · refine lv_aload_n hx hb dL_law_1314 rfl (lv_at hl 1 rfl) ?_
      refine lv_aload_n hx hb dL_law_1315 rfl (lv_at hl 0 rfl) ?_
      refine lv_iload hx hb dL_law_1316 (lv_at hl 4 rfl) ?_
      refine lv_iconst (v := 1) hx hb dL_law_1318 (by decide) ?_
      refine lv_iadd hx hb dL_law_1319 ?_
      refine va_sld hx hb hX hbl hbA hV.2.2.2.2.1 hi1 dL_law_1320 ?_
      refine lv_aload_n hx hb dL_law_1321 rfl (lv_at hl 0 rfl) ?_
      refine lv_iload hx hb dL_law_1322 (lv_at hl 4 rfl) ?_
      refine lv_iconst (v := 2) hx hb dL_law_1324 (by decide) ?_
      refine lv_iadd hx hb dL_law_1325 ?_
      refine va_sld hx hb hX hbl hbA hV.2.2.2.2.1 hi2 dL_law_1326 ?_
      refine lv_aload_n hx hb dL_law_1327 rfl (lv_at hl 0 rfl) ?_
      refine lv_iload hx hb dL_law_1328 (lv_at hl 4 rfl) ?_
      refine lv_iconst (v := 3) hx hb dL_law_1330 (by decide) ?_
      refine lv_iadd hx hb dL_law_1331 ?_
      refine va_sld hx hb hX hbl hbA hV.2.2.2.2.1 hi3 dL_law_1332 ?_
      refine lv_aload_n hx hb dL_law_1333 rfl (lv_at hl 0 rfl) ?_
      refine lv_iload hx hb dL_law_1334 (lv_at hl 4 rfl) ?_
      refine lv_iconst (v := 4) hx hb dL_law_1336 (by decide) ?_
      refine lv_iadd hx hb dL_law_1337 ?_
      refine va_sld hx hb hX hbl hbA hV.2.2.2.2.1 hi4 dL_law_1338 ?_
      refine lv_aload_n hx hb dL_law_1339 rfl (lv_at hl 3 rfl) ?_
      refine r_stW (n := 6) (As := [.ref (eA E 0), .int (xs (x4 + 1).toNatClampNeg), .int (xs (x4 + 2).toNatClampNeg), .int (xs (x4 + 3).toNatClampNeg), .int (xs (x4 + 4).toNatClampNeg), .ref o]) (wt_L_order_3 hT hx1) lw_fst mk_5_180 mk_1_0 mk_5_181 (by decide +kernel) rfl ⟨rfl, rfl⟩ cx hV hF hN mk_5_179 ⟨Nat.le_of_ble_eq_true rfl, Nat.le_of_ble_eq_true rfl⟩ hcs hl.1 rfl (Nat.le_of_ble_eq_true rfl) dL_law_1340 (fun H locs hV => ?_)
      refine lv_istore (lv' := [(5, .int 2), (0, .ref b), (1, .ref (eA E 0)), (2, .ref (eA (eW E ad) 0)), (3, .ref o), (4, .int x4)]) hx hb dL_law_1343 hl (by decide) rfl (fun ls hl => ?_)
      refine lv_aload_n hx hb dL_law_1345 rfl (lv_at hl 3 rfl) ?_
      refine lv_aload_n hx hb dL_law_1346 rfl (lv_at hl 1 rfl) ?_
      refine lv_iload hx hb dL_law_1347 (lv_at hl 5 rfl) ?_
      refine lv_iconst (v := 1) hx hb dL_law_1349 (by decide) ?_
      refine lv_iadd hx hb dL_law_1350 ?_
      refine va_sld hx hb hX hbl hbA hV.2.2.2.2.1 hi1 dL_law_1351 ?_
      refine lv_aload_n hx hb dL_law_1352 rfl (lv_at hl 1 rfl) ?_
      refine lv_iload hx hb dL_law_1353 (lv_at hl 5 rfl) ?_
      refine lv_iconst (v := 2) hx hb dL_law_1355 (by decide) ?_
      refine lv_iadd hx hb dL_law_1356 ?_
      refine va_sld hx hb hX hbl hbA hV.2.2.2.2.1 hi2 dL_law_1357 ?_
      refine lv_aload_n hx hb dL_law_1358 rfl (lv_at hl 1 rfl) ?_
      refine lv_iload hx hb dL_law_1359 (lv_at hl 5 rfl) ?_
      refine lv_iconst (v := 3) hx hb dL_law_1361 (by decide) ?_
      refine lv_iadd hx hb dL_law_1362 ?_
      refine va_sld hx hb hX hbl hbA hV.2.2.2.2.1 hi3 dL_law_1363 ?_
      refine lv_aload_n hx hb dL_law_1364 rfl (lv_at hl 1 rfl) ?_
      refine lv_iload hx hb dL_law_1365 (lv_at hl 5 rfl) ?_
      refine lv_iconst (v := 4) hx hb dL_law_1367 (by decide) ?_
      refine lv_iadd hx hb dL_law_1368 ?_
      refine va_sld hx hb hX hbl hbA hV.2.2.2.2.1 hi4 dL_law_1369 ?_
      refine k_X10_order hy1 cx (lw_toM hV) mk_8_68 ⟨Nat.le_of_ble_eq_true rfl, Nat.le_of_ble_eq_true rfl⟩ hcs hl.1 (Nat.le_of_ble_eq_true rfl) dL_law_1370 (fun H locs hV => ?_)
      have hV := lw_ofM hV
      refine lv_istore (lv' := [(6, .int r), (5, .int 2), (0, .ref b), (1, .ref (eA E 0)), (2, .ref (eA (eW E ad) 0)), (3, .ref o), (4, .int x4)]) hx hb dL_law_1373 hl (by decide) rfl (fun ls hl => ?_)
      refine lv_aload_n hx hb dL_law_1375 rfl (lv_at hl 4 rfl) ?_
      refine k_X10_thrown (rv := 2) (show x_X10_thrown _ = some 2 from congrArg some h0) cx (lw_toM hV) mk_6_75 ⟨Nat.le_of_ble_eq_true rfl, Nat.le_of_ble_eq_true rfl⟩ hcs hl.1 (Nat.le_of_ble_eq_true rfl) dL_law_1376 (fun H locs hV => ?_)
      have hV := lw_ofM hV
      refine lv_iload hx hb dL_law_1379 (lv_at hl 1 rfl) ?_
      refine lv_icmp_eq (tgt := 1386) hx hb dL_law_1381 (by decide) (fun _ => ?_) (fun q => absurd rfl q)
      refine lv_iload hx hb dL_law_1386 (lv_at hl 1 rfl) ?_
      refine lv_if_ne (tgt := 1403) hx hb dL_law_1388 (by decide) (fun _ => ?_) (fun q => absurd q (by decide))
      refine lv_goto (tgt := 2051) hx hb dL_law_1403 (by decide) ?_
      refine W.widen (k := cells + 1) (n := slots + 6) (by omega) (by omega) ?_
      exact kk _ _ _ _ _ _ hV hI2 (lv_sub hl [2, 3, 4, 5, 6] rfl)
    · refine lv_aload_n hx hb dL_law_1314 rfl (lv_at hl 1 rfl) ?_
      refine lv_aload_n hx hb dL_law_1315 rfl (lv_at hl 0 rfl) ?_
      refine lv_iload hx hb dL_law_1316 (lv_at hl 4 rfl) ?_
      refine lv_iconst (v := 1) hx hb dL_law_1318 (by decide) ?_
      refine lv_iadd hx hb dL_law_1319 ?_
      refine va_sld hx hb hX hbl hbA hV.2.2.2.2.1 hi1 dL_law_1320 ?_
      refine lv_aload_n hx hb dL_law_1321 rfl (lv_at hl 0 rfl) ?_
      refine lv_iload hx hb dL_law_1322 (lv_at hl 4 rfl) ?_
      refine lv_iconst (v := 2) hx hb dL_law_1324 (by decide) ?_
      refine lv_iadd hx hb dL_law_1325 ?_
      refine va_sld hx hb hX hbl hbA hV.2.2.2.2.1 hi2 dL_law_1326 ?_
      refine lv_aload_n hx hb dL_law_1327 rfl (lv_at hl 0 rfl) ?_
      refine lv_iload hx hb dL_law_1328 (lv_at hl 4 rfl) ?_
      refine lv_iconst (v := 3) hx hb dL_law_1330 (by decide) ?_
      refine lv_iadd hx hb dL_law_1331 ?_
      refine va_sld hx hb hX hbl hbA hV.2.2.2.2.1 hi3 dL_law_1332 ?_
      refine lv_aload_n hx hb dL_law_1333 rfl (lv_at hl 0 rfl) ?_
      refine lv_iload hx hb dL_law_1334 (lv_at hl 4 rfl) ?_
      refine lv_iconst (v := 4) hx hb dL_law_1336 (by decide) ?_
      refine lv_iadd hx hb dL_law_1337 ?_
      refine va_sld hx hb hX hbl hbA hV.2.2.2.2.1 hi4 dL_law_1338 ?_
      refine lv_aload_n hx hb dL_law_1339 rfl (lv_at hl 3 rfl) ?_
      refine r_stW (n := 6) (As := [.ref (eA E 0), .int (xs (x4 + 1).toNatClampNeg), .int (xs (x4 + 2).toNatClampNeg), .int (xs (x4 + 3).toNatClampNeg), .int (xs (x4 + 4).toNatClampNeg), .ref o]) (wt_L_order_4 hT hx1) lw_fst mk_5_180 mk_1_0 mk_5_181 (by decide +kernel) rfl ⟨rfl, rfl⟩ cx hV hF hN mk_5_179 ⟨Nat.le_of_ble_eq_true rfl, Nat.le_of_ble_eq_true rfl⟩ hcs hl.1 rfl (Nat.le_of_ble_eq_true rfl) dL_law_1340 (fun H locs hV => ?_)
      refine lv_istore (lv' := [(5, .int 3), (0, .ref b), (1, .ref (eA E 0)), (2, .ref (eA (eW E ad) 0)), (3, .ref o), (4, .int x4)]) hx hb dL_law_1343 hl (by decide) rfl (fun ls hl => ?_)
      refine lv_aload_n hx hb dL_law_1345 rfl (lv_at hl 3 rfl) ?_
      refine lv_aload_n hx hb dL_law_1346 rfl (lv_at hl 1 rfl) ?_
      refine lv_iload hx hb dL_law_1347 (lv_at hl 5 rfl) ?_
      refine lv_iconst (v := 1) hx hb dL_law_1349 (by decide) ?_
      refine lv_iadd hx hb dL_law_1350 ?_
      refine va_sld hx hb hX hbl hbA hV.2.2.2.2.1 hi1 dL_law_1351 ?_
      refine lv_aload_n hx hb dL_law_1352 rfl (lv_at hl 1 rfl) ?_
      refine lv_iload hx hb dL_law_1353 (lv_at hl 5 rfl) ?_
      refine lv_iconst (v := 2) hx hb dL_law_1355 (by decide) ?_
      refine lv_iadd hx hb dL_law_1356 ?_
      refine va_sld hx hb hX hbl hbA hV.2.2.2.2.1 hi2 dL_law_1357 ?_
      refine lv_aload_n hx hb dL_law_1358 rfl (lv_at hl 1 rfl) ?_
      refine lv_iload hx hb dL_law_1359 (lv_at hl 5 rfl) ?_
      refine lv_iconst (v := 3) hx hb dL_law_1361 (by decide) ?_
      refine lv_iadd hx hb dL_law_1362 ?_
      refine va_sld hx hb hX hbl hbA hV.2.2.2.2.1 hi3 dL_law_1363 ?_
      refine lv_aload_n hx hb dL_law_1364 rfl (lv_at hl 1 rfl) ?_
      refine lv_iload hx hb dL_law_1365 (lv_at hl 5 rfl) ?_
      refine lv_iconst (v := 4) hx hb dL_law_1367 (by decide) ?_
      refine lv_iadd hx hb dL_law_1368 ?_
      refine va_sld hx hb hX hbl hbA hV.2.2.2.2.1 hi4 dL_law_1369 ?_
      refine k_X10_order hy1 cx (lw_toM hV) mk_8_68 ⟨Nat.le_of_ble_eq_true rfl, Nat.le_of_ble_eq_true rfl⟩ hcs hl.1 (Nat.le_of_ble_eq_true rfl) dL_law_1370 (fun H locs hV => ?_)
      have hV := lw_ofM hV
      refine lv_istore (lv' := [(6, .int r), (5, .int 3), (0, .ref b), (1, .ref (eA E 0)), (2, .ref (eA (eW E ad) 0)), (3, .ref o), (4, .int x4)]) hx hb dL_law_1373 hl (by decide) rfl (fun ls hl => ?_)
      refine lv_aload_n hx hb dL_law_1375 rfl (lv_at hl 4 rfl) ?_
      refine k_X10_thrown (rv := 3) (show x_X10_thrown _ = some 3 from congrArg some h0) cx (lw_toM hV) mk_6_75 ⟨Nat.le_of_ble_eq_true rfl, Nat.le_of_ble_eq_true rfl⟩ hcs hl.1 (Nat.le_of_ble_eq_true rfl) dL_law_1376 (fun H locs hV => ?_)
      have hV := lw_ofM hV
      refine lv_iload hx hb dL_law_1379 (lv_at hl 1 rfl) ?_
      refine lv_icmp_eq (tgt := 1386) hx hb dL_law_1381 (by decide) (fun _ => ?_) (fun q => absurd rfl q)
      refine lv_iload hx hb dL_law_1386 (lv_at hl 1 rfl) ?_
      refine lv_if_ne (tgt := 1403) hx hb dL_law_1388 (by decide) (fun _ => ?_) (fun q => absurd q (by decide))
      refine lv_goto (tgt := 2051) hx hb dL_law_1403 (by decide) ?_
      refine W.widen (k := cells + 1) (n := slots + 6) (by omega) (by omega) ?_
      exact kk _ _ _ _ _ _ hV hI2 (lv_sub hl [2, 3, 4, 5, 6] rfl)
set_option maxHeartbeats 4000000 in
set_option maxRecDepth 100000 in
theorem lc_mean {p : Program} {l : Launch} {e : Env} {s : State} {m : MethodId} {below : List Frame} {meth : Method} {c : Code} {b L : Nat} {xs : Nat → Int32} {E : EV} {ad : Nat → Nat} {σ τ : St} {o : Nat} {f : Nat → Int64} {H : Heap} {locs : List Loc} {ls : Array Slot} {x4 : Int32} {cells slots : Nat} {Q : State → Prop} (D : LwD p l s m c b L xs E ad) (hi1 : vp_in (x4 + 1) L) (hi2 : vp_in (x4 + 2) L) (hi3 : vp_in (x4 + 3) L) (hi4 : vp_in (x4 + 4) L) (hi5 : vp_in (x4 + 5) L) (hcs : cells + 1 ≤ room_1.cells ∧ slots + 6 ≤ room_1.slots) (hV : AtW E (lwW E ad σ τ o f) (lwA s) s H locs) (hI : Inv σ τ) (hl : lv_has ls 8 [(0, .ref b), (1, .ref (eA E 0)), (2, .ref (eA (eW E ad) 0)), (3, .ref o), (4, .int x4)]) (kk : LwK p l e s m below meth c b E ad o x4 cells slots Q) : W p l e room_1 s m #[Value.ref b] below meth c H locs cells slots Q (F0 m 1406 ls []) := by
  obtain ⟨cx, hX, hbl, hF, hF2, hN, hT⟩ := D
  have hx := cx.1
  have hb := cx.2.1
  have hbA : ¬ lwA s b := Nat.not_le.mpr hbl
  have hc0 : cells ≤ room_1.cells ∧ slots ≤ room_1.slots := ⟨Nat.le_trans (Nat.le_add_right _ 1) hcs.1, Nat.le_trans (Nat.le_add_right _ 6) hcs.2⟩
  rcases op_mean hI (xs (x4 + 1).toNatClampNeg) (xs (x4 + 2).toNatClampNeg) (xs (x4 + 3).toNatClampNeg) (xs (x4 + 4).toNatClampNeg) with ⟨r, σ2, τ2, hx1, hy1, h0, hI2⟩ | ⟨c9, σ2, r, τ2, hx1, hy1, hc, hI2⟩
  · refine lv_aload_n hx hb dL_law_1406 rfl (lv_at hl 1 rfl) ?_
    refine lv_aload_n hx hb dL_law_1407 rfl (lv_at hl 0 rfl) ?_
    refine lv_iload hx hb dL_law_1408 (lv_at hl 4 rfl) ?_
    refine lv_iconst (v := 1) hx hb dL_law_1410 (by decide) ?_
    refine lv_iadd hx hb dL_law_1411 ?_
    refine va_sld hx hb hX hbl hbA hV.2.2.2.2.1 hi1 dL_law_1412 ?_
    refine lv_aload_n hx hb dL_law_1413 rfl (lv_at hl 0 rfl) ?_
    refine lv_iload hx hb dL_law_1414 (lv_at hl 4 rfl) ?_
    refine lv_iconst (v := 2) hx hb dL_law_1416 (by decide) ?_
    refine lv_iadd hx hb dL_law_1417 ?_
    refine va_sld hx hb hX hbl hbA hV.2.2.2.2.1 hi2 dL_law_1418 ?_
    refine lv_aload_n hx hb dL_law_1419 rfl (lv_at hl 0 rfl) ?_
    refine lv_iload hx hb dL_law_1420 (lv_at hl 4 rfl) ?_
    refine lv_iconst (v := 3) hx hb dL_law_1422 (by decide) ?_
    refine lv_iadd hx hb dL_law_1423 ?_
    refine va_sld hx hb hX hbl hbA hV.2.2.2.2.1 hi3 dL_law_1424 ?_
    refine lv_aload_n hx hb dL_law_1425 rfl (lv_at hl 0 rfl) ?_
    refine lv_iload hx hb dL_law_1426 (lv_at hl 4 rfl) ?_
    refine lv_iconst (v := 4) hx hb dL_law_1428 (by decide) ?_
    refine lv_iadd hx hb dL_law_1429 ?_
    refine va_sld hx hb hX hbl hbA hV.2.2.2.2.1 hi4 dL_law_1430 ?_
    refine lv_aload_n hx hb dL_law_1431 rfl (lv_at hl 3 rfl) ?_
    refine r_stW (n := 6) (As := [.ref (eA E 0), .int (xs (x4 + 1).toNatClampNeg), .int (xs (x4 + 2).toNatClampNeg), .int (xs (x4 + 3).toNatClampNeg), .int (xs (x4 + 4).toNatClampNeg), .ref o]) (w_L_mean hx1) lw_fst mk_5_211 mk_1_0 mk_5_212 (by decide +kernel) rfl ⟨rfl, rfl⟩ cx hV hF hN mk_5_210 ⟨Nat.le_of_ble_eq_true rfl, Nat.le_of_ble_eq_true rfl⟩ hc0 hl.1 rfl (Nat.le_of_ble_eq_true rfl) dL_law_1432 (fun H locs hV => ?_)
    refine lv_istore (lv' := [(5, .int 0), (0, .ref b), (1, .ref (eA E 0)), (2, .ref (eA (eW E ad) 0)), (3, .ref o), (4, .int x4)]) hx hb dL_law_1435 hl (by decide) rfl (fun ls hl => ?_)
    refine lv_aload_n hx hb dL_law_1437 rfl (lv_at hl 3 rfl) ?_
    refine lv_aload_n hx hb dL_law_1438 rfl (lv_at hl 1 rfl) ?_
    refine lv_iload hx hb dL_law_1439 (lv_at hl 5 rfl) ?_
    refine lv_iconst (v := 1) hx hb dL_law_1441 (by decide) ?_
    refine lv_iadd hx hb dL_law_1442 ?_
    refine va_sld hx hb hX hbl hbA hV.2.2.2.2.1 hi1 dL_law_1443 ?_
    refine lv_aload_n hx hb dL_law_1444 rfl (lv_at hl 1 rfl) ?_
    refine lv_iload hx hb dL_law_1445 (lv_at hl 5 rfl) ?_
    refine lv_iconst (v := 2) hx hb dL_law_1447 (by decide) ?_
    refine lv_iadd hx hb dL_law_1448 ?_
    refine va_sld hx hb hX hbl hbA hV.2.2.2.2.1 hi2 dL_law_1449 ?_
    refine lv_aload_n hx hb dL_law_1450 rfl (lv_at hl 1 rfl) ?_
    refine lv_iload hx hb dL_law_1451 (lv_at hl 5 rfl) ?_
    refine lv_iconst (v := 3) hx hb dL_law_1453 (by decide) ?_
    refine lv_iadd hx hb dL_law_1454 ?_
    refine va_sld hx hb hX hbl hbA hV.2.2.2.2.1 hi3 dL_law_1455 ?_
    refine lv_aload_n hx hb dL_law_1456 rfl (lv_at hl 1 rfl) ?_
    refine lv_iload hx hb dL_law_1457 (lv_at hl 5 rfl) ?_
    refine lv_iconst (v := 4) hx hb dL_law_1459 (by decide) ?_
    refine lv_iadd hx hb dL_law_1460 ?_
    refine va_sld hx hb hX hbl hbA hV.2.2.2.2.1 hi4 dL_law_1461 ?_
    refine k_X10_mean hy1 cx (lw_toM hV) mk_8_80 ⟨Nat.le_of_ble_eq_true rfl, Nat.le_of_ble_eq_true rfl⟩ hc0 hl.1 (Nat.le_of_ble_eq_true rfl) dL_law_1462 (fun H locs hV => ?_)
    have hV := lw_ofM hV
    refine lv_lstore (lv' := [(6, .long r), (5, .int 0), (0, .ref b), (1, .ref (eA E 0)), (2, .ref (eA (eW E ad) 0)), (3, .ref o), (4, .int x4)]) hx hb dL_law_1465 hl (by decide) rfl (fun ls hl => ?_)
    refine lv_aload_n hx hb dL_law_1467 rfl (lv_at hl 4 rfl) ?_
    refine k_X10_thrown (rv := 0) (show x_X10_thrown _ = some 0 from congrArg some h0) cx (lw_toM hV) mk_6_75 ⟨Nat.le_of_ble_eq_true rfl, Nat.le_of_ble_eq_true rfl⟩ hc0 hl.1 (Nat.le_of_ble_eq_true rfl) dL_law_1468 (fun H locs hV => ?_)
    have hV := lw_ofM hV
    refine lv_iload hx hb dL_law_1471 (lv_at hl 1 rfl) ?_
    refine lv_icmp_eq (tgt := 1478) hx hb dL_law_1473 (by decide) (fun _ => ?_) (fun q => absurd rfl q)
    refine lv_iload hx hb dL_law_1478 (lv_at hl 1 rfl) ?_
    refine lv_if_ne (tgt := 1494) hx hb dL_law_1480 (by decide) (fun q => absurd rfl q) (fun _ => ?_)
    refine lv_aload_n hx hb dL_law_1483 rfl (lv_at hl 5 rfl) ?_
    refine lv_iconst (v := 0) hx hb dL_law_1484 (by decide) ?_
    refine r_lald cx hV 115 rfl (n := 1) (by unfold vp_in; decide) dL_law_1485 ?_
    rw [lw_upd0]
    refine lv_lload hx hb dL_law_1486 (lv_at hl 0 rfl) ?_
    refine W.lcmp hx hb dL_law_1488 ?_
    rw [lw_cmp0]
    refine lv_if_eq (tgt := 1494) hx hb dL_law_1489 (by decide) (fun _ => ?_) (fun q => absurd rfl q)
    refine lv_goto (tgt := 2051) hx hb dL_law_1494 (by decide) ?_
    refine W.widen (k := cells + 1) (n := slots + 6) (by omega) (by omega) ?_
    exact kk _ _ _ _ _ _ hV hI2 (lv_sub hl [2, 3, 4, 5, 6] rfl)
  · simp only [List.mem_cons, Prod.mk.injEq, List.not_mem_nil, or_false] at hc
    rcases hc with ⟨rfl, h0⟩ | ⟨rfl, h0⟩ | ⟨rfl, h0⟩
    · refine lv_aload_n hx hb dL_law_1406 rfl (lv_at hl 1 rfl) ?_
      refine lv_aload_n hx hb dL_law_1407 rfl (lv_at hl 0 rfl) ?_
      refine lv_iload hx hb dL_law_1408 (lv_at hl 4 rfl) ?_
      refine lv_iconst (v := 1) hx hb dL_law_1410 (by decide) ?_
      refine lv_iadd hx hb dL_law_1411 ?_
      refine va_sld hx hb hX hbl hbA hV.2.2.2.2.1 hi1 dL_law_1412 ?_
      refine lv_aload_n hx hb dL_law_1413 rfl (lv_at hl 0 rfl) ?_
      refine lv_iload hx hb dL_law_1414 (lv_at hl 4 rfl) ?_
      refine lv_iconst (v := 2) hx hb dL_law_1416 (by decide) ?_
      refine lv_iadd hx hb dL_law_1417 ?_
      refine va_sld hx hb hX hbl hbA hV.2.2.2.2.1 hi2 dL_law_1418 ?_
      refine lv_aload_n hx hb dL_law_1419 rfl (lv_at hl 0 rfl) ?_
      refine lv_iload hx hb dL_law_1420 (lv_at hl 4 rfl) ?_
      refine lv_iconst (v := 3) hx hb dL_law_1422 (by decide) ?_
      refine lv_iadd hx hb dL_law_1423 ?_
      refine va_sld hx hb hX hbl hbA hV.2.2.2.2.1 hi3 dL_law_1424 ?_
      refine lv_aload_n hx hb dL_law_1425 rfl (lv_at hl 0 rfl) ?_
      refine lv_iload hx hb dL_law_1426 (lv_at hl 4 rfl) ?_
      refine lv_iconst (v := 4) hx hb dL_law_1428 (by decide) ?_
      refine lv_iadd hx hb dL_law_1429 ?_
      refine va_sld hx hb hX hbl hbA hV.2.2.2.2.1 hi4 dL_law_1430 ?_
      refine lv_aload_n hx hb dL_law_1431 rfl (lv_at hl 3 rfl) ?_
      refine r_stW (n := 6) (As := [.ref (eA E 0), .int (xs (x4 + 1).toNatClampNeg), .int (xs (x4 + 2).toNatClampNeg), .int (xs (x4 + 3).toNatClampNeg), .int (xs (x4 + 4).toNatClampNeg), .ref o]) (wt_L_mean_2 hT hx1) lw_fst mk_5_211 mk_1_0 mk_5_212 (by decide +kernel) rfl ⟨rfl, rfl⟩ cx hV hF hN mk_5_210 ⟨Nat.le_of_ble_eq_true rfl, Nat.le_of_ble_eq_true rfl⟩ hcs hl.1 rfl (Nat.le_of_ble_eq_true rfl) dL_law_1432 (fun H locs hV => ?_)
      refine lv_istore (lv' := [(5, .int 1), (0, .ref b), (1, .ref (eA E 0)), (2, .ref (eA (eW E ad) 0)), (3, .ref o), (4, .int x4)]) hx hb dL_law_1435 hl (by decide) rfl (fun ls hl => ?_)
      refine lv_aload_n hx hb dL_law_1437 rfl (lv_at hl 3 rfl) ?_
      refine lv_aload_n hx hb dL_law_1438 rfl (lv_at hl 1 rfl) ?_
      refine lv_iload hx hb dL_law_1439 (lv_at hl 5 rfl) ?_
      refine lv_iconst (v := 1) hx hb dL_law_1441 (by decide) ?_
      refine lv_iadd hx hb dL_law_1442 ?_
      refine va_sld hx hb hX hbl hbA hV.2.2.2.2.1 hi1 dL_law_1443 ?_
      refine lv_aload_n hx hb dL_law_1444 rfl (lv_at hl 1 rfl) ?_
      refine lv_iload hx hb dL_law_1445 (lv_at hl 5 rfl) ?_
      refine lv_iconst (v := 2) hx hb dL_law_1447 (by decide) ?_
      refine lv_iadd hx hb dL_law_1448 ?_
      refine va_sld hx hb hX hbl hbA hV.2.2.2.2.1 hi2 dL_law_1449 ?_
      refine lv_aload_n hx hb dL_law_1450 rfl (lv_at hl 1 rfl) ?_
      refine lv_iload hx hb dL_law_1451 (lv_at hl 5 rfl) ?_
      refine lv_iconst (v := 3) hx hb dL_law_1453 (by decide) ?_
      refine lv_iadd hx hb dL_law_1454 ?_
      refine va_sld hx hb hX hbl hbA hV.2.2.2.2.1 hi3 dL_law_1455 ?_
      refine lv_aload_n hx hb dL_law_1456 rfl (lv_at hl 1 rfl) ?_
      refine lv_iload hx hb dL_law_1457 (lv_at hl 5 rfl) ?_
      refine lv_iconst (v := 4) hx hb dL_law_1459 (by decide) ?_
      refine lv_iadd hx hb dL_law_1460 ?_
      refine va_sld hx hb hX hbl hbA hV.2.2.2.2.1 hi4 dL_law_1461 ?_
      refine k_X10_mean hy1 cx (lw_toM hV) mk_8_80 ⟨Nat.le_of_ble_eq_true rfl, Nat.le_of_ble_eq_true rfl⟩ hcs hl.1 (Nat.le_of_ble_eq_true rfl) dL_law_1462 (fun H locs hV => ?_)
      have hV := lw_ofM hV
      refine lv_lstore (lv' := [(6, .long r), (5, .int 1), (0, .ref b), (1, .ref (eA E 0)), (2, .ref (eA (eW E ad) 0)), (3, .ref o), (4, .int x4)]) hx hb dL_law_1465 hl (by decide) rfl (fun ls hl => ?_)
      refine lv_aload_n hx hb dL_law_1467 rfl (lv_at hl 4 rfl) ?_
      refine k_X10_thrown (rv := 1) (show x_X10_thrown _ = some 1 from congrArg some h0) cx (lw_toM hV) mk_6_75 ⟨Nat.le_of_ble_eq_true rfl, Nat.le_of_ble_eq_true rfl⟩ hcs hl.1 (Nat.le_of_ble_eq_true rfl) dL_law_1468 (fun H locs hV => ?_)
      have hV := lw_ofM hV
      refine lv_iload hx hb dL_law_1471 (lv_at hl 1 rfl) ?_
      refine lv_icmp_eq (tgt := 1478) hx hb dL_law_1473 (by decide) (fun _ => ?_) (fun q => absurd rfl q)
      refine lv_iload hx hb dL_law_1478 (lv_at hl 1 rfl) ?_
      refine lv_if_ne (tgt := 1494) hx hb dL_law_1480 (by decide) (fun _ => ?_) (fun q => absurd q (by decide))
      refine lv_goto (tgt := 2051) hx hb dL_law_1494 (by decide) ?_
      refine W.widen (k := cells + 1) (n := slots + 6) (by omega) (by omega) ?_
      exact kk _ _ _ _ _ _ hV hI2 (lv_sub hl [2, 3, 4, 5, 6] rfl)
    · refine lv_aload_n hx hb dL_law_1406 rfl (lv_at hl 1 rfl) ?_
      refine lv_aload_n hx hb dL_law_1407 rfl (lv_at hl 0 rfl) ?_
      refine lv_iload hx hb dL_law_1408 (lv_at hl 4 rfl) ?_
      refine lv_iconst (v := 1) hx hb dL_law_1410 (by decide) ?_
      refine lv_iadd hx hb dL_law_1411 ?_
      refine va_sld hx hb hX hbl hbA hV.2.2.2.2.1 hi1 dL_law_1412 ?_
      refine lv_aload_n hx hb dL_law_1413 rfl (lv_at hl 0 rfl) ?_
      refine lv_iload hx hb dL_law_1414 (lv_at hl 4 rfl) ?_
      refine lv_iconst (v := 2) hx hb dL_law_1416 (by decide) ?_
      refine lv_iadd hx hb dL_law_1417 ?_
      refine va_sld hx hb hX hbl hbA hV.2.2.2.2.1 hi2 dL_law_1418 ?_
      refine lv_aload_n hx hb dL_law_1419 rfl (lv_at hl 0 rfl) ?_
      refine lv_iload hx hb dL_law_1420 (lv_at hl 4 rfl) ?_
      refine lv_iconst (v := 3) hx hb dL_law_1422 (by decide) ?_
      refine lv_iadd hx hb dL_law_1423 ?_
      refine va_sld hx hb hX hbl hbA hV.2.2.2.2.1 hi3 dL_law_1424 ?_
      refine lv_aload_n hx hb dL_law_1425 rfl (lv_at hl 0 rfl) ?_
      refine lv_iload hx hb dL_law_1426 (lv_at hl 4 rfl) ?_
      refine lv_iconst (v := 4) hx hb dL_law_1428 (by decide) ?_
      refine lv_iadd hx hb dL_law_1429 ?_
      refine va_sld hx hb hX hbl hbA hV.2.2.2.2.1 hi4 dL_law_1430 ?_
      refine lv_aload_n hx hb dL_law_1431 rfl (lv_at hl 3 rfl) ?_
      refine r_stW (n := 6) (As := [.ref (eA E 0), .int (xs (x4 + 1).toNatClampNeg), .int (xs (x4 + 2).toNatClampNeg), .int (xs (x4 + 3).toNatClampNeg), .int (xs (x4 + 4).toNatClampNeg), .ref o]) (wt_L_mean_3 hT hx1) lw_fst mk_5_211 mk_1_0 mk_5_212 (by decide +kernel) rfl ⟨rfl, rfl⟩ cx hV hF hN mk_5_210 ⟨Nat.le_of_ble_eq_true rfl, Nat.le_of_ble_eq_true rfl⟩ hcs hl.1 rfl (Nat.le_of_ble_eq_true rfl) dL_law_1432 (fun H locs hV => ?_)
      refine lv_istore (lv' := [(5, .int 2), (0, .ref b), (1, .ref (eA E 0)), (2, .ref (eA (eW E ad) 0)), (3, .ref o), (4, .int x4)]) hx hb dL_law_1435 hl (by decide) rfl (fun ls hl => ?_)
      refine lv_aload_n hx hb dL_law_1437 rfl (lv_at hl 3 rfl) ?_
      refine lv_aload_n hx hb dL_law_1438 rfl (lv_at hl 1 rfl) ?_
      refine lv_iload hx hb dL_law_1439 (lv_at hl 5 rfl) ?_
      refine lv_iconst (v := 1) hx hb dL_law_1441 (by decide) ?_
      refine lv_iadd hx hb dL_law_1442 ?_
      refine va_sld hx hb hX hbl hbA hV.2.2.2.2.1 hi1 dL_law_1443 ?_
      refine lv_aload_n hx hb dL_law_1444 rfl (lv_at hl 1 rfl) ?_
      refine lv_iload hx hb dL_law_1445 (lv_at hl 5 rfl) ?_
      refine lv_iconst (v := 2) hx hb dL_law_1447 (by decide) ?_
      refine lv_iadd hx hb dL_law_1448 ?_
      refine va_sld hx hb hX hbl hbA hV.2.2.2.2.1 hi2 dL_law_1449 ?_
      refine lv_aload_n hx hb dL_law_1450 rfl (lv_at hl 1 rfl) ?_
      refine lv_iload hx hb dL_law_1451 (lv_at hl 5 rfl) ?_
      refine lv_iconst (v := 3) hx hb dL_law_1453 (by decide) ?_
      refine lv_iadd hx hb dL_law_1454 ?_
      refine va_sld hx hb hX hbl hbA hV.2.2.2.2.1 hi3 dL_law_1455 ?_
      refine lv_aload_n hx hb dL_law_1456 rfl (lv_at hl 1 rfl) ?_
      refine lv_iload hx hb dL_law_1457 (lv_at hl 5 rfl) ?_
      refine lv_iconst (v := 4) hx hb dL_law_1459 (by decide) ?_
      refine lv_iadd hx hb dL_law_1460 ?_
      refine va_sld hx hb hX hbl hbA hV.2.2.2.2.1 hi4 dL_law_1461 ?_
      refine k_X10_mean hy1 cx (lw_toM hV) mk_8_80 ⟨Nat.le_of_ble_eq_true rfl, Nat.le_of_ble_eq_true rfl⟩ hcs hl.1 (Nat.le_of_ble_eq_true rfl) dL_law_1462 (fun H locs hV => ?_)
      have hV := lw_ofM hV
      refine lv_lstore (lv' := [(6, .long r), (5, .int 2), (0, .ref b), (1, .ref (eA E 0)), (2, .ref (eA (eW E ad) 0)), (3, .ref o), (4, .int x4)]) hx hb dL_law_1465 hl (by decide) rfl (fun ls hl => ?_)
      refine lv_aload_n hx hb dL_law_1467 rfl (lv_at hl 4 rfl) ?_
      refine k_X10_thrown (rv := 2) (show x_X10_thrown _ = some 2 from congrArg some h0) cx (lw_toM hV) mk_6_75 ⟨Nat.le_of_ble_eq_true rfl, Nat.le_of_ble_eq_true rfl⟩ hcs hl.1 (Nat.le_of_ble_eq_true rfl) dL_law_1468 (fun H locs hV => ?_)
      have hV := lw_ofM hV
      refine lv_iload hx hb dL_law_1471 (lv_at hl 1 rfl) ?_
      refine lv_icmp_eq (tgt := 1478) hx hb dL_law_1473 (by decide) (fun _ => ?_) (fun q => absurd rfl q)
      refine lv_iload hx hb dL_law_1478 (lv_at hl 1 rfl) ?_
      refine lv_if_ne (tgt := 1494) hx hb dL_law_1480 (by decide) (fun _ => ?_) (fun q => absurd q (by decide))
      refine lv_goto (tgt := 2051) hx hb dL_law_1494 (by decide) ?_
      refine W.widen (k := cells + 1) (n := slots + 6) (by omega) (by omega) ?_
      exact kk _ _ _ _ _ _ hV hI2 (lv_sub hl [2, 3, 4, 5, 6] rfl)
    · refine lv_aload_n hx hb dL_law_1406 rfl (lv_at hl 1 rfl) ?_
      refine lv_aload_n hx hb dL_law_1407 rfl (lv_at hl 0 rfl) ?_
      refine lv_iload hx hb dL_law_1408 (lv_at hl 4 rfl) ?_
      refine lv_iconst (v := 1) hx hb dL_law_1410 (by decide) ?_
      refine lv_iadd hx hb dL_law_1411 ?_
      refine va_sld hx hb hX hbl hbA hV.2.2.2.2.1 hi1 dL_law_1412 ?_
      refine lv_aload_n hx hb dL_law_1413 rfl (lv_at hl 0 rfl) ?_
      refine lv_iload hx hb dL_law_1414 (lv_at hl 4 rfl) ?_
      refine lv_iconst (v := 2) hx hb dL_law_1416 (by decide) ?_
      refine lv_iadd hx hb dL_law_1417 ?_
      refine va_sld hx hb hX hbl hbA hV.2.2.2.2.1 hi2 dL_law_1418 ?_
      refine lv_aload_n hx hb dL_law_1419 rfl (lv_at hl 0 rfl) ?_
      refine lv_iload hx hb dL_law_1420 (lv_at hl 4 rfl) ?_
      refine lv_iconst (v := 3) hx hb dL_law_1422 (by decide) ?_
      refine lv_iadd hx hb dL_law_1423 ?_
      refine va_sld hx hb hX hbl hbA hV.2.2.2.2.1 hi3 dL_law_1424 ?_
      refine lv_aload_n hx hb dL_law_1425 rfl (lv_at hl 0 rfl) ?_
      refine lv_iload hx hb dL_law_1426 (lv_at hl 4 rfl) ?_
      refine lv_iconst (v := 4) hx hb dL_law_1428 (by decide) ?_
      refine lv_iadd hx hb dL_law_1429 ?_
      refine va_sld hx hb hX hbl hbA hV.2.2.2.2.1 hi4 dL_law_1430 ?_
      refine lv_aload_n hx hb dL_law_1431 rfl (lv_at hl 3 rfl) ?_
      refine r_stW (n := 6) (As := [.ref (eA E 0), .int (xs (x4 + 1).toNatClampNeg), .int (xs (x4 + 2).toNatClampNeg), .int (xs (x4 + 3).toNatClampNeg), .int (xs (x4 + 4).toNatClampNeg), .ref o]) (wt_L_mean_4 hT hx1) lw_fst mk_5_211 mk_1_0 mk_5_212 (by decide +kernel) rfl ⟨rfl, rfl⟩ cx hV hF hN mk_5_210 ⟨Nat.le_of_ble_eq_true rfl, Nat.le_of_ble_eq_true rfl⟩ hcs hl.1 rfl (Nat.le_of_ble_eq_true rfl) dL_law_1432 (fun H locs hV => ?_)
      refine lv_istore (lv' := [(5, .int 3), (0, .ref b), (1, .ref (eA E 0)), (2, .ref (eA (eW E ad) 0)), (3, .ref o), (4, .int x4)]) hx hb dL_law_1435 hl (by decide) rfl (fun ls hl => ?_)
      refine lv_aload_n hx hb dL_law_1437 rfl (lv_at hl 3 rfl) ?_
      refine lv_aload_n hx hb dL_law_1438 rfl (lv_at hl 1 rfl) ?_
      refine lv_iload hx hb dL_law_1439 (lv_at hl 5 rfl) ?_
      refine lv_iconst (v := 1) hx hb dL_law_1441 (by decide) ?_
      refine lv_iadd hx hb dL_law_1442 ?_
      refine va_sld hx hb hX hbl hbA hV.2.2.2.2.1 hi1 dL_law_1443 ?_
      refine lv_aload_n hx hb dL_law_1444 rfl (lv_at hl 1 rfl) ?_
      refine lv_iload hx hb dL_law_1445 (lv_at hl 5 rfl) ?_
      refine lv_iconst (v := 2) hx hb dL_law_1447 (by decide) ?_
      refine lv_iadd hx hb dL_law_1448 ?_
      refine va_sld hx hb hX hbl hbA hV.2.2.2.2.1 hi2 dL_law_1449 ?_
      refine lv_aload_n hx hb dL_law_1450 rfl (lv_at hl 1 rfl) ?_
      refine lv_iload hx hb dL_law_1451 (lv_at hl 5 rfl) ?_
      refine lv_iconst (v := 3) hx hb dL_law_1453 (by decide) ?_
      refine lv_iadd hx hb dL_law_1454 ?_
      refine va_sld hx hb hX hbl hbA hV.2.2.2.2.1 hi3 dL_law_1455 ?_
      refine lv_aload_n hx hb dL_law_1456 rfl (lv_at hl 1 rfl) ?_
      refine lv_iload hx hb dL_law_1457 (lv_at hl 5 rfl) ?_
      refine lv_iconst (v := 4) hx hb dL_law_1459 (by decide) ?_
      refine lv_iadd hx hb dL_law_1460 ?_
      refine va_sld hx hb hX hbl hbA hV.2.2.2.2.1 hi4 dL_law_1461 ?_
      refine k_X10_mean hy1 cx (lw_toM hV) mk_8_80 ⟨Nat.le_of_ble_eq_true rfl, Nat.le_of_ble_eq_true rfl⟩ hcs hl.1 (Nat.le_of_ble_eq_true rfl) dL_law_1462 (fun H locs hV => ?_)
      have hV := lw_ofM hV
      refine lv_lstore (lv' := [(6, .long r), (5, .int 3), (0, .ref b), (1, .ref (eA E 0)), (2, .ref (eA (eW E ad) 0)), (3, .ref o), (4, .int x4)]) hx hb dL_law_1465 hl (by decide) rfl (fun ls hl => ?_)
      refine lv_aload_n hx hb dL_law_1467 rfl (lv_at hl 4 rfl) ?_
      refine k_X10_thrown (rv := 3) (show x_X10_thrown _ = some 3 from congrArg some h0) cx (lw_toM hV) mk_6_75 ⟨Nat.le_of_ble_eq_true rfl, Nat.le_of_ble_eq_true rfl⟩ hcs hl.1 (Nat.le_of_ble_eq_true rfl) dL_law_1468 (fun H locs hV => ?_)
      have hV := lw_ofM hV
      refine lv_iload hx hb dL_law_1471 (lv_at hl 1 rfl) ?_
      refine lv_icmp_eq (tgt := 1478) hx hb dL_law_1473 (by decide) (fun _ => ?_) (fun q => absurd rfl q)
      refine lv_iload hx hb dL_law_1478 (lv_at hl 1 rfl) ?_
      refine lv_if_ne (tgt := 1494) hx hb dL_law_1480 (by decide) (fun _ => ?_) (fun q => absurd q (by decide))
      refine lv_goto (tgt := 2051) hx hb dL_law_1494 (by decide) ?_
      refine W.widen (k := cells + 1) (n := slots + 6) (by omega) (by omega) ?_
      exact kk _ _ _ _ _ _ hV hI2 (lv_sub hl [2, 3, 4, 5, 6] rfl)
set_option maxHeartbeats 4000000 in
set_option maxRecDepth 100000 in
theorem lc_pace {p : Program} {l : Launch} {e : Env} {s : State} {m : MethodId} {below : List Frame} {meth : Method} {c : Code} {b L : Nat} {xs : Nat → Int32} {E : EV} {ad : Nat → Nat} {σ τ : St} {o : Nat} {f : Nat → Int64} {H : Heap} {locs : List Loc} {ls : Array Slot} {x4 : Int32} {cells slots : Nat} {Q : State → Prop} (D : LwD p l s m c b L xs E ad) (hi1 : vp_in (x4 + 1) L) (hi2 : vp_in (x4 + 2) L) (hi3 : vp_in (x4 + 3) L) (hi4 : vp_in (x4 + 4) L) (hi5 : vp_in (x4 + 5) L) (hcs : cells + 1 ≤ room_1.cells ∧ slots + 6 ≤ room_1.slots) (hV : AtW E (lwW E ad σ τ o f) (lwA s) s H locs) (hI : Inv σ τ) (hl : lv_has ls 8 [(0, .ref b), (1, .ref (eA E 0)), (2, .ref (eA (eW E ad) 0)), (3, .ref o), (4, .int x4)]) (kk : LwK p l e s m below meth c b E ad o x4 cells slots Q) : W p l e room_1 s m #[Value.ref b] below meth c H locs cells slots Q (F0 m 1497 ls []) := by
  obtain ⟨cx, hX, hbl, hF, hF2, hN, hT⟩ := D
  have hx := cx.1
  have hb := cx.2.1
  have hbA : ¬ lwA s b := Nat.not_le.mpr hbl
  have hc0 : cells ≤ room_1.cells ∧ slots ≤ room_1.slots := ⟨Nat.le_trans (Nat.le_add_right _ 1) hcs.1, Nat.le_trans (Nat.le_add_right _ 6) hcs.2⟩
  obtain ⟨r, τ2, hx1, hy1, hI2⟩ := op_pace hI
  refine lv_aload_n hx hb dL_law_1497 rfl (lv_at hl 1 rfl) ?_
  refine k_X9_pace hx1 cx hV mk_3_89 ⟨Nat.le_of_ble_eq_true rfl, Nat.le_of_ble_eq_true rfl⟩ hc0 hl.1 (Nat.le_of_ble_eq_true rfl) dL_law_1498 (fun H locs hV => ?_)
  refine lv_aload_n hx hb dL_law_1501 rfl (lv_at hl 2 rfl) ?_
  refine k_X10_pace hy1 cx (lw_toM hV) mk_8_84 ⟨Nat.le_of_ble_eq_true rfl, Nat.le_of_ble_eq_true rfl⟩ hc0 hl.1 (Nat.le_of_ble_eq_true rfl) dL_law_1502 (fun H locs hV => ?_)
  have hV := lw_ofM hV
  refine lv_icmp_eq (tgt := 2051) hx hb dL_law_1505 (by decide) (fun _ => ?_) (fun q => absurd rfl q)
  refine W.widen (k := cells + 1) (n := slots + 6) (by omega) (by omega) ?_
  exact kk _ _ _ _ _ _ hV hI2 (lv_sub hl [0, 1, 2, 3, 4] rfl)
set_option maxHeartbeats 4000000 in
set_option maxRecDepth 100000 in
theorem lc_round {p : Program} {l : Launch} {e : Env} {s : State} {m : MethodId} {below : List Frame} {meth : Method} {c : Code} {b L : Nat} {xs : Nat → Int32} {E : EV} {ad : Nat → Nat} {σ τ : St} {o : Nat} {f : Nat → Int64} {H : Heap} {locs : List Loc} {ls : Array Slot} {x4 : Int32} {cells slots : Nat} {Q : State → Prop} (D : LwD p l s m c b L xs E ad) (hi1 : vp_in (x4 + 1) L) (hi2 : vp_in (x4 + 2) L) (hi3 : vp_in (x4 + 3) L) (hi4 : vp_in (x4 + 4) L) (hi5 : vp_in (x4 + 5) L) (hcs : cells + 1 ≤ room_1.cells ∧ slots + 6 ≤ room_1.slots) (hV : AtW E (lwW E ad σ τ o f) (lwA s) s H locs) (hI : Inv σ τ) (hl : lv_has ls 8 [(0, .ref b), (1, .ref (eA E 0)), (2, .ref (eA (eW E ad) 0)), (3, .ref o), (4, .int x4)]) (kk : LwK p l e s m below meth c b E ad o x4 cells slots Q) : W p l e room_1 s m #[Value.ref b] below meth c H locs cells slots Q (F0 m 1510 ls []) := by
  obtain ⟨cx, hX, hbl, hF, hF2, hN, hT⟩ := D
  have hx := cx.1
  have hb := cx.2.1
  have hbA : ¬ lwA s b := Nat.not_le.mpr hbl
  have hc0 : cells ≤ room_1.cells ∧ slots ≤ room_1.slots := ⟨Nat.le_trans (Nat.le_add_right _ 1) hcs.1, Nat.le_trans (Nat.le_add_right _ 6) hcs.2⟩
  rcases op_round hI (xs (x4 + 1).toNatClampNeg) with ⟨r, σ2, τ2, hx1, hy1, h0, hI2⟩ | ⟨c9, σ2, r, τ2, hx1, hy1, hc, hI2⟩
  · refine lv_aload_n hx hb dL_law_1510 rfl (lv_at hl 1 rfl) ?_
    refine lv_aload_n hx hb dL_law_1511 rfl (lv_at hl 0 rfl) ?_
    refine lv_iload hx hb dL_law_1512 (lv_at hl 4 rfl) ?_
    refine lv_iconst (v := 1) hx hb dL_law_1514 (by decide) ?_
    refine lv_iadd hx hb dL_law_1515 ?_
    refine va_sld hx hb hX hbl hbA hV.2.2.2.2.1 hi1 dL_law_1516 ?_
    refine lv_aload_n hx hb dL_law_1517 rfl (lv_at hl 3 rfl) ?_
    refine r_stW (n := 3) (As := [.ref (eA E 0), .int (xs (x4 + 1).toNatClampNeg), .ref o]) (w_L_round hx1) lw_fst mk_5_222 mk_1_0 mk_5_223 (by decide +kernel) rfl ⟨rfl, rfl⟩ cx hV hF hN mk_5_221 ⟨Nat.le_of_ble_eq_true rfl, Nat.le_of_ble_eq_true rfl⟩ hc0 hl.1 rfl (Nat.le_of_ble_eq_true rfl) dL_law_1518 (fun H locs hV => ?_)
    refine lv_istore (lv' := [(5, .int 0), (0, .ref b), (1, .ref (eA E 0)), (2, .ref (eA (eW E ad) 0)), (3, .ref o), (4, .int x4)]) hx hb dL_law_1521 hl (by decide) rfl (fun ls hl => ?_)
    refine lv_aload_n hx hb dL_law_1523 rfl (lv_at hl 3 rfl) ?_
    refine lv_aload_n hx hb dL_law_1524 rfl (lv_at hl 1 rfl) ?_
    refine lv_iload hx hb dL_law_1525 (lv_at hl 5 rfl) ?_
    refine lv_iconst (v := 1) hx hb dL_law_1527 (by decide) ?_
    refine lv_iadd hx hb dL_law_1528 ?_
    refine va_sld hx hb hX hbl hbA hV.2.2.2.2.1 hi1 dL_law_1529 ?_
    refine k_X10_round hy1 cx (lw_toM hV) mk_8_88 ⟨Nat.le_of_ble_eq_true rfl, Nat.le_of_ble_eq_true rfl⟩ hc0 hl.1 (Nat.le_of_ble_eq_true rfl) dL_law_1530 (fun H locs hV => ?_)
    have hV := lw_ofM hV
    refine lv_istore (lv' := [(6, .int r), (5, .int 0), (0, .ref b), (1, .ref (eA E 0)), (2, .ref (eA (eW E ad) 0)), (3, .ref o), (4, .int x4)]) hx hb dL_law_1533 hl (by decide) rfl (fun ls hl => ?_)
    refine lv_aload_n hx hb dL_law_1535 rfl (lv_at hl 4 rfl) ?_
    refine k_X10_thrown (rv := 0) (show x_X10_thrown _ = some 0 from congrArg some h0) cx (lw_toM hV) mk_6_75 ⟨Nat.le_of_ble_eq_true rfl, Nat.le_of_ble_eq_true rfl⟩ hc0 hl.1 (Nat.le_of_ble_eq_true rfl) dL_law_1536 (fun H locs hV => ?_)
    have hV := lw_ofM hV
    refine lv_iload hx hb dL_law_1539 (lv_at hl 1 rfl) ?_
    refine lv_icmp_eq (tgt := 1546) hx hb dL_law_1541 (by decide) (fun _ => ?_) (fun q => absurd rfl q)
    refine lv_iload hx hb dL_law_1546 (lv_at hl 1 rfl) ?_
    refine lv_if_ne (tgt := 1563) hx hb dL_law_1548 (by decide) (fun q => absurd rfl q) (fun _ => ?_)
    refine lv_aload_n hx hb dL_law_1551 rfl (lv_at hl 5 rfl) ?_
    refine lv_iconst (v := 0) hx hb dL_law_1552 (by decide) ?_
    refine r_lald cx hV 115 rfl (n := 1) (by unfold vp_in; decide) dL_law_1553 ?_
    rw [lw_upd0]
    refine lv_iload hx hb dL_law_1554 (lv_at hl 0 rfl) ?_
    refine lv_i2l (v := Int32.toInt64 r) hx hb dL_law_1556 rfl ?_
    refine W.lcmp hx hb dL_law_1557 ?_
    rw [lw_cmp0]
    refine lv_if_eq (tgt := 1563) hx hb dL_law_1558 (by decide) (fun _ => ?_) (fun q => absurd rfl q)
    refine lv_goto (tgt := 2051) hx hb dL_law_1563 (by decide) ?_
    refine W.widen (k := cells + 1) (n := slots + 6) (by omega) (by omega) ?_
    exact kk _ _ _ _ _ _ hV hI2 (lv_sub hl [2, 3, 4, 5, 6] rfl)
  · simp only [List.mem_cons, Prod.mk.injEq, List.not_mem_nil, or_false] at hc
    obtain ⟨rfl, h0⟩ := hc
    refine lv_aload_n hx hb dL_law_1510 rfl (lv_at hl 1 rfl) ?_
    refine lv_aload_n hx hb dL_law_1511 rfl (lv_at hl 0 rfl) ?_
    refine lv_iload hx hb dL_law_1512 (lv_at hl 4 rfl) ?_
    refine lv_iconst (v := 1) hx hb dL_law_1514 (by decide) ?_
    refine lv_iadd hx hb dL_law_1515 ?_
    refine va_sld hx hb hX hbl hbA hV.2.2.2.2.1 hi1 dL_law_1516 ?_
    refine lv_aload_n hx hb dL_law_1517 rfl (lv_at hl 3 rfl) ?_
    refine r_stW (n := 3) (As := [.ref (eA E 0), .int (xs (x4 + 1).toNatClampNeg), .ref o]) (wt_L_round_3 hT hx1) lw_fst mk_5_222 mk_1_0 mk_5_223 (by decide +kernel) rfl ⟨rfl, rfl⟩ cx hV hF hN mk_5_221 ⟨Nat.le_of_ble_eq_true rfl, Nat.le_of_ble_eq_true rfl⟩ hcs hl.1 rfl (Nat.le_of_ble_eq_true rfl) dL_law_1518 (fun H locs hV => ?_)
    refine lv_istore (lv' := [(5, .int 1), (0, .ref b), (1, .ref (eA E 0)), (2, .ref (eA (eW E ad) 0)), (3, .ref o), (4, .int x4)]) hx hb dL_law_1521 hl (by decide) rfl (fun ls hl => ?_)
    refine lv_aload_n hx hb dL_law_1523 rfl (lv_at hl 3 rfl) ?_
    refine lv_aload_n hx hb dL_law_1524 rfl (lv_at hl 1 rfl) ?_
    refine lv_iload hx hb dL_law_1525 (lv_at hl 5 rfl) ?_
    refine lv_iconst (v := 1) hx hb dL_law_1527 (by decide) ?_
    refine lv_iadd hx hb dL_law_1528 ?_
    refine va_sld hx hb hX hbl hbA hV.2.2.2.2.1 hi1 dL_law_1529 ?_
    refine k_X10_round hy1 cx (lw_toM hV) mk_8_88 ⟨Nat.le_of_ble_eq_true rfl, Nat.le_of_ble_eq_true rfl⟩ hcs hl.1 (Nat.le_of_ble_eq_true rfl) dL_law_1530 (fun H locs hV => ?_)
    have hV := lw_ofM hV
    refine lv_istore (lv' := [(6, .int r), (5, .int 1), (0, .ref b), (1, .ref (eA E 0)), (2, .ref (eA (eW E ad) 0)), (3, .ref o), (4, .int x4)]) hx hb dL_law_1533 hl (by decide) rfl (fun ls hl => ?_)
    refine lv_aload_n hx hb dL_law_1535 rfl (lv_at hl 4 rfl) ?_
    refine k_X10_thrown (rv := 1) (show x_X10_thrown _ = some 1 from congrArg some h0) cx (lw_toM hV) mk_6_75 ⟨Nat.le_of_ble_eq_true rfl, Nat.le_of_ble_eq_true rfl⟩ hcs hl.1 (Nat.le_of_ble_eq_true rfl) dL_law_1536 (fun H locs hV => ?_)
    have hV := lw_ofM hV
    refine lv_iload hx hb dL_law_1539 (lv_at hl 1 rfl) ?_
    refine lv_icmp_eq (tgt := 1546) hx hb dL_law_1541 (by decide) (fun _ => ?_) (fun q => absurd rfl q)
    refine lv_iload hx hb dL_law_1546 (lv_at hl 1 rfl) ?_
    refine lv_if_ne (tgt := 1563) hx hb dL_law_1548 (by decide) (fun _ => ?_) (fun q => absurd q (by decide))
    refine lv_goto (tgt := 2051) hx hb dL_law_1563 (by decide) ?_
    refine W.widen (k := cells + 1) (n := slots + 6) (by omega) (by omega) ?_
    exact kk _ _ _ _ _ _ hV hI2 (lv_sub hl [2, 3, 4, 5, 6] rfl)
set_option maxHeartbeats 4000000 in
set_option maxRecDepth 100000 in
theorem lc_basket {p : Program} {l : Launch} {e : Env} {s : State} {m : MethodId} {below : List Frame} {meth : Method} {c : Code} {b L : Nat} {xs : Nat → Int32} {E : EV} {ad : Nat → Nat} {σ τ : St} {o : Nat} {f : Nat → Int64} {H : Heap} {locs : List Loc} {ls : Array Slot} {x4 : Int32} {cells slots : Nat} {Q : State → Prop} (D : LwD p l s m c b L xs E ad) (hi1 : vp_in (x4 + 1) L) (hi2 : vp_in (x4 + 2) L) (hi3 : vp_in (x4 + 3) L) (hi4 : vp_in (x4 + 4) L) (hi5 : vp_in (x4 + 5) L) (hcs : cells + 1 ≤ room_1.cells ∧ slots + 6 ≤ room_1.slots) (hV : AtW E (lwW E ad σ τ o f) (lwA s) s H locs) (hI : Inv σ τ) (hl : lv_has ls 8 [(0, .ref b), (1, .ref (eA E 0)), (2, .ref (eA (eW E ad) 0)), (3, .ref o), (4, .int x4)]) (kk : LwK p l e s m below meth c b E ad o x4 cells slots Q) : W p l e room_1 s m #[Value.ref b] below meth c H locs cells slots Q (F0 m 1566 ls []) := by
  obtain ⟨cx, hX, hbl, hF, hF2, hN, hT⟩ := D
  have hx := cx.1
  have hb := cx.2.1
  have hbA : ¬ lwA s b := Nat.not_le.mpr hbl
  have hc0 : cells ≤ room_1.cells ∧ slots ≤ room_1.slots := ⟨Nat.le_trans (Nat.le_add_right _ 1) hcs.1, Nat.le_trans (Nat.le_add_right _ 6) hcs.2⟩
  rcases op_basket hI (xs (x4 + 1).toNatClampNeg) (xs (x4 + 2).toNatClampNeg) with ⟨r, σ2, τ2, hx1, hy1, h0, hI2⟩ | ⟨c9, σ2, r, τ2, hx1, hy1, hc, hI2⟩
  · refine lv_aload_n hx hb dL_law_1566 rfl (lv_at hl 1 rfl) ?_
    refine lv_aload_n hx hb dL_law_1567 rfl (lv_at hl 0 rfl) ?_
    refine lv_iload hx hb dL_law_1568 (lv_at hl 4 rfl) ?_
    refine lv_iconst (v := 1) hx hb dL_law_1570 (by decide) ?_
    refine lv_iadd hx hb dL_law_1571 ?_
    refine va_sld hx hb hX hbl hbA hV.2.2.2.2.1 hi1 dL_law_1572 ?_
    refine lv_aload_n hx hb dL_law_1573 rfl (lv_at hl 0 rfl) ?_
    refine lv_iload hx hb dL_law_1574 (lv_at hl 4 rfl) ?_
    refine lv_iconst (v := 2) hx hb dL_law_1576 (by decide) ?_
    refine lv_iadd hx hb dL_law_1577 ?_
    refine va_sld hx hb hX hbl hbA hV.2.2.2.2.1 hi2 dL_law_1578 ?_
    refine lv_aload_n hx hb dL_law_1579 rfl (lv_at hl 3 rfl) ?_
    refine r_stW (n := 4) (As := [.ref (eA E 0), .int (xs (x4 + 1).toNatClampNeg), .int (xs (x4 + 2).toNatClampNeg), .ref o]) (w_L_basket hx1) lw_fst mk_5_229 mk_1_0 mk_5_230 (by decide +kernel) rfl ⟨rfl, rfl⟩ cx hV hF hN mk_5_228 ⟨Nat.le_of_ble_eq_true rfl, Nat.le_of_ble_eq_true rfl⟩ hc0 hl.1 rfl (Nat.le_of_ble_eq_true rfl) dL_law_1580 (fun H locs hV => ?_)
    refine lv_istore (lv' := [(5, .int 0), (0, .ref b), (1, .ref (eA E 0)), (2, .ref (eA (eW E ad) 0)), (3, .ref o), (4, .int x4)]) hx hb dL_law_1583 hl (by decide) rfl (fun ls hl => ?_)
    refine lv_aload_n hx hb dL_law_1585 rfl (lv_at hl 3 rfl) ?_
    refine lv_aload_n hx hb dL_law_1586 rfl (lv_at hl 1 rfl) ?_
    refine lv_iload hx hb dL_law_1587 (lv_at hl 5 rfl) ?_
    refine lv_iconst (v := 1) hx hb dL_law_1589 (by decide) ?_
    refine lv_iadd hx hb dL_law_1590 ?_
    refine va_sld hx hb hX hbl hbA hV.2.2.2.2.1 hi1 dL_law_1591 ?_
    refine lv_aload_n hx hb dL_law_1592 rfl (lv_at hl 1 rfl) ?_
    refine lv_iload hx hb dL_law_1593 (lv_at hl 5 rfl) ?_
    refine lv_iconst (v := 2) hx hb dL_law_1595 (by decide) ?_
    refine lv_iadd hx hb dL_law_1596 ?_
    refine va_sld hx hb hX hbl hbA hV.2.2.2.2.1 hi2 dL_law_1597 ?_
    refine k_X10_basket hy1 cx (lw_toM hV) mk_8_92 ⟨Nat.le_of_ble_eq_true rfl, Nat.le_of_ble_eq_true rfl⟩ hc0 hl.1 (Nat.le_of_ble_eq_true rfl) dL_law_1598 (fun H locs hV => ?_)
    have hV := lw_ofM hV
    refine lv_istore (lv' := [(6, .int r), (5, .int 0), (0, .ref b), (1, .ref (eA E 0)), (2, .ref (eA (eW E ad) 0)), (3, .ref o), (4, .int x4)]) hx hb dL_law_1601 hl (by decide) rfl (fun ls hl => ?_)
    refine lv_aload_n hx hb dL_law_1603 rfl (lv_at hl 4 rfl) ?_
    refine k_X10_thrown (rv := 0) (show x_X10_thrown _ = some 0 from congrArg some h0) cx (lw_toM hV) mk_6_75 ⟨Nat.le_of_ble_eq_true rfl, Nat.le_of_ble_eq_true rfl⟩ hc0 hl.1 (Nat.le_of_ble_eq_true rfl) dL_law_1604 (fun H locs hV => ?_)
    have hV := lw_ofM hV
    refine lv_iload hx hb dL_law_1607 (lv_at hl 1 rfl) ?_
    refine lv_icmp_eq (tgt := 1614) hx hb dL_law_1609 (by decide) (fun _ => ?_) (fun q => absurd rfl q)
    refine lv_iload hx hb dL_law_1614 (lv_at hl 1 rfl) ?_
    refine lv_if_ne (tgt := 1631) hx hb dL_law_1616 (by decide) (fun q => absurd rfl q) (fun _ => ?_)
    refine lv_aload_n hx hb dL_law_1619 rfl (lv_at hl 5 rfl) ?_
    refine lv_iconst (v := 0) hx hb dL_law_1620 (by decide) ?_
    refine r_lald cx hV 115 rfl (n := 1) (by unfold vp_in; decide) dL_law_1621 ?_
    rw [lw_upd0]
    refine lv_iload hx hb dL_law_1622 (lv_at hl 0 rfl) ?_
    refine lv_i2l (v := Int32.toInt64 r) hx hb dL_law_1624 rfl ?_
    refine W.lcmp hx hb dL_law_1625 ?_
    rw [lw_cmp0]
    refine lv_if_eq (tgt := 1631) hx hb dL_law_1626 (by decide) (fun _ => ?_) (fun q => absurd rfl q)
    refine lv_goto (tgt := 2051) hx hb dL_law_1631 (by decide) ?_
    refine W.widen (k := cells + 1) (n := slots + 6) (by omega) (by omega) ?_
    exact kk _ _ _ _ _ _ hV hI2 (lv_sub hl [2, 3, 4, 5, 6] rfl)
  · simp only [List.mem_cons, Prod.mk.injEq, List.not_mem_nil, or_false] at hc
    obtain ⟨rfl, h0⟩ := hc
    refine lv_aload_n hx hb dL_law_1566 rfl (lv_at hl 1 rfl) ?_
    refine lv_aload_n hx hb dL_law_1567 rfl (lv_at hl 0 rfl) ?_
    refine lv_iload hx hb dL_law_1568 (lv_at hl 4 rfl) ?_
    refine lv_iconst (v := 1) hx hb dL_law_1570 (by decide) ?_
    refine lv_iadd hx hb dL_law_1571 ?_
    refine va_sld hx hb hX hbl hbA hV.2.2.2.2.1 hi1 dL_law_1572 ?_
    refine lv_aload_n hx hb dL_law_1573 rfl (lv_at hl 0 rfl) ?_
    refine lv_iload hx hb dL_law_1574 (lv_at hl 4 rfl) ?_
    refine lv_iconst (v := 2) hx hb dL_law_1576 (by decide) ?_
    refine lv_iadd hx hb dL_law_1577 ?_
    refine va_sld hx hb hX hbl hbA hV.2.2.2.2.1 hi2 dL_law_1578 ?_
    refine lv_aload_n hx hb dL_law_1579 rfl (lv_at hl 3 rfl) ?_
    refine r_stW (n := 4) (As := [.ref (eA E 0), .int (xs (x4 + 1).toNatClampNeg), .int (xs (x4 + 2).toNatClampNeg), .ref o]) (wt_L_basket_3 hT hx1) lw_fst mk_5_229 mk_1_0 mk_5_230 (by decide +kernel) rfl ⟨rfl, rfl⟩ cx hV hF hN mk_5_228 ⟨Nat.le_of_ble_eq_true rfl, Nat.le_of_ble_eq_true rfl⟩ hcs hl.1 rfl (Nat.le_of_ble_eq_true rfl) dL_law_1580 (fun H locs hV => ?_)
    refine lv_istore (lv' := [(5, .int 1), (0, .ref b), (1, .ref (eA E 0)), (2, .ref (eA (eW E ad) 0)), (3, .ref o), (4, .int x4)]) hx hb dL_law_1583 hl (by decide) rfl (fun ls hl => ?_)
    refine lv_aload_n hx hb dL_law_1585 rfl (lv_at hl 3 rfl) ?_
    refine lv_aload_n hx hb dL_law_1586 rfl (lv_at hl 1 rfl) ?_
    refine lv_iload hx hb dL_law_1587 (lv_at hl 5 rfl) ?_
    refine lv_iconst (v := 1) hx hb dL_law_1589 (by decide) ?_
    refine lv_iadd hx hb dL_law_1590 ?_
    refine va_sld hx hb hX hbl hbA hV.2.2.2.2.1 hi1 dL_law_1591 ?_
    refine lv_aload_n hx hb dL_law_1592 rfl (lv_at hl 1 rfl) ?_
    refine lv_iload hx hb dL_law_1593 (lv_at hl 5 rfl) ?_
    refine lv_iconst (v := 2) hx hb dL_law_1595 (by decide) ?_
    refine lv_iadd hx hb dL_law_1596 ?_
    refine va_sld hx hb hX hbl hbA hV.2.2.2.2.1 hi2 dL_law_1597 ?_
    refine k_X10_basket hy1 cx (lw_toM hV) mk_8_92 ⟨Nat.le_of_ble_eq_true rfl, Nat.le_of_ble_eq_true rfl⟩ hcs hl.1 (Nat.le_of_ble_eq_true rfl) dL_law_1598 (fun H locs hV => ?_)
    have hV := lw_ofM hV
    refine lv_istore (lv' := [(6, .int r), (5, .int 1), (0, .ref b), (1, .ref (eA E 0)), (2, .ref (eA (eW E ad) 0)), (3, .ref o), (4, .int x4)]) hx hb dL_law_1601 hl (by decide) rfl (fun ls hl => ?_)
    refine lv_aload_n hx hb dL_law_1603 rfl (lv_at hl 4 rfl) ?_
    refine k_X10_thrown (rv := 1) (show x_X10_thrown _ = some 1 from congrArg some h0) cx (lw_toM hV) mk_6_75 ⟨Nat.le_of_ble_eq_true rfl, Nat.le_of_ble_eq_true rfl⟩ hcs hl.1 (Nat.le_of_ble_eq_true rfl) dL_law_1604 (fun H locs hV => ?_)
    have hV := lw_ofM hV
    refine lv_iload hx hb dL_law_1607 (lv_at hl 1 rfl) ?_
    refine lv_icmp_eq (tgt := 1614) hx hb dL_law_1609 (by decide) (fun _ => ?_) (fun q => absurd rfl q)
    refine lv_iload hx hb dL_law_1614 (lv_at hl 1 rfl) ?_
    refine lv_if_ne (tgt := 1631) hx hb dL_law_1616 (by decide) (fun _ => ?_) (fun q => absurd q (by decide))
    refine lv_goto (tgt := 2051) hx hb dL_law_1631 (by decide) ?_
    refine W.widen (k := cells + 1) (n := slots + 6) (by omega) (by omega) ?_
    exact kk _ _ _ _ _ _ hV hI2 (lv_sub hl [2, 3, 4, 5, 6] rfl)
set_option maxHeartbeats 4000000 in
set_option maxRecDepth 100000 in
theorem lc_sort {p : Program} {l : Launch} {e : Env} {s : State} {m : MethodId} {below : List Frame} {meth : Method} {c : Code} {b L : Nat} {xs : Nat → Int32} {E : EV} {ad : Nat → Nat} {σ τ : St} {o : Nat} {f : Nat → Int64} {H : Heap} {locs : List Loc} {ls : Array Slot} {x4 : Int32} {cells slots : Nat} {Q : State → Prop} (D : LwD p l s m c b L xs E ad) (hi1 : vp_in (x4 + 1) L) (hi2 : vp_in (x4 + 2) L) (hi3 : vp_in (x4 + 3) L) (hi4 : vp_in (x4 + 4) L) (hi5 : vp_in (x4 + 5) L) (hcs : cells + 1 ≤ room_1.cells ∧ slots + 6 ≤ room_1.slots) (hV : AtW E (lwW E ad σ τ o f) (lwA s) s H locs) (hI : Inv σ τ) (hl : lv_has ls 8 [(0, .ref b), (1, .ref (eA E 0)), (2, .ref (eA (eW E ad) 0)), (3, .ref o), (4, .int x4)]) (kk : LwK p l e s m below meth c b E ad o x4 cells slots Q) : W p l e room_1 s m #[Value.ref b] below meth c H locs cells slots Q (F0 m 1634 ls []) := by
  obtain ⟨cx, hX, hbl, hF, hF2, hN, hT⟩ := D
  have hx := cx.1
  have hb := cx.2.1
  have hbA : ¬ lwA s b := Nat.not_le.mpr hbl
  have hc0 : cells ≤ room_1.cells ∧ slots ≤ room_1.slots := ⟨Nat.le_trans (Nat.le_add_right _ 1) hcs.1, Nat.le_trans (Nat.le_add_right _ 6) hcs.2⟩
  obtain ⟨r, σ2, τ2, hx1, hy1, hI2⟩ := op_sort hI
  refine lv_aload_n hx hb dL_law_1634 rfl (lv_at hl 1 rfl) ?_
  refine k_X9_sort hx1 cx hV mk_3_94 ⟨Nat.le_of_ble_eq_true rfl, Nat.le_of_ble_eq_true rfl⟩ hc0 hl.1 (Nat.le_of_ble_eq_true rfl) dL_law_1635 (fun H locs hV => ?_)
  refine lv_aload_n hx hb dL_law_1638 rfl (lv_at hl 2 rfl) ?_
  refine k_X10_sort hy1 cx (lw_toM hV) mk_8_98 ⟨Nat.le_of_ble_eq_true rfl, Nat.le_of_ble_eq_true rfl⟩ hc0 hl.1 (Nat.le_of_ble_eq_true rfl) dL_law_1639 (fun H locs hV => ?_)
  have hV := lw_ofM hV
  refine lv_icmp_eq (tgt := 2051) hx hb dL_law_1642 (by decide) (fun _ => ?_) (fun q => absurd rfl q)
  refine W.widen (k := cells + 1) (n := slots + 6) (by omega) (by omega) ?_
  exact kk _ _ _ _ _ _ hV hI2 (lv_sub hl [0, 1, 2, 3, 4] rfl)
set_option maxHeartbeats 4000000 in
set_option maxRecDepth 100000 in
theorem lc_off {p : Program} {l : Launch} {e : Env} {s : State} {m : MethodId} {below : List Frame} {meth : Method} {c : Code} {b L : Nat} {xs : Nat → Int32} {E : EV} {ad : Nat → Nat} {σ τ : St} {o : Nat} {f : Nat → Int64} {H : Heap} {locs : List Loc} {ls : Array Slot} {x4 : Int32} {cells slots : Nat} {Q : State → Prop} (D : LwD p l s m c b L xs E ad) (hi1 : vp_in (x4 + 1) L) (hi2 : vp_in (x4 + 2) L) (hi3 : vp_in (x4 + 3) L) (hi4 : vp_in (x4 + 4) L) (hi5 : vp_in (x4 + 5) L) (hcs : cells + 1 ≤ room_1.cells ∧ slots + 6 ≤ room_1.slots) (hV : AtW E (lwW E ad σ τ o f) (lwA s) s H locs) (hI : Inv σ τ) (hl : lv_has ls 8 [(0, .ref b), (1, .ref (eA E 0)), (2, .ref (eA (eW E ad) 0)), (3, .ref o), (4, .int x4)]) (kk : LwK p l e s m below meth c b E ad o x4 cells slots Q) : W p l e room_1 s m #[Value.ref b] below meth c H locs cells slots Q (F0 m 1647 ls []) := by
  obtain ⟨cx, hX, hbl, hF, hF2, hN, hT⟩ := D
  have hx := cx.1
  have hb := cx.2.1
  have hbA : ¬ lwA s b := Nat.not_le.mpr hbl
  have hc0 : cells ≤ room_1.cells ∧ slots ≤ room_1.slots := ⟨Nat.le_trans (Nat.le_add_right _ 1) hcs.1, Nat.le_trans (Nat.le_add_right _ 6) hcs.2⟩
  obtain ⟨r, τ2, hx1, hy1, hI2⟩ := op_off hI
  refine lv_aload_n hx hb dL_law_1647 rfl (lv_at hl 1 rfl) ?_
  refine k_X9_off hx1 cx hV mk_3_112 ⟨Nat.le_of_ble_eq_true rfl, Nat.le_of_ble_eq_true rfl⟩ hc0 hl.1 (Nat.le_of_ble_eq_true rfl) dL_law_1648 (fun H locs hV => ?_)
  refine lv_aload_n hx hb dL_law_1651 rfl (lv_at hl 2 rfl) ?_
  refine k_X10_off hy1 cx (lw_toM hV) mk_8_102 ⟨Nat.le_of_ble_eq_true rfl, Nat.le_of_ble_eq_true rfl⟩ hc0 hl.1 (Nat.le_of_ble_eq_true rfl) dL_law_1652 (fun H locs hV => ?_)
  have hV := lw_ofM hV
  refine lv_icmp_eq (tgt := 2051) hx hb dL_law_1655 (by decide) (fun _ => ?_) (fun q => absurd rfl q)
  refine W.widen (k := cells + 1) (n := slots + 6) (by omega) (by omega) ?_
  exact kk _ _ _ _ _ _ hV hI2 (lv_sub hl [0, 1, 2, 3, 4] rfl)
set_option maxHeartbeats 4000000 in
set_option maxRecDepth 100000 in
theorem lc_often {p : Program} {l : Launch} {e : Env} {s : State} {m : MethodId} {below : List Frame} {meth : Method} {c : Code} {b L : Nat} {xs : Nat → Int32} {E : EV} {ad : Nat → Nat} {σ τ : St} {o : Nat} {f : Nat → Int64} {H : Heap} {locs : List Loc} {ls : Array Slot} {x4 : Int32} {cells slots : Nat} {Q : State → Prop} (D : LwD p l s m c b L xs E ad) (hi1 : vp_in (x4 + 1) L) (hi2 : vp_in (x4 + 2) L) (hi3 : vp_in (x4 + 3) L) (hi4 : vp_in (x4 + 4) L) (hi5 : vp_in (x4 + 5) L) (hcs : cells + 1 ≤ room_1.cells ∧ slots + 6 ≤ room_1.slots) (hV : AtW E (lwW E ad σ τ o f) (lwA s) s H locs) (hI : Inv σ τ) (hl : lv_has ls 8 [(0, .ref b), (1, .ref (eA E 0)), (2, .ref (eA (eW E ad) 0)), (3, .ref o), (4, .int x4)]) (kk : LwK p l e s m below meth c b E ad o x4 cells slots Q) : W p l e room_1 s m #[Value.ref b] below meth c H locs cells slots Q (F0 m 1660 ls []) := by
  obtain ⟨cx, hX, hbl, hF, hF2, hN, hT⟩ := D
  have hx := cx.1
  have hb := cx.2.1
  have hbA : ¬ lwA s b := Nat.not_le.mpr hbl
  have hc0 : cells ≤ room_1.cells ∧ slots ≤ room_1.slots := ⟨Nat.le_trans (Nat.le_add_right _ 1) hcs.1, Nat.le_trans (Nat.le_add_right _ 6) hcs.2⟩
  rcases op_often hI (xs (x4 + 1).toNatClampNeg) (xs (x4 + 2).toNatClampNeg) (xs (x4 + 3).toNatClampNeg) (xs (x4 + 4).toNatClampNeg) with ⟨r, σ2, τ2, hx1, hy1, h0, hI2⟩ | ⟨c9, σ2, r, τ2, hx1, hy1, hc, hI2⟩
  · refine lv_aload_n hx hb dL_law_1660 rfl (lv_at hl 1 rfl) ?_
    refine lv_aload_n hx hb dL_law_1661 rfl (lv_at hl 0 rfl) ?_
    refine lv_iload hx hb dL_law_1662 (lv_at hl 4 rfl) ?_
    refine lv_iconst (v := 1) hx hb dL_law_1664 (by decide) ?_
    refine lv_iadd hx hb dL_law_1665 ?_
    refine va_sld hx hb hX hbl hbA hV.2.2.2.2.1 hi1 dL_law_1666 ?_
    refine lv_aload_n hx hb dL_law_1667 rfl (lv_at hl 0 rfl) ?_
    refine lv_iload hx hb dL_law_1668 (lv_at hl 4 rfl) ?_
    refine lv_iconst (v := 2) hx hb dL_law_1670 (by decide) ?_
    refine lv_iadd hx hb dL_law_1671 ?_
    refine va_sld hx hb hX hbl hbA hV.2.2.2.2.1 hi2 dL_law_1672 ?_
    refine lv_aload_n hx hb dL_law_1673 rfl (lv_at hl 0 rfl) ?_
    refine lv_iload hx hb dL_law_1674 (lv_at hl 4 rfl) ?_
    refine lv_iconst (v := 3) hx hb dL_law_1676 (by decide) ?_
    refine lv_iadd hx hb dL_law_1677 ?_
    refine va_sld hx hb hX hbl hbA hV.2.2.2.2.1 hi3 dL_law_1678 ?_
    refine lv_aload_n hx hb dL_law_1679 rfl (lv_at hl 0 rfl) ?_
    refine lv_iload hx hb dL_law_1680 (lv_at hl 4 rfl) ?_
    refine lv_iconst (v := 4) hx hb dL_law_1682 (by decide) ?_
    refine lv_iadd hx hb dL_law_1683 ?_
    refine va_sld hx hb hX hbl hbA hV.2.2.2.2.1 hi4 dL_law_1684 ?_
    refine lv_aload_n hx hb dL_law_1685 rfl (lv_at hl 3 rfl) ?_
    refine r_stW (n := 6) (As := [.ref (eA E 0), .int (xs (x4 + 1).toNatClampNeg), .int (xs (x4 + 2).toNatClampNeg), .int (xs (x4 + 3).toNatClampNeg), .int (xs (x4 + 4).toNatClampNeg), .ref o]) (w_L_often hx1) lw_fst mk_6_10 mk_1_0 mk_6_11 (by decide +kernel) rfl ⟨rfl, rfl⟩ cx hV hF hN mk_6_9 ⟨Nat.le_of_ble_eq_true rfl, Nat.le_of_ble_eq_true rfl⟩ hc0 hl.1 rfl (Nat.le_of_ble_eq_true rfl) dL_law_1686 (fun H locs hV => ?_)
    refine lv_istore (lv' := [(5, .int 0), (0, .ref b), (1, .ref (eA E 0)), (2, .ref (eA (eW E ad) 0)), (3, .ref o), (4, .int x4)]) hx hb dL_law_1689 hl (by decide) rfl (fun ls hl => ?_)
    refine lv_aload_n hx hb dL_law_1691 rfl (lv_at hl 3 rfl) ?_
    refine lv_aload_n hx hb dL_law_1692 rfl (lv_at hl 1 rfl) ?_
    refine lv_iload hx hb dL_law_1693 (lv_at hl 5 rfl) ?_
    refine lv_iconst (v := 1) hx hb dL_law_1695 (by decide) ?_
    refine lv_iadd hx hb dL_law_1696 ?_
    refine va_sld hx hb hX hbl hbA hV.2.2.2.2.1 hi1 dL_law_1697 ?_
    refine lv_aload_n hx hb dL_law_1698 rfl (lv_at hl 1 rfl) ?_
    refine lv_iload hx hb dL_law_1699 (lv_at hl 5 rfl) ?_
    refine lv_iconst (v := 2) hx hb dL_law_1701 (by decide) ?_
    refine lv_iadd hx hb dL_law_1702 ?_
    refine va_sld hx hb hX hbl hbA hV.2.2.2.2.1 hi2 dL_law_1703 ?_
    refine lv_aload_n hx hb dL_law_1704 rfl (lv_at hl 1 rfl) ?_
    refine lv_iload hx hb dL_law_1705 (lv_at hl 5 rfl) ?_
    refine lv_iconst (v := 3) hx hb dL_law_1707 (by decide) ?_
    refine lv_iadd hx hb dL_law_1708 ?_
    refine va_sld hx hb hX hbl hbA hV.2.2.2.2.1 hi3 dL_law_1709 ?_
    refine lv_aload_n hx hb dL_law_1710 rfl (lv_at hl 1 rfl) ?_
    refine lv_iload hx hb dL_law_1711 (lv_at hl 5 rfl) ?_
    refine lv_iconst (v := 4) hx hb dL_law_1713 (by decide) ?_
    refine lv_iadd hx hb dL_law_1714 ?_
    refine va_sld hx hb hX hbl hbA hV.2.2.2.2.1 hi4 dL_law_1715 ?_
    refine k_X10_often hy1 cx (lw_toM hV) mk_8_106 ⟨Nat.le_of_ble_eq_true rfl, Nat.le_of_ble_eq_true rfl⟩ hc0 hl.1 (Nat.le_of_ble_eq_true rfl) dL_law_1716 (fun H locs hV => ?_)
    have hV := lw_ofM hV
    refine lv_istore (lv' := [(6, .int r), (5, .int 0), (0, .ref b), (1, .ref (eA E 0)), (2, .ref (eA (eW E ad) 0)), (3, .ref o), (4, .int x4)]) hx hb dL_law_1719 hl (by decide) rfl (fun ls hl => ?_)
    refine lv_aload_n hx hb dL_law_1721 rfl (lv_at hl 4 rfl) ?_
    refine k_X10_thrown (rv := 0) (show x_X10_thrown _ = some 0 from congrArg some h0) cx (lw_toM hV) mk_6_75 ⟨Nat.le_of_ble_eq_true rfl, Nat.le_of_ble_eq_true rfl⟩ hc0 hl.1 (Nat.le_of_ble_eq_true rfl) dL_law_1722 (fun H locs hV => ?_)
    have hV := lw_ofM hV
    refine lv_iload hx hb dL_law_1725 (lv_at hl 1 rfl) ?_
    refine lv_icmp_eq (tgt := 1732) hx hb dL_law_1727 (by decide) (fun _ => ?_) (fun q => absurd rfl q)
    refine lv_iload hx hb dL_law_1732 (lv_at hl 1 rfl) ?_
    refine lv_if_ne (tgt := 1749) hx hb dL_law_1734 (by decide) (fun q => absurd rfl q) (fun _ => ?_)
    refine lv_aload_n hx hb dL_law_1737 rfl (lv_at hl 5 rfl) ?_
    refine lv_iconst (v := 0) hx hb dL_law_1738 (by decide) ?_
    refine r_lald cx hV 115 rfl (n := 1) (by unfold vp_in; decide) dL_law_1739 ?_
    rw [lw_upd0]
    refine lv_iload hx hb dL_law_1740 (lv_at hl 0 rfl) ?_
    refine lv_i2l (v := Int32.toInt64 r) hx hb dL_law_1742 rfl ?_
    refine W.lcmp hx hb dL_law_1743 ?_
    rw [lw_cmp0]
    refine lv_if_eq (tgt := 1749) hx hb dL_law_1744 (by decide) (fun _ => ?_) (fun q => absurd rfl q)
    refine lv_goto (tgt := 2051) hx hb dL_law_1749 (by decide) ?_
    refine W.widen (k := cells + 1) (n := slots + 6) (by omega) (by omega) ?_
    exact kk _ _ _ _ _ _ hV hI2 (lv_sub hl [2, 3, 4, 5, 6] rfl)
  · simp only [List.mem_cons, Prod.mk.injEq, List.not_mem_nil, or_false] at hc
    obtain ⟨rfl, h0⟩ := hc
    refine lv_aload_n hx hb dL_law_1660 rfl (lv_at hl 1 rfl) ?_
    refine lv_aload_n hx hb dL_law_1661 rfl (lv_at hl 0 rfl) ?_
    refine lv_iload hx hb dL_law_1662 (lv_at hl 4 rfl) ?_
    refine lv_iconst (v := 1) hx hb dL_law_1664 (by decide) ?_
    refine lv_iadd hx hb dL_law_1665 ?_
    refine va_sld hx hb hX hbl hbA hV.2.2.2.2.1 hi1 dL_law_1666 ?_
    refine lv_aload_n hx hb dL_law_1667 rfl (lv_at hl 0 rfl) ?_
    refine lv_iload hx hb dL_law_1668 (lv_at hl 4 rfl) ?_
    refine lv_iconst (v := 2) hx hb dL_law_1670 (by decide) ?_
    refine lv_iadd hx hb dL_law_1671 ?_
    refine va_sld hx hb hX hbl hbA hV.2.2.2.2.1 hi2 dL_law_1672 ?_
    refine lv_aload_n hx hb dL_law_1673 rfl (lv_at hl 0 rfl) ?_
    refine lv_iload hx hb dL_law_1674 (lv_at hl 4 rfl) ?_
    refine lv_iconst (v := 3) hx hb dL_law_1676 (by decide) ?_
    refine lv_iadd hx hb dL_law_1677 ?_
    refine va_sld hx hb hX hbl hbA hV.2.2.2.2.1 hi3 dL_law_1678 ?_
    refine lv_aload_n hx hb dL_law_1679 rfl (lv_at hl 0 rfl) ?_
    refine lv_iload hx hb dL_law_1680 (lv_at hl 4 rfl) ?_
    refine lv_iconst (v := 4) hx hb dL_law_1682 (by decide) ?_
    refine lv_iadd hx hb dL_law_1683 ?_
    refine va_sld hx hb hX hbl hbA hV.2.2.2.2.1 hi4 dL_law_1684 ?_
    refine lv_aload_n hx hb dL_law_1685 rfl (lv_at hl 3 rfl) ?_
    refine r_stW (n := 6) (As := [.ref (eA E 0), .int (xs (x4 + 1).toNatClampNeg), .int (xs (x4 + 2).toNatClampNeg), .int (xs (x4 + 3).toNatClampNeg), .int (xs (x4 + 4).toNatClampNeg), .ref o]) (wt_L_often_3 hT hx1) lw_fst mk_6_10 mk_1_0 mk_6_11 (by decide +kernel) rfl ⟨rfl, rfl⟩ cx hV hF hN mk_6_9 ⟨Nat.le_of_ble_eq_true rfl, Nat.le_of_ble_eq_true rfl⟩ hcs hl.1 rfl (Nat.le_of_ble_eq_true rfl) dL_law_1686 (fun H locs hV => ?_)
    refine lv_istore (lv' := [(5, .int 1), (0, .ref b), (1, .ref (eA E 0)), (2, .ref (eA (eW E ad) 0)), (3, .ref o), (4, .int x4)]) hx hb dL_law_1689 hl (by decide) rfl (fun ls hl => ?_)
    refine lv_aload_n hx hb dL_law_1691 rfl (lv_at hl 3 rfl) ?_
    refine lv_aload_n hx hb dL_law_1692 rfl (lv_at hl 1 rfl) ?_
    refine lv_iload hx hb dL_law_1693 (lv_at hl 5 rfl) ?_
    refine lv_iconst (v := 1) hx hb dL_law_1695 (by decide) ?_
    refine lv_iadd hx hb dL_law_1696 ?_
    refine va_sld hx hb hX hbl hbA hV.2.2.2.2.1 hi1 dL_law_1697 ?_
    refine lv_aload_n hx hb dL_law_1698 rfl (lv_at hl 1 rfl) ?_
    refine lv_iload hx hb dL_law_1699 (lv_at hl 5 rfl) ?_
    refine lv_iconst (v := 2) hx hb dL_law_1701 (by decide) ?_
    refine lv_iadd hx hb dL_law_1702 ?_
    refine va_sld hx hb hX hbl hbA hV.2.2.2.2.1 hi2 dL_law_1703 ?_
    refine lv_aload_n hx hb dL_law_1704 rfl (lv_at hl 1 rfl) ?_
    refine lv_iload hx hb dL_law_1705 (lv_at hl 5 rfl) ?_
    refine lv_iconst (v := 3) hx hb dL_law_1707 (by decide) ?_
    refine lv_iadd hx hb dL_law_1708 ?_
    refine va_sld hx hb hX hbl hbA hV.2.2.2.2.1 hi3 dL_law_1709 ?_
    refine lv_aload_n hx hb dL_law_1710 rfl (lv_at hl 1 rfl) ?_
    refine lv_iload hx hb dL_law_1711 (lv_at hl 5 rfl) ?_
    refine lv_iconst (v := 4) hx hb dL_law_1713 (by decide) ?_
    refine lv_iadd hx hb dL_law_1714 ?_
    refine va_sld hx hb hX hbl hbA hV.2.2.2.2.1 hi4 dL_law_1715 ?_
    refine k_X10_often hy1 cx (lw_toM hV) mk_8_106 ⟨Nat.le_of_ble_eq_true rfl, Nat.le_of_ble_eq_true rfl⟩ hcs hl.1 (Nat.le_of_ble_eq_true rfl) dL_law_1716 (fun H locs hV => ?_)
    have hV := lw_ofM hV
    refine lv_istore (lv' := [(6, .int r), (5, .int 1), (0, .ref b), (1, .ref (eA E 0)), (2, .ref (eA (eW E ad) 0)), (3, .ref o), (4, .int x4)]) hx hb dL_law_1719 hl (by decide) rfl (fun ls hl => ?_)
    refine lv_aload_n hx hb dL_law_1721 rfl (lv_at hl 4 rfl) ?_
    refine k_X10_thrown (rv := 1) (show x_X10_thrown _ = some 1 from congrArg some h0) cx (lw_toM hV) mk_6_75 ⟨Nat.le_of_ble_eq_true rfl, Nat.le_of_ble_eq_true rfl⟩ hcs hl.1 (Nat.le_of_ble_eq_true rfl) dL_law_1722 (fun H locs hV => ?_)
    have hV := lw_ofM hV
    refine lv_iload hx hb dL_law_1725 (lv_at hl 1 rfl) ?_
    refine lv_icmp_eq (tgt := 1732) hx hb dL_law_1727 (by decide) (fun _ => ?_) (fun q => absurd rfl q)
    refine lv_iload hx hb dL_law_1732 (lv_at hl 1 rfl) ?_
    refine lv_if_ne (tgt := 1749) hx hb dL_law_1734 (by decide) (fun _ => ?_) (fun q => absurd q (by decide))
    refine lv_goto (tgt := 2051) hx hb dL_law_1749 (by decide) ?_
    refine W.widen (k := cells + 1) (n := slots + 6) (by omega) (by omega) ?_
    exact kk _ _ _ _ _ _ hV hI2 (lv_sub hl [2, 3, 4, 5, 6] rfl)
set_option maxHeartbeats 4000000 in
set_option maxRecDepth 100000 in
theorem lc_changes {p : Program} {l : Launch} {e : Env} {s : State} {m : MethodId} {below : List Frame} {meth : Method} {c : Code} {b L : Nat} {xs : Nat → Int32} {E : EV} {ad : Nat → Nat} {σ τ : St} {o : Nat} {f : Nat → Int64} {H : Heap} {locs : List Loc} {ls : Array Slot} {x4 : Int32} {cells slots : Nat} {Q : State → Prop} (D : LwD p l s m c b L xs E ad) (hi1 : vp_in (x4 + 1) L) (hi2 : vp_in (x4 + 2) L) (hi3 : vp_in (x4 + 3) L) (hi4 : vp_in (x4 + 4) L) (hi5 : vp_in (x4 + 5) L) (hcs : cells + 1 ≤ room_1.cells ∧ slots + 6 ≤ room_1.slots) (hV : AtW E (lwW E ad σ τ o f) (lwA s) s H locs) (hI : Inv σ τ) (hl : lv_has ls 8 [(0, .ref b), (1, .ref (eA E 0)), (2, .ref (eA (eW E ad) 0)), (3, .ref o), (4, .int x4)]) (kk : LwK p l e s m below meth c b E ad o x4 cells slots Q) : W p l e room_1 s m #[Value.ref b] below meth c H locs cells slots Q (F0 m 1752 ls []) := by
  obtain ⟨cx, hX, hbl, hF, hF2, hN, hT⟩ := D
  have hx := cx.1
  have hb := cx.2.1
  have hbA : ¬ lwA s b := Nat.not_le.mpr hbl
  have hc0 : cells ≤ room_1.cells ∧ slots ≤ room_1.slots := ⟨Nat.le_trans (Nat.le_add_right _ 1) hcs.1, Nat.le_trans (Nat.le_add_right _ 6) hcs.2⟩
  obtain ⟨r, σ2, τ2, hx1, hy1, hI2⟩ := op_changes hI
  refine lv_aload_n hx hb dL_law_1752 rfl (lv_at hl 1 rfl) ?_
  refine k_X9_changes hx1 cx hV mk_3_121 ⟨Nat.le_of_ble_eq_true rfl, Nat.le_of_ble_eq_true rfl⟩ hc0 hl.1 (Nat.le_of_ble_eq_true rfl) dL_law_1753 (fun H locs hV => ?_)
  refine lv_aload_n hx hb dL_law_1756 rfl (lv_at hl 2 rfl) ?_
  refine k_X10_changes hy1 cx (lw_toM hV) mk_8_113 ⟨Nat.le_of_ble_eq_true rfl, Nat.le_of_ble_eq_true rfl⟩ hc0 hl.1 (Nat.le_of_ble_eq_true rfl) dL_law_1757 (fun H locs hV => ?_)
  have hV := lw_ofM hV
  refine lv_icmp_eq (tgt := 2051) hx hb dL_law_1760 (by decide) (fun _ => ?_) (fun q => absurd rfl q)
  refine W.widen (k := cells + 1) (n := slots + 6) (by omega) (by omega) ?_
  exact kk _ _ _ _ _ _ hV hI2 (lv_sub hl [0, 1, 2, 3, 4] rfl)
set_option maxHeartbeats 4000000 in
set_option maxRecDepth 100000 in
theorem lc_changed {p : Program} {l : Launch} {e : Env} {s : State} {m : MethodId} {below : List Frame} {meth : Method} {c : Code} {b L : Nat} {xs : Nat → Int32} {E : EV} {ad : Nat → Nat} {σ τ : St} {o : Nat} {f : Nat → Int64} {H : Heap} {locs : List Loc} {ls : Array Slot} {x4 : Int32} {cells slots : Nat} {Q : State → Prop} (D : LwD p l s m c b L xs E ad) (hi1 : vp_in (x4 + 1) L) (hi2 : vp_in (x4 + 2) L) (hi3 : vp_in (x4 + 3) L) (hi4 : vp_in (x4 + 4) L) (hi5 : vp_in (x4 + 5) L) (hcs : cells + 1 ≤ room_1.cells ∧ slots + 6 ≤ room_1.slots) (hV : AtW E (lwW E ad σ τ o f) (lwA s) s H locs) (hI : Inv σ τ) (hl : lv_has ls 8 [(0, .ref b), (1, .ref (eA E 0)), (2, .ref (eA (eW E ad) 0)), (3, .ref o), (4, .int x4)]) (kk : LwK p l e s m below meth c b E ad o x4 cells slots Q) : W p l e room_1 s m #[Value.ref b] below meth c H locs cells slots Q (F0 m 1765 ls []) := by
  obtain ⟨cx, hX, hbl, hF, hF2, hN, hT⟩ := D
  have hx := cx.1
  have hb := cx.2.1
  have hbA : ¬ lwA s b := Nat.not_le.mpr hbl
  have hc0 : cells ≤ room_1.cells ∧ slots ≤ room_1.slots := ⟨Nat.le_trans (Nat.le_add_right _ 1) hcs.1, Nat.le_trans (Nat.le_add_right _ 6) hcs.2⟩
  obtain ⟨r, σ2, τ2, hx1, hy1, hI2⟩ := op_changed hI (xs (x4 + 1).toNatClampNeg)
  refine lv_aload_n hx hb dL_law_1765 rfl (lv_at hl 1 rfl) ?_
  refine lv_aload_n hx hb dL_law_1766 rfl (lv_at hl 0 rfl) ?_
  refine lv_iload hx hb dL_law_1767 (lv_at hl 4 rfl) ?_
  refine lv_iconst (v := 1) hx hb dL_law_1769 (by decide) ?_
  refine lv_iadd hx hb dL_law_1770 ?_
  refine va_sld hx hb hX hbl hbA hV.2.2.2.2.1 hi1 dL_law_1771 ?_
  refine k_X9_changed hx1 cx hV mk_3_137 ⟨Nat.le_of_ble_eq_true rfl, Nat.le_of_ble_eq_true rfl⟩ hc0 hl.1 (Nat.le_of_ble_eq_true rfl) dL_law_1772 (fun H locs hV => ?_)
  refine lv_aload_n hx hb dL_law_1775 rfl (lv_at hl 2 rfl) ?_
  refine lv_aload_n hx hb dL_law_1776 rfl (lv_at hl 0 rfl) ?_
  refine lv_iload hx hb dL_law_1777 (lv_at hl 4 rfl) ?_
  refine lv_iconst (v := 1) hx hb dL_law_1779 (by decide) ?_
  refine lv_iadd hx hb dL_law_1780 ?_
  refine va_sld hx hb hX hbl hbA hV.2.2.2.2.1 hi1 dL_law_1781 ?_
  refine k_X10_changed hy1 cx (lw_toM hV) mk_8_121 ⟨Nat.le_of_ble_eq_true rfl, Nat.le_of_ble_eq_true rfl⟩ hc0 hl.1 (Nat.le_of_ble_eq_true rfl) dL_law_1782 (fun H locs hV => ?_)
  have hV := lw_ofM hV
  refine lv_icmp_eq (tgt := 2051) hx hb dL_law_1785 (by decide) (fun _ => ?_) (fun q => absurd rfl q)
  refine W.widen (k := cells + 1) (n := slots + 6) (by omega) (by omega) ?_
  exact kk _ _ _ _ _ _ hV hI2 (lv_sub hl [0, 1, 2, 3, 4] rfl)
