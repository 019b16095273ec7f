set_option maxHeartbeats 4000000 in
set_option maxRecDepth 100000 in
theorem lc_feed {p : Program} {l : Launch} {e : Env} {s : State} {m : MethodId} {below : List Frame} {meth : Method} {c : Code} {b L : Nat} {xs : Nat → Int32} {E : EV} {ad : Nat → Nat} {σ τ : St} {o : Nat} {f : Nat → Int64} {H : Heap} {locs : List Loc} {ls : Array Slot} {x4 : Int32} {cells slots : Nat} {Q : State → Prop} (D : LwD p l s m c b L xs E ad) (hi1 : vp_in (x4 + 1) L) (hi2 : vp_in (x4 + 2) L) (hi3 : vp_in (x4 + 3) L) (hi4 : vp_in (x4 + 4) L) (hi5 : vp_in (x4 + 5) L) (hcs : cells + 1 ≤ room_1.cells ∧ slots + 6 ≤ room_1.slots) (hV : AtW E (lwW E ad σ τ o f) (lwA s) s H locs) (hI : Inv σ τ) (hl : lv_has ls 8 [(0, .ref b), (1, .ref (eA E 0)), (2, .ref (eA (eW E ad) 0)), (3, .ref o), (4, .int x4)]) (kk : LwK p l e s m below meth c b E ad o x4 cells slots Q) : W p l e room_1 s m #[Value.ref b] below meth c H locs cells slots Q (F0 m 196 ls []) := by
  obtain ⟨cx, hX, hbl, hF, hF2, hN, hT⟩ := D
  have hx := cx.1
  have hb := cx.2.1
  have hbA : ¬ lwA s b := Nat.not_le.mpr hbl
  have hc0 : cells ≤ room_1.cells ∧ slots ≤ room_1.slots := ⟨Nat.le_trans (Nat.le_add_right _ 1) hcs.1, Nat.le_trans (Nat.le_add_right _ 6) hcs.2⟩
  obtain ⟨r, σ2, τ2, hx1, hy1, hI2⟩ := op_feed hI (xs (x4 + 1).toNatClampNeg) (xs (x4 + 2).toNatClampNeg) (xs (x4 + 3).toNatClampNeg) (xs (x4 + 4).toNatClampNeg) (xs (x4 + 5).toNatClampNeg)
  refine lv_aload_n hx hb dL_law_196 rfl (lv_at hl 1 rfl) ?_
  refine lv_aload_n hx hb dL_law_197 rfl (lv_at hl 0 rfl) ?_
  refine lv_iload hx hb dL_law_198 (lv_at hl 4 rfl) ?_
  refine lv_iconst (v := 1) hx hb dL_law_200 (by decide) ?_
  refine lv_iadd hx hb dL_law_201 ?_
  refine va_sld hx hb hX hbl hbA hV.2.2.2.2.1 hi1 dL_law_202 ?_
  refine lv_aload_n hx hb dL_law_203 rfl (lv_at hl 0 rfl) ?_
  refine lv_iload hx hb dL_law_204 (lv_at hl 4 rfl) ?_
  refine lv_iconst (v := 2) hx hb dL_law_206 (by decide) ?_
  refine lv_iadd hx hb dL_law_207 ?_
  refine va_sld hx hb hX hbl hbA hV.2.2.2.2.1 hi2 dL_law_208 ?_
  refine lv_aload_n hx hb dL_law_209 rfl (lv_at hl 0 rfl) ?_
  refine lv_iload hx hb dL_law_210 (lv_at hl 4 rfl) ?_
  refine lv_iconst (v := 3) hx hb dL_law_212 (by decide) ?_
  refine lv_iadd hx hb dL_law_213 ?_
  refine va_sld hx hb hX hbl hbA hV.2.2.2.2.1 hi3 dL_law_214 ?_
  refine lv_aload_n hx hb dL_law_215 rfl (lv_at hl 0 rfl) ?_
  refine lv_iload hx hb dL_law_216 (lv_at hl 4 rfl) ?_
  refine lv_iconst (v := 4) hx hb dL_law_218 (by decide) ?_
  refine lv_iadd hx hb dL_law_219 ?_
  refine va_sld hx hb hX hbl hbA hV.2.2.2.2.1 hi4 dL_law_220 ?_
  refine lv_aload_n hx hb dL_law_221 rfl (lv_at hl 0 rfl) ?_
  refine lv_iload hx hb dL_law_222 (lv_at hl 4 rfl) ?_
  refine lv_iconst (v := 5) hx hb dL_law_224 (by decide) ?_
  refine lv_iadd hx hb dL_law_225 ?_
  refine va_sld hx hb hX hbl hbA hV.2.2.2.2.1 hi5 dL_law_226 ?_
  refine k_X9_feed hx1 cx hV mk_2_181 ⟨Nat.le_of_ble_eq_true rfl, Nat.le_of_ble_eq_true rfl⟩ hc0 hl.1 (Nat.le_of_ble_eq_true rfl) dL_law_227 (fun H locs hV => ?_)
  refine lv_aload_n hx hb dL_law_230 rfl (lv_at hl 2 rfl) ?_
  refine lv_aload_n hx hb dL_law_231 rfl (lv_at hl 0 rfl) ?_
  refine lv_iload hx hb dL_law_232 (lv_at hl 4 rfl) ?_
  refine lv_iconst (v := 1) hx hb dL_law_234 (by decide) ?_
  refine lv_iadd hx hb dL_law_235 ?_
  refine va_sld hx hb hX hbl hbA hV.2.2.2.2.1 hi1 dL_law_236 ?_
  refine lv_aload_n hx hb dL_law_237 rfl (lv_at hl 0 rfl) ?_
  refine lv_iload hx hb dL_law_238 (lv_at hl 4 rfl) ?_
  refine lv_iconst (v := 2) hx hb dL_law_240 (by decide) ?_
  refine lv_iadd hx hb dL_law_241 ?_
  refine va_sld hx hb hX hbl hbA hV.2.2.2.2.1 hi2 dL_law_242 ?_
  refine lv_aload_n hx hb dL_law_243 rfl (lv_at hl 0 rfl) ?_
  refine lv_iload hx hb dL_law_244 (lv_at hl 4 rfl) ?_
  refine lv_iconst (v := 3) hx hb dL_law_246 (by decide) ?_
  refine lv_iadd hx hb dL_law_247 ?_
  refine va_sld hx hb hX hbl hbA hV.2.2.2.2.1 hi3 dL_law_248 ?_
  refine lv_aload_n hx hb dL_law_249 rfl (lv_at hl 0 rfl) ?_
  refine lv_iload hx hb dL_law_250 (lv_at hl 4 rfl) ?_
  refine lv_iconst (v := 4) hx hb dL_law_252 (by decide) ?_
  refine lv_iadd hx hb dL_law_253 ?_
  refine va_sld hx hb hX hbl hbA hV.2.2.2.2.1 hi4 dL_law_254 ?_
  refine lv_aload_n hx hb dL_law_255 rfl (lv_at hl 0 rfl) ?_
  refine lv_iload hx hb dL_law_256 (lv_at hl 4 rfl) ?_
  refine lv_iconst (v := 5) hx hb dL_law_258 (by decide) ?_
  refine lv_iadd hx hb dL_law_259 ?_
  refine va_sld hx hb hX hbl hbA hV.2.2.2.2.1 hi5 dL_law_260 ?_
  refine k_X10_feed hy1 cx (lw_toM hV) mk_7_50 ⟨Nat.le_of_ble_eq_true rfl, Nat.le_of_ble_eq_true rfl⟩ hc0 hl.1 (Nat.le_of_ble_eq_true rfl) dL_law_261 (fun H locs hV => ?_)
  have hV := lw_ofM hV
  refine lv_icmp_eq (tgt := 2051) hx hb dL_law_264 (by decide) (fun _ => ?_) (fun q => absurd rfl q)
  refine W.widen (k := cells + 1) (n := slots + 6) (by omega) (by omega) ?_
  exact kk _ _ _ _ _ _ hV hI2 (lv_sub hl [0, 1, 2, 3, 4] rfl)
set_option maxHeartbeats 4000000 in
set_option maxRecDepth 100000 in
theorem lc_shop {p : Program} {l : Launch} {e : Env} {s : State} {m : MethodId} {below : List Frame} {meth : Method} {c : Code} {b L : Nat} {xs : Nat → Int32} {E : EV} {ad : Nat → Nat} {σ τ : St} {o : Nat} {f : Nat → Int64} {H : Heap} {locs : List Loc} {ls : Array Slot} {x4 : Int32} {cells slots : Nat} {Q : State → Prop} (D : LwD p l s m c b L xs E ad) (hi1 : vp_in (x4 + 1) L) (hi2 : vp_in (x4 + 2) L) (hi3 : vp_in (x4 + 3) L) (hi4 : vp_in (x4 + 4) L) (hi5 : vp_in (x4 + 5) L) (hcs : cells + 1 ≤ room_1.cells ∧ slots + 6 ≤ room_1.slots) (hV : AtW E (lwW E ad σ τ o f) (lwA s) s H locs) (hI : Inv σ τ) (hl : lv_has ls 8 [(0, .ref b), (1, .ref (eA E 0)), (2, .ref (eA (eW E ad) 0)), (3, .ref o), (4, .int x4)]) (kk : LwK p l e s m below meth c b E ad o x4 cells slots Q) : W p l e room_1 s m #[Value.ref b] below meth c H locs cells slots Q (F0 m 269 ls []) := by
  obtain ⟨cx, hX, hbl, hF, hF2, hN, hT⟩ := D
  have hx := cx.1
  have hb := cx.2.1
  have hbA : ¬ lwA s b := Nat.not_le.mpr hbl
  have hc0 : cells ≤ room_1.cells ∧ slots ≤ room_1.slots := ⟨Nat.le_trans (Nat.le_add_right _ 1) hcs.1, Nat.le_trans (Nat.le_add_right _ 6) hcs.2⟩
  rcases op_shop hI (xs (x4 + 1).toNatClampNeg) with ⟨r, σ2, τ2, hx1, hy1, h0, hI2⟩ | ⟨c9, σ2, r, τ2, hx1, hy1, hc, hI2⟩
  · refine lv_aload_n hx hb dL_law_269 rfl (lv_at hl 1 rfl) ?_
    refine lv_aload_n hx hb dL_law_270 rfl (lv_at hl 0 rfl) ?_
    refine lv_iload hx hb dL_law_271 (lv_at hl 4 rfl) ?_
    refine lv_iconst (v := 1) hx hb dL_law_273 (by decide) ?_
    refine lv_iadd hx hb dL_law_274 ?_
    refine va_sld hx hb hX hbl hbA hV.2.2.2.2.1 hi1 dL_law_275 ?_
    refine lv_aload_n hx hb dL_law_276 rfl (lv_at hl 3 rfl) ?_
    refine r_stW (n := 3) (As := [.ref (eA E 0), .int (xs (x4 + 1).toNatClampNeg), .ref o]) (w_L_shop hx1) lw_fst mk_3_171 mk_1_0 mk_3_172 (by decide +kernel) rfl ⟨rfl, rfl⟩ cx hV hF hN mk_3_170 ⟨Nat.le_of_ble_eq_true rfl, Nat.le_of_ble_eq_true rfl⟩ hc0 hl.1 rfl (Nat.le_of_ble_eq_true rfl) dL_law_277 (fun H locs hV => ?_)
    refine lv_istore (lv' := [(5, .int 0), (0, .ref b), (1, .ref (eA E 0)), (2, .ref (eA (eW E ad) 0)), (3, .ref o), (4, .int x4)]) hx hb dL_law_280 hl (by decide) rfl (fun ls hl => ?_)
    refine lv_aload_n hx hb dL_law_282 rfl (lv_at hl 3 rfl) ?_
    refine lv_aload_n hx hb dL_law_283 rfl (lv_at hl 1 rfl) ?_
    refine lv_iload hx hb dL_law_284 (lv_at hl 5 rfl) ?_
    refine lv_iconst (v := 1) hx hb dL_law_286 (by decide) ?_
    refine lv_iadd hx hb dL_law_287 ?_
    refine va_sld hx hb hX hbl hbA hV.2.2.2.2.1 hi1 dL_law_288 ?_
    refine k_X10_shop hy1 cx (lw_toM hV) hF2 mk_7_58 ⟨Nat.le_of_ble_eq_true rfl, Nat.le_of_ble_eq_true rfl⟩ hc0 hl.1 (Nat.le_of_ble_eq_true rfl) dL_law_289 (fun H locs hV => ?_)
    have hV := lw_ofM hV
    refine lv_istore (lv' := [(6, .int r), (5, .int 0), (0, .ref b), (1, .ref (eA E 0)), (2, .ref (eA (eW E ad) 0)), (3, .ref o), (4, .int x4)]) hx hb dL_law_292 hl (by decide) rfl (fun ls hl => ?_)
    refine lv_aload_n hx hb dL_law_294 rfl (lv_at hl 4 rfl) ?_
    refine k_X10_thrown (rv := 0) (show x_X10_thrown _ = some 0 from congrArg some h0) cx (lw_toM hV) mk_6_75 ⟨Nat.le_of_ble_eq_true rfl, Nat.le_of_ble_eq_true rfl⟩ hc0 hl.1 (Nat.le_of_ble_eq_true rfl) dL_law_295 (fun H locs hV => ?_)
    have hV := lw_ofM hV
    refine lv_iload hx hb dL_law_298 (lv_at hl 1 rfl) ?_
    refine lv_icmp_eq (tgt := 305) hx hb dL_law_300 (by decide) (fun _ => ?_) (fun q => absurd rfl q)
    refine lv_iload hx hb dL_law_305 (lv_at hl 1 rfl) ?_
    refine lv_if_ne (tgt := 322) hx hb dL_law_307 (by decide) (fun q => absurd rfl q) (fun _ => ?_)
    refine lv_aload_n hx hb dL_law_310 rfl (lv_at hl 5 rfl) ?_
    refine lv_iconst (v := 0) hx hb dL_law_311 (by decide) ?_
    refine r_lald cx hV 115 rfl (n := 1) (by unfold vp_in; decide) dL_law_312 ?_
    rw [lw_upd0]
    refine lv_iload hx hb dL_law_313 (lv_at hl 0 rfl) ?_
    refine lv_i2l (v := Int32.toInt64 r) hx hb dL_law_315 rfl ?_
    refine W.lcmp hx hb dL_law_316 ?_
    rw [lw_cmp0]
    refine lv_if_eq (tgt := 322) hx hb dL_law_317 (by decide) (fun _ => ?_) (fun q => absurd rfl q)
    refine lv_goto (tgt := 2051) hx hb dL_law_322 (by decide) ?_
    refine W.widen (k := cells + 1) (n := slots + 6) (by omega) (by omega) ?_
    exact kk _ _ _ _ _ _ hV hI2 (lv_sub hl [2, 3, 4, 5, 6] rfl)
  · simp only [List.mem_cons, Prod.mk.injEq, List.not_mem_nil, or_false] at hc
    obtain ⟨rfl, h0⟩ := hc
    refine lv_aload_n hx hb dL_law_269 rfl (lv_at hl 1 rfl) ?_
    refine lv_aload_n hx hb dL_law_270 rfl (lv_at hl 0 rfl) ?_
    refine lv_iload hx hb dL_law_271 (lv_at hl 4 rfl) ?_
    refine lv_iconst (v := 1) hx hb dL_law_273 (by decide) ?_
    refine lv_iadd hx hb dL_law_274 ?_
    refine va_sld hx hb hX hbl hbA hV.2.2.2.2.1 hi1 dL_law_275 ?_
    refine lv_aload_n hx hb dL_law_276 rfl (lv_at hl 3 rfl) ?_
    refine r_stW (n := 3) (As := [.ref (eA E 0), .int (xs (x4 + 1).toNatClampNeg), .ref o]) (wt_L_shop_3 hT hx1) lw_fst mk_3_171 mk_1_0 mk_3_172 (by decide +kernel) rfl ⟨rfl, rfl⟩ cx hV hF hN mk_3_170 ⟨Nat.le_of_ble_eq_true rfl, Nat.le_of_ble_eq_true rfl⟩ hcs hl.1 rfl (Nat.le_of_ble_eq_true rfl) dL_law_277 (fun H locs hV => ?_)
    refine lv_istore (lv' := [(5, .int 1), (0, .ref b), (1, .ref (eA E 0)), (2, .ref (eA (eW E ad) 0)), (3, .ref o), (4, .int x4)]) hx hb dL_law_280 hl (by decide) rfl (fun ls hl => ?_)
    refine lv_aload_n hx hb dL_law_282 rfl (lv_at hl 3 rfl) ?_
    refine lv_aload_n hx hb dL_law_283 rfl (lv_at hl 1 rfl) ?_
    refine lv_iload hx hb dL_law_284 (lv_at hl 5 rfl) ?_
    refine lv_iconst (v := 1) hx hb dL_law_286 (by decide) ?_
    refine lv_iadd hx hb dL_law_287 ?_
    refine va_sld hx hb hX hbl hbA hV.2.2.2.2.1 hi1 dL_law_288 ?_
    refine k_X10_shop hy1 cx (lw_toM hV) hF2 mk_7_58 ⟨Nat.le_of_ble_eq_true rfl, Nat.le_of_ble_eq_true rfl⟩ hcs hl.1 (Nat.le_of_ble_eq_true rfl) dL_law_289 (fun H locs hV => ?_)
    have hV := lw_ofM hV
    refine lv_istore (lv' := [(6, .int r), (5, .int 1), (0, .ref b), (1, .ref (eA E 0)), (2, .ref (eA (eW E ad) 0)), (3, .ref o), (4, .int x4)]) hx hb dL_law_292 hl (by decide) rfl (fun ls hl => ?_)
    refine lv_aload_n hx hb dL_law_294 rfl (lv_at hl 4 rfl) ?_
    refine k_X10_thrown (rv := 1) (show x_X10_thrown _ = some 1 from congrArg some h0) cx (lw_toM hV) mk_6_75 ⟨Nat.le_of_ble_eq_true rfl, Nat.le_of_ble_eq_true rfl⟩ hcs hl.1 (Nat.le_of_ble_eq_true rfl) dL_law_295 (fun H locs hV => ?_)
    have hV := lw_ofM hV
    refine lv_iload hx hb dL_law_298 (lv_at hl 1 rfl) ?_
    refine lv_icmp_eq (tgt := 305) hx hb dL_law_300 (by decide) (fun _ => ?_) (fun q => absurd rfl q)
    refine lv_iload hx hb dL_law_305 (lv_at hl 1 rfl) ?_
    refine lv_if_ne (tgt := 322) hx hb dL_law_307 (by decide) (fun _ => ?_) (fun q => absurd q (by decide))
    refine lv_goto (tgt := 2051) hx hb dL_law_322 (by decide) ?_
    refine W.widen (k := cells + 1) (n := slots + 6) (by omega) (by omega) ?_
    exact kk _ _ _ _ _ _ hV hI2 (lv_sub hl [2, 3, 4, 5, 6] rfl)
set_option maxHeartbeats 4000000 in
set_option maxRecDepth 100000 in
theorem lc_fault {p : Program} {l : Launch} {e : Env} {s : State} {m : MethodId} {below : List Frame} {meth : Method} {c : Code} {b L : Nat} {xs : Nat → Int32} {E : EV} {ad : Nat → Nat} {σ τ : St} {o : Nat} {f : Nat → Int64} {H : Heap} {locs : List Loc} {ls : Array Slot} {x4 : Int32} {cells slots : Nat} {Q : State → Prop} (D : LwD p l s m c b L xs E ad) (hi1 : vp_in (x4 + 1) L) (hi2 : vp_in (x4 + 2) L) (hi3 : vp_in (x4 + 3) L) (hi4 : vp_in (x4 + 4) L) (hi5 : vp_in (x4 + 5) L) (hcs : cells + 1 ≤ room_1.cells ∧ slots + 6 ≤ room_1.slots) (hV : AtW E (lwW E ad σ τ o f) (lwA s) s H locs) (hI : Inv σ τ) (hl : lv_has ls 8 [(0, .ref b), (1, .ref (eA E 0)), (2, .ref (eA (eW E ad) 0)), (3, .ref o), (4, .int x4)]) (kk : LwK p l e s m below meth c b E ad o x4 cells slots Q) : W p l e room_1 s m #[Value.ref b] below meth c H locs cells slots Q (F0 m 325 ls []) := by
  obtain ⟨cx, hX, hbl, hF, hF2, hN, hT⟩ := D
  have hx := cx.1
  have hb := cx.2.1
  have hbA : ¬ lwA s b := Nat.not_le.mpr hbl
  have hc0 : cells ≤ room_1.cells ∧ slots ≤ room_1.slots := ⟨Nat.le_trans (Nat.le_add_right _ 1) hcs.1, Nat.le_trans (Nat.le_add_right _ 6) hcs.2⟩
  obtain ⟨r, τ2, hx1, hy1, hI2⟩ := op_fault hI
  refine lv_aload_n hx hb dL_law_325 rfl (lv_at hl 1 rfl) ?_
  refine k_X9_fault hx1 cx hV mk_2_190 ⟨Nat.le_of_ble_eq_true rfl, Nat.le_of_ble_eq_true rfl⟩ hc0 hl.1 (Nat.le_of_ble_eq_true rfl) dL_law_326 (fun H locs hV => ?_)
  refine lv_aload_n hx hb dL_law_329 rfl (lv_at hl 2 rfl) ?_
  refine k_X10_fault hy1 cx (lw_toM hV) mk_7_54 ⟨Nat.le_of_ble_eq_true rfl, Nat.le_of_ble_eq_true rfl⟩ hc0 hl.1 (Nat.le_of_ble_eq_true rfl) dL_law_330 (fun H locs hV => ?_)
  have hV := lw_ofM hV
  refine lv_icmp_eq (tgt := 2051) hx hb dL_law_333 (by decide) (fun _ => ?_) (fun q => absurd rfl q)
  refine W.widen (k := cells + 1) (n := slots + 6) (by omega) (by omega) ?_
  exact kk _ _ _ _ _ _ hV hI2 (lv_sub hl [0, 1, 2, 3, 4] rfl)
set_option maxHeartbeats 4000000 in
set_option maxRecDepth 100000 in
theorem lc_told {p : Program} {l : Launch} {e : Env} {s : State} {m : MethodId} {below : List Frame} {meth : Method} {c : Code} {b L : Nat} {xs : Nat → Int32} {E : EV} {ad : Nat → Nat} {σ τ : St} {o : Nat} {f : Nat → Int64} {H : Heap} {locs : List Loc} {ls : Array Slot} {x4 : Int32} {cells slots : Nat} {Q : State → Prop} (D : LwD p l s m c b L xs E ad) (hi1 : vp_in (x4 + 1) L) (hi2 : vp_in (x4 + 2) L) (hi3 : vp_in (x4 + 3) L) (hi4 : vp_in (x4 + 4) L) (hi5 : vp_in (x4 + 5) L) (hcs : cells + 1 ≤ room_1.cells ∧ slots + 6 ≤ room_1.slots) (hV : AtW E (lwW E ad σ τ o f) (lwA s) s H locs) (hI : Inv σ τ) (hl : lv_has ls 8 [(0, .ref b), (1, .ref (eA E 0)), (2, .ref (eA (eW E ad) 0)), (3, .ref o), (4, .int x4)]) (kk : LwK p l e s m below meth c b E ad o x4 cells slots Q) : W p l e room_1 s m #[Value.ref b] below meth c H locs cells slots Q (F0 m 338 ls []) := by
  obtain ⟨cx, hX, hbl, hF, hF2, hN, hT⟩ := D
  have hx := cx.1
  have hb := cx.2.1
  have hbA : ¬ lwA s b := Nat.not_le.mpr hbl
  have hc0 : cells ≤ room_1.cells ∧ slots ≤ room_1.slots := ⟨Nat.le_trans (Nat.le_add_right _ 1) hcs.1, Nat.le_trans (Nat.le_add_right _ 6) hcs.2⟩
  rcases op_told hI (xs (x4 + 1).toNatClampNeg) with ⟨r, σ2, τ2, hx1, hy1, h0, hI2⟩ | ⟨c9, σ2, r, τ2, hx1, hy1, hc, hI2⟩
  · refine lv_aload_n hx hb dL_law_338 rfl (lv_at hl 1 rfl) ?_
    refine lv_aload_n hx hb dL_law_339 rfl (lv_at hl 0 rfl) ?_
    refine lv_iload hx hb dL_law_340 (lv_at hl 4 rfl) ?_
    refine lv_iconst (v := 1) hx hb dL_law_342 (by decide) ?_
    refine lv_iadd hx hb dL_law_343 ?_
    refine va_sld hx hb hX hbl hbA hV.2.2.2.2.1 hi1 dL_law_344 ?_
    refine lv_aload_n hx hb dL_law_345 rfl (lv_at hl 3 rfl) ?_
    refine r_stW (n := 3) (As := [.ref (eA E 0), .int (xs (x4 + 1).toNatClampNeg), .ref o]) (w_L_told hx1) lw_fst mk_4_183 mk_1_0 mk_4_184 (by decide +kernel) rfl ⟨rfl, rfl⟩ cx hV hF hN mk_4_182 ⟨Nat.le_of_ble_eq_true rfl, Nat.le_of_ble_eq_true rfl⟩ hc0 hl.1 rfl (Nat.le_of_ble_eq_true rfl) dL_law_346 (fun H locs hV => ?_)
    refine lv_istore (lv' := [(5, .int 0), (0, .ref b), (1, .ref (eA E 0)), (2, .ref (eA (eW E ad) 0)), (3, .ref o), (4, .int x4)]) hx hb dL_law_349 hl (by decide) rfl (fun ls hl => ?_)
    refine lv_aload_n hx hb dL_law_351 rfl (lv_at hl 3 rfl) ?_
    refine lv_aload_n hx hb dL_law_352 rfl (lv_at hl 1 rfl) ?_
    refine lv_iload hx hb dL_law_353 (lv_at hl 5 rfl) ?_
    refine lv_iconst (v := 1) hx hb dL_law_355 (by decide) ?_
    refine lv_iadd hx hb dL_law_356 ?_
    refine va_sld hx hb hX hbl hbA hV.2.2.2.2.1 hi1 dL_law_357 ?_
    refine k_X10_told hy1 cx (lw_toM hV) mk_7_137 ⟨Nat.le_of_ble_eq_true rfl, Nat.le_of_ble_eq_true rfl⟩ hc0 hl.1 (Nat.le_of_ble_eq_true rfl) dL_law_358 (fun H locs hV => ?_)
    have hV := lw_ofM hV
    refine lv_istore (lv' := [(6, .int r), (5, .int 0), (0, .ref b), (1, .ref (eA E 0)), (2, .ref (eA (eW E ad) 0)), (3, .ref o), (4, .int x4)]) hx hb dL_law_361 hl (by decide) rfl (fun ls hl => ?_)
    refine lv_aload_n hx hb dL_law_363 rfl (lv_at hl 4 rfl) ?_
    refine k_X10_thrown (rv := 0) (show x_X10_thrown _ = some 0 from congrArg some h0) cx (lw_toM hV) mk_6_75 ⟨Nat.le_of_ble_eq_true rfl, Nat.le_of_ble_eq_true rfl⟩ hc0 hl.1 (Nat.le_of_ble_eq_true rfl) dL_law_364 (fun H locs hV => ?_)
    have hV := lw_ofM hV
    refine lv_iload hx hb dL_law_367 (lv_at hl 1 rfl) ?_
    refine lv_icmp_eq (tgt := 374) hx hb dL_law_369 (by decide) (fun _ => ?_) (fun q => absurd rfl q)
    refine lv_iload hx hb dL_law_374 (lv_at hl 1 rfl) ?_
    refine lv_if_ne (tgt := 391) hx hb dL_law_376 (by decide) (fun q => absurd rfl q) (fun _ => ?_)
    refine lv_aload_n hx hb dL_law_379 rfl (lv_at hl 5 rfl) ?_
    refine lv_iconst (v := 0) hx hb dL_law_380 (by decide) ?_
    refine r_lald cx hV 115 rfl (n := 1) (by unfold vp_in; decide) dL_law_381 ?_
    rw [lw_upd0]
    refine lv_iload hx hb dL_law_382 (lv_at hl 0 rfl) ?_
    refine lv_i2l (v := Int32.toInt64 r) hx hb dL_law_384 rfl ?_
    refine W.lcmp hx hb dL_law_385 ?_
    rw [lw_cmp0]
    refine lv_if_eq (tgt := 391) hx hb dL_law_386 (by decide) (fun _ => ?_) (fun q => absurd rfl q)
    refine lv_goto (tgt := 2051) hx hb dL_law_391 (by decide) ?_
    refine W.widen (k := cells + 1) (n := slots + 6) (by omega) (by omega) ?_
    exact kk _ _ _ _ _ _ hV hI2 (lv_sub hl [2, 3, 4, 5, 6] rfl)
  · simp only [List.mem_cons, Prod.mk.injEq, List.not_mem_nil, or_false] at hc
    obtain ⟨rfl, h0⟩ := hc
    refine lv_aload_n hx hb dL_law_338 rfl (lv_at hl 1 rfl) ?_
    refine lv_aload_n hx hb dL_law_339 rfl (lv_at hl 0 rfl) ?_
    refine lv_iload hx hb dL_law_340 (lv_at hl 4 rfl) ?_
    refine lv_iconst (v := 1) hx hb dL_law_342 (by decide) ?_
    refine lv_iadd hx hb dL_law_343 ?_
    refine va_sld hx hb hX hbl hbA hV.2.2.2.2.1 hi1 dL_law_344 ?_
    refine lv_aload_n hx hb dL_law_345 rfl (lv_at hl 3 rfl) ?_
    refine r_stW (n := 3) (As := [.ref (eA E 0), .int (xs (x4 + 1).toNatClampNeg), .ref o]) (wt_L_told_3 hT hx1) lw_fst mk_4_183 mk_1_0 mk_4_184 (by decide +kernel) rfl ⟨rfl, rfl⟩ cx hV hF hN mk_4_182 ⟨Nat.le_of_ble_eq_true rfl, Nat.le_of_ble_eq_true rfl⟩ hcs hl.1 rfl (Nat.le_of_ble_eq_true rfl) dL_law_346 (fun H locs hV => ?_)
    refine lv_istore (lv' := [(5, .int 1), (0, .ref b), (1, .ref (eA E 0)), (2, .ref (eA (eW E ad) 0)), (3, .ref o), (4, .int x4)]) hx hb dL_law_349 hl (by decide) rfl (fun ls hl => ?_)
    refine lv_aload_n hx hb dL_law_351 rfl (lv_at hl 3 rfl) ?_
    refine lv_aload_n hx hb dL_law_352 rfl (lv_at hl 1 rfl) ?_
    refine lv_iload hx hb dL_law_353 (lv_at hl 5 rfl) ?_
    refine lv_iconst (v := 1) hx hb dL_law_355 (by decide) ?_
    refine lv_iadd hx hb dL_law_356 ?_
    refine va_sld hx hb hX hbl hbA hV.2.2.2.2.1 hi1 dL_law_357 ?_
    refine k_X10_told hy1 cx (lw_toM hV) mk_7_137 ⟨Nat.le_of_ble_eq_true rfl, Nat.le_of_ble_eq_true rfl⟩ hcs hl.1 (Nat.le_of_ble_eq_true rfl) dL_law_358 (fun H locs hV => ?_)
    have hV := lw_ofM hV
    refine lv_istore (lv' := [(6, .int r), (5, .int 1), (0, .ref b), (1, .ref (eA E 0)), (2, .ref (eA (eW E ad) 0)), (3, .ref o), (4, .int x4)]) hx hb dL_law_361 hl (by decide) rfl (fun ls hl => ?_)
    refine lv_aload_n hx hb dL_law_363 rfl (lv_at hl 4 rfl) ?_
    refine k_X10_thrown (rv := 1) (show x_X10_thrown _ = some 1 from congrArg some h0) cx (lw_toM hV) mk_6_75 ⟨Nat.le_of_ble_eq_true rfl, Nat.le_of_ble_eq_true rfl⟩ hcs hl.1 (Nat.le_of_ble_eq_true rfl) dL_law_364 (fun H locs hV => ?_)
    have hV := lw_ofM hV
    refine lv_iload hx hb dL_law_367 (lv_at hl 1 rfl) ?_
    refine lv_icmp_eq (tgt := 374) hx hb dL_law_369 (by decide) (fun _ => ?_) (fun q => absurd rfl q)
    refine lv_iload hx hb dL_law_374 (lv_at hl 1 rfl) ?_
    refine lv_if_ne (tgt := 391) hx hb dL_law_376 (by decide) (fun _ => ?_) (fun q => absurd q (by decide))
    refine lv_goto (tgt := 2051) hx hb dL_law_391 (by decide) ?_
    refine W.widen (k := cells + 1) (n := slots + 6) (by omega) (by omega) ?_
    exact kk _ _ _ _ _ _ hV hI2 (lv_sub hl [2, 3, 4, 5, 6] rfl)
set_option maxHeartbeats 4000000 in
set_option maxRecDepth 100000 in
theorem lc_crate {p : Program} {l : Launch} {e : Env} {s : State} {m : MethodId} {below : List Frame} {meth : Method} {c : Code} {b L : Nat} {xs : Nat → Int32} {E : EV} {ad : Nat → Nat} {σ τ : St} {o : Nat} {f : Nat → Int64} {H : Heap} {locs : List Loc} {ls : Array Slot} {x4 : Int32} {cells slots : Nat} {Q : State → Prop} (D : LwD p l s m c b L xs E ad) (hi1 : vp_in (x4 + 1) L) (hi2 : vp_in (x4 + 2) L) (hi3 : vp_in (x4 + 3) L) (hi4 : vp_in (x4 + 4) L) (hi5 : vp_in (x4 + 5) L) (hcs : cells + 1 ≤ room_1.cells ∧ slots + 6 ≤ room_1.slots) (hV : AtW E (lwW E ad σ τ o f) (lwA s) s H locs) (hI : Inv σ τ) (hl : lv_has ls 8 [(0, .ref b), (1, .ref (eA E 0)), (2, .ref (eA (eW E ad) 0)), (3, .ref o), (4, .int x4)]) (kk : LwK p l e s m below meth c b E ad o x4 cells slots Q) : W p l e room_1 s m #[Value.ref b] below meth c H locs cells slots Q (F0 m 394 ls []) := by
  obtain ⟨cx, hX, hbl, hF, hF2, hN, hT⟩ := D
  have hx := cx.1
  have hb := cx.2.1
  have hbA : ¬ lwA s b := Nat.not_le.mpr hbl
  have hc0 : cells ≤ room_1.cells ∧ slots ≤ room_1.slots := ⟨Nat.le_trans (Nat.le_add_right _ 1) hcs.1, Nat.le_trans (Nat.le_add_right _ 6) hcs.2⟩
  rcases op_crate hI (xs (x4 + 1).toNatClampNeg) (xs (x4 + 2).toNatClampNeg) with ⟨r, σ2, τ2, hx1, hy1, h0, hI2⟩ | ⟨c9, σ2, r, τ2, hx1, hy1, hc, hI2⟩
  · refine lv_aload_n hx hb dL_law_394 rfl (lv_at hl 1 rfl) ?_
    refine lv_aload_n hx hb dL_law_395 rfl (lv_at hl 0 rfl) ?_
    refine lv_iload hx hb dL_law_396 (lv_at hl 4 rfl) ?_
    refine lv_iconst (v := 1) hx hb dL_law_398 (by decide) ?_
    refine lv_iadd hx hb dL_law_399 ?_
    refine va_sld hx hb hX hbl hbA hV.2.2.2.2.1 hi1 dL_law_400 ?_
    refine lv_aload_n hx hb dL_law_401 rfl (lv_at hl 0 rfl) ?_
    refine lv_iload hx hb dL_law_402 (lv_at hl 4 rfl) ?_
    refine lv_iconst (v := 2) hx hb dL_law_404 (by decide) ?_
    refine lv_iadd hx hb dL_law_405 ?_
    refine va_sld hx hb hX hbl hbA hV.2.2.2.2.1 hi2 dL_law_406 ?_
    refine lv_aload_n hx hb dL_law_407 rfl (lv_at hl 3 rfl) ?_
    refine r_stW (n := 4) (As := [.ref (eA E 0), .int (xs (x4 + 1).toNatClampNeg), .int (xs (x4 + 2).toNatClampNeg), .ref o]) (w_L_crate hx1) lw_fst mk_4_190 mk_1_0 mk_4_191 (by decide +kernel) rfl ⟨rfl, rfl⟩ cx hV hF hN mk_4_189 ⟨Nat.le_of_ble_eq_true rfl, Nat.le_of_ble_eq_true rfl⟩ hc0 hl.1 rfl (Nat.le_of_ble_eq_true rfl) dL_law_408 (fun H locs hV => ?_)
    refine lv_istore (lv' := [(5, .int 0), (0, .ref b), (1, .ref (eA E 0)), (2, .ref (eA (eW E ad) 0)), (3, .ref o), (4, .int x4)]) hx hb dL_law_411 hl (by decide) rfl (fun ls hl => ?_)
    refine lv_aload_n hx hb dL_law_413 rfl (lv_at hl 3 rfl) ?_
    refine lv_aload_n hx hb dL_law_414 rfl (lv_at hl 1 rfl) ?_
    refine lv_iload hx hb dL_law_415 (lv_at hl 5 rfl) ?_
    refine lv_iconst (v := 1) hx hb dL_law_417 (by decide) ?_
    refine lv_iadd hx hb dL_law_418 ?_
    refine va_sld hx hb hX hbl hbA hV.2.2.2.2.1 hi1 dL_law_419 ?_
    refine lv_aload_n hx hb dL_law_420 rfl (lv_at hl 1 rfl) ?_
    refine lv_iload hx hb dL_law_421 (lv_at hl 5 rfl) ?_
    refine lv_iconst (v := 2) hx hb dL_law_423 (by decide) ?_
    refine lv_iadd hx hb dL_law_424 ?_
    refine va_sld hx hb hX hbl hbA hV.2.2.2.2.1 hi2 dL_law_425 ?_
    refine k_X10_crate hy1 cx (lw_toM hV) mk_7_144 ⟨Nat.le_of_ble_eq_true rfl, Nat.le_of_ble_eq_true rfl⟩ hc0 hl.1 (Nat.le_of_ble_eq_true rfl) dL_law_426 (fun H locs hV => ?_)
    have hV := lw_ofM hV
    refine lv_istore (lv' := [(6, .int r), (5, .int 0), (0, .ref b), (1, .ref (eA E 0)), (2, .ref (eA (eW E ad) 0)), (3, .ref o), (4, .int x4)]) hx hb dL_law_429 hl (by decide) rfl (fun ls hl => ?_)
    refine lv_aload_n hx hb dL_law_431 rfl (lv_at hl 4 rfl) ?_
    refine k_X10_thrown (rv := 0) (show x_X10_thrown _ = some 0 from congrArg some h0) cx (lw_toM hV) mk_6_75 ⟨Nat.le_of_ble_eq_true rfl, Nat.le_of_ble_eq_true rfl⟩ hc0 hl.1 (Nat.le_of_ble_eq_true rfl) dL_law_432 (fun H locs hV => ?_)
    have hV := lw_ofM hV
    refine lv_iload hx hb dL_law_435 (lv_at hl 1 rfl) ?_
    refine lv_icmp_eq (tgt := 442) hx hb dL_law_437 (by decide) (fun _ => ?_) (fun q => absurd rfl q)
    refine lv_iload hx hb dL_law_442 (lv_at hl 1 rfl) ?_
    refine lv_if_ne (tgt := 459) hx hb dL_law_444 (by decide) (fun q => absurd rfl q) (fun _ => ?_)
    refine lv_aload_n hx hb dL_law_447 rfl (lv_at hl 5 rfl) ?_
    refine lv_iconst (v := 0) hx hb dL_law_448 (by decide) ?_
    refine r_lald cx hV 115 rfl (n := 1) (by unfold vp_in; decide) dL_law_449 ?_
    rw [lw_upd0]
    refine lv_iload hx hb dL_law_450 (lv_at hl 0 rfl) ?_
    refine lv_i2l (v := Int32.toInt64 r) hx hb dL_law_452 rfl ?_
    refine W.lcmp hx hb dL_law_453 ?_
    rw [lw_cmp0]
    refine lv_if_eq (tgt := 459) hx hb dL_law_454 (by decide) (fun _ => ?_) (fun q => absurd rfl q)
    refine lv_goto (tgt := 2051) hx hb dL_law_459 (by decide) ?_
    refine W.widen (k := cells + 1) (n := slots + 6) (by omega) (by omega) ?_
    exact kk _ _ _ _ _ _ hV hI2 (lv_sub hl [2, 3, 4, 5, 6] rfl)
  · simp only [List.mem_cons, Prod.mk.injEq, List.not_mem_nil, or_false] at hc
    rcases hc with ⟨rfl, h0⟩ | ⟨rfl, h0⟩
    · refine lv_aload_n hx hb dL_law_394 rfl (lv_at hl 1 rfl) ?_
      refine lv_aload_n hx hb dL_law_395 rfl (lv_at hl 0 rfl) ?_
      refine lv_iload hx hb dL_law_396 (lv_at hl 4 rfl) ?_
      refine lv_iconst (v := 1) hx hb dL_law_398 (by decide) ?_
      refine lv_iadd hx hb dL_law_399 ?_
      refine va_sld hx hb hX hbl hbA hV.2.2.2.2.1 hi1 dL_law_400 ?_
      refine lv_aload_n hx hb dL_law_401 rfl (lv_at hl 0 rfl) ?_
      refine lv_iload hx hb dL_law_402 (lv_at hl 4 rfl) ?_
      refine lv_iconst (v := 2) hx hb dL_law_404 (by decide) ?_
      refine lv_iadd hx hb dL_law_405 ?_
      refine va_sld hx hb hX hbl hbA hV.2.2.2.2.1 hi2 dL_law_406 ?_
      refine lv_aload_n hx hb dL_law_407 rfl (lv_at hl 3 rfl) ?_
      refine r_stW (n := 4) (As := [.ref (eA E 0), .int (xs (x4 + 1).toNatClampNeg), .int (xs (x4 + 2).toNatClampNeg), .ref o]) (wt_L_crate_1 hT hx1) lw_fst mk_4_190 mk_1_0 mk_4_191 (by decide +kernel) rfl ⟨rfl, rfl⟩ cx hV hF hN mk_4_189 ⟨Nat.le_of_ble_eq_true rfl, Nat.le_of_ble_eq_true rfl⟩ hcs hl.1 rfl (Nat.le_of_ble_eq_true rfl) dL_law_408 (fun H locs hV => ?_)
      refine lv_istore (lv' := [(5, .int 1), (0, .ref b), (1, .ref (eA E 0)), (2, .ref (eA (eW E ad) 0)), (3, .ref o), (4, .int x4)]) hx hb dL_law_411 hl (by decide) rfl (fun ls hl => ?_)
      refine lv_aload_n hx hb dL_law_413 rfl (lv_at hl 3 rfl) ?_
      refine lv_aload_n hx hb dL_law_414 rfl (lv_at hl 1 rfl) ?_
      refine lv_iload hx hb dL_law_415 (lv_at hl 5 rfl) ?_
      refine lv_iconst (v := 1) hx hb dL_law_417 (by decide) ?_
      refine lv_iadd hx hb dL_law_418 ?_
      refine va_sld hx hb hX hbl hbA hV.2.2.2.2.1 hi1 dL_law_419 ?_
      refine lv_aload_n hx hb dL_law_420 rfl (lv_at hl 1 rfl) ?_
      refine lv_iload hx hb dL_law_421 (lv_at hl 5 rfl) ?_
      refine lv_iconst (v := 2) hx hb dL_law_423 (by decide) ?_
      refine lv_iadd hx hb dL_law_424 ?_
      refine va_sld hx hb hX hbl hbA hV.2.2.2.2.1 hi2 dL_law_425 ?_
      refine k_X10_crate hy1 cx (lw_toM hV) mk_7_144 ⟨Nat.le_of_ble_eq_true rfl, Nat.le_of_ble_eq_true rfl⟩ hcs hl.1 (Nat.le_of_ble_eq_true rfl) dL_law_426 (fun H locs hV => ?_)
      have hV := lw_ofM hV
      refine lv_istore (lv' := [(6, .int r), (5, .int 1), (0, .ref b), (1, .ref (eA E 0)), (2, .ref (eA (eW E ad) 0)), (3, .ref o), (4, .int x4)]) hx hb dL_law_429 hl (by decide) rfl (fun ls hl => ?_)
      refine lv_aload_n hx hb dL_law_431 rfl (lv_at hl 4 rfl) ?_
      refine k_X10_thrown (rv := 1) (show x_X10_thrown _ = some 1 from congrArg some h0) cx (lw_toM hV) mk_6_75 ⟨Nat.le_of_ble_eq_true rfl, Nat.le_of_ble_eq_true rfl⟩ hcs hl.1 (Nat.le_of_ble_eq_true rfl) dL_law_432 (fun H locs hV => ?_)
      have hV := lw_ofM hV
      refine lv_iload hx hb dL_law_435 (lv_at hl 1 rfl) ?_
      refine lv_icmp_eq (tgt := 442) hx hb dL_law_437 (by decide) (fun _ => ?_) (fun q => absurd rfl q)
      refine lv_iload hx hb dL_law_442 (lv_at hl 1 rfl) ?_
      refine lv_if_ne (tgt := 459) hx hb dL_law_444 (by decide) (fun _ => ?_) (fun q => absurd q (by decide))
      refine lv_goto (tgt := 2051) hx hb dL_law_459 (by decide) ?_
      refine W.widen (k := cells + 1) (n := slots + 6) (by omega) (by omega) ?_
      exact kk _ _ _ _ _ _ hV hI2 (lv_sub hl [2, 3, 4, 5, 6] rfl)
    · refine lv_aload_n hx hb dL_law_394 rfl (lv_at hl 1 rfl) ?_
      refine lv_aload_n hx hb dL_law_395 rfl (lv_at hl 0 rfl) ?_
      refine lv_iload hx hb dL_law_396 (lv_at hl 4 rfl) ?_
      refine lv_iconst (v := 1) hx hb dL_law_398 (by decide) ?_
      refine lv_iadd hx hb dL_law_399 ?_
      refine va_sld hx hb hX hbl hbA hV.2.2.2.2.1 hi1 dL_law_400 ?_
      refine lv_aload_n hx hb dL_law_401 rfl (lv_at hl 0 rfl) ?_
      refine lv_iload hx hb dL_law_402 (lv_at hl 4 rfl) ?_
      refine lv_iconst (v := 2) hx hb dL_law_404 (by decide) ?_
      refine lv_iadd hx hb dL_law_405 ?_
      refine va_sld hx hb hX hbl hbA hV.2.2.2.2.1 hi2 dL_law_406 ?_
      refine lv_aload_n hx hb dL_law_407 rfl (lv_at hl 3 rfl) ?_
      refine r_stW (n := 4) (As := [.ref (eA E 0), .int (xs (x4 + 1).toNatClampNeg), .int (xs (x4 + 2).toNatClampNeg), .ref o]) (wt_L_crate_3 hT hx1) lw_fst mk_4_190 mk_1_0 mk_4_191 (by decide +kernel) rfl ⟨rfl, rfl⟩ cx hV hF hN mk_4_189 ⟨Nat.le_of_ble_eq_true rfl, Nat.le_of_ble_eq_true rfl⟩ hcs hl.1 rfl (Nat.le_of_ble_eq_true rfl) dL_law_408 (fun H locs hV => ?_)
      refine lv_istore (lv' := [(5, .int 2), (0, .ref b), (1, .ref (eA E 0)), (2, .ref (eA (eW E ad) 0)), (3, .ref o), (4, .int x4)]) hx hb dL_law_411 hl (by decide) rfl (fun ls hl => ?_)
      refine lv_aload_n hx hb dL_law_413 rfl (lv_at hl 3 rfl) ?_
      refine lv_aload_n hx hb dL_law_414 rfl (lv_at hl 1 rfl) ?_
      refine lv_iload hx hb dL_law_415 (lv_at hl 5 rfl) ?_
      refine lv_iconst (v := 1) hx hb dL_law_417 (by decide) ?_
      refine lv_iadd hx hb dL_law_418 ?_
      refine va_sld hx hb hX hbl hbA hV.2.2.2.2.1 hi1 dL_law_419 ?_
      refine lv_aload_n hx hb dL_law_420 rfl (lv_at hl 1 rfl) ?_
      refine lv_iload hx hb dL_law_421 (lv_at hl 5 rfl) ?_
      refine lv_iconst (v := 2) hx hb dL_law_423 (by decide) ?_
      refine lv_iadd hx hb dL_law_424 ?_
      refine va_sld hx hb hX hbl hbA hV.2.2.2.2.1 hi2 dL_law_425 ?_
      refine k_X10_crate hy1 cx (lw_toM hV) mk_7_144 ⟨Nat.le_of_ble_eq_true rfl, Nat.le_of_ble_eq_true rfl⟩ hcs hl.1 (Nat.le_of_ble_eq_true rfl) dL_law_426 (fun H locs hV => ?_)
      have hV := lw_ofM hV
      refine lv_istore (lv' := [(6, .int r), (5, .int 2), (0, .ref b), (1, .ref (eA E 0)), (2, .ref (eA (eW E ad) 0)), (3, .ref o), (4, .int x4)]) hx hb dL_law_429 hl (by decide) rfl (fun ls hl => ?_)
      refine lv_aload_n hx hb dL_law_431 rfl (lv_at hl 4 rfl) ?_
      refine k_X10_thrown (rv := 2) (show x_X10_thrown _ = some 2 from congrArg some h0) cx (lw_toM hV) mk_6_75 ⟨Nat.le_of_ble_eq_true rfl, Nat.le_of_ble_eq_true rfl⟩ hcs hl.1 (Nat.le_of_ble_eq_true rfl) dL_law_432 (fun H locs hV => ?_)
      have hV := lw_ofM hV
      refine lv_iload hx hb dL_law_435 (lv_at hl 1 rfl) ?_
      refine lv_icmp_eq (tgt := 442) hx hb dL_law_437 (by decide) (fun _ => ?_) (fun q => absurd rfl q)
      refine lv_iload hx hb dL_law_442 (lv_at hl 1 rfl) ?_
      refine lv_if_ne (tgt := 459) hx hb dL_law_444 (by decide) (fun _ => ?_) (fun q => absurd q (by decide))
      refine lv_goto (tgt := 2051) hx hb dL_law_459 (by decide) ?_
      refine W.widen (k := cells + 1) (n := slots + 6) (by omega) (by omega) ?_
      exact kk _ _ _ _ _ _ hV hI2 (lv_sub hl [2, 3, 4, 5, 6] rfl)
set_option maxHeartbeats 4000000 in
set_option maxRecDepth 100000 in
theorem lc_row {p : Program} {l : Launch} {e : Env} {s : State} {m : MethodId} {below : List Frame} {meth : Method} {c : Code} {b L : Nat} {xs : Nat → Int32} {E : EV} {ad : Nat → Nat} {σ τ : St} {o : Nat} {f : Nat → Int64} {H : Heap} {locs : List Loc} {ls : Array Slot} {x4 : Int32} {cells slots : Nat} {Q : State → Prop} (D : LwD p l s m c b L xs E ad) (hi1 : vp_in (x4 + 1) L) (hi2 : vp_in (x4 + 2) L) (hi3 : vp_in (x4 + 3) L) (hi4 : vp_in (x4 + 4) L) (hi5 : vp_in (x4 + 5) L) (hcs : cells + 1 ≤ room_1.cells ∧ slots + 6 ≤ room_1.slots) (hV : AtW E (lwW E ad σ τ o f) (lwA s) s H locs) (hI : Inv σ τ) (hl : lv_has ls 8 [(0, .ref b), (1, .ref (eA E 0)), (2, .ref (eA (eW E ad) 0)), (3, .ref o), (4, .int x4)]) (kk : LwK p l e s m below meth c b E ad o x4 cells slots Q) : W p l e room_1 s m #[Value.ref b] below meth c H locs cells slots Q (F0 m 462 ls []) := by
  obtain ⟨cx, hX, hbl, hF, hF2, hN, hT⟩ := D
  have hx := cx.1
  have hb := cx.2.1
  have hbA : ¬ lwA s b := Nat.not_le.mpr hbl
  have hc0 : cells ≤ room_1.cells ∧ slots ≤ room_1.slots := ⟨Nat.le_trans (Nat.le_add_right _ 1) hcs.1, Nat.le_trans (Nat.le_add_right _ 6) hcs.2⟩
  rcases op_row hI (xs (x4 + 1).toNatClampNeg) (xs (x4 + 2).toNatClampNeg) with ⟨r, σ2, τ2, hx1, hy1, h0, hI2⟩ | ⟨c9, σ2, r, τ2, hx1, hy1, hc, hI2⟩
  · refine lv_aload_n hx hb dL_law_462 rfl (lv_at hl 1 rfl) ?_
    refine lv_aload_n hx hb dL_law_463 rfl (lv_at hl 0 rfl) ?_
    refine lv_iload hx hb dL_law_464 (lv_at hl 4 rfl) ?_
    refine lv_iconst (v := 1) hx hb dL_law_466 (by decide) ?_
    refine lv_iadd hx hb dL_law_467 ?_
    refine va_sld hx hb hX hbl hbA hV.2.2.2.2.1 hi1 dL_law_468 ?_
    refine lv_aload_n hx hb dL_law_469 rfl (lv_at hl 0 rfl) ?_
    refine lv_iload hx hb dL_law_470 (lv_at hl 4 rfl) ?_
    refine lv_iconst (v := 2) hx hb dL_law_472 (by decide) ?_
    refine lv_iadd hx hb dL_law_473 ?_
    refine va_sld hx hb hX hbl hbA hV.2.2.2.2.1 hi2 dL_law_474 ?_
    refine lv_aload_n hx hb dL_law_475 rfl (lv_at hl 3 rfl) ?_
    refine r_stW (n := 4) (As := [.ref (eA E 0), .int (xs (x4 + 1).toNatClampNeg), .int (xs (x4 + 2).toNatClampNeg), .ref o]) (w_L_row hx1) lw_fst mk_4_219 mk_1_0 mk_4_220 (by decide +kernel) rfl ⟨rfl, rfl⟩ cx hV hF hN mk_4_218 ⟨Nat.le_of_ble_eq_true rfl, Nat.le_of_ble_eq_true rfl⟩ hc0 hl.1 rfl (Nat.le_of_ble_eq_true rfl) dL_law_476 (fun H locs hV => ?_)
    refine lv_istore (lv' := [(5, .int 0), (0, .ref b), (1, .ref (eA E 0)), (2, .ref (eA (eW E ad) 0)), (3, .ref o), (4, .int x4)]) hx hb dL_law_479 hl (by decide) rfl (fun ls hl => ?_)
    refine lv_aload_n hx hb dL_law_481 rfl (lv_at hl 3 rfl) ?_
    refine lv_aload_n hx hb dL_law_482 rfl (lv_at hl 1 rfl) ?_
    refine lv_iload hx hb dL_law_483 (lv_at hl 5 rfl) ?_
    refine lv_iconst (v := 1) hx hb dL_law_485 (by decide) ?_
    refine lv_iadd hx hb dL_law_486 ?_
    refine va_sld hx hb hX hbl hbA hV.2.2.2.2.1 hi1 dL_law_487 ?_
    refine lv_aload_n hx hb dL_law_488 rfl (lv_at hl 1 rfl) ?_
    refine lv_iload hx hb dL_law_489 (lv_at hl 5 rfl) ?_
    refine lv_iconst (v := 2) hx hb dL_law_491 (by decide) ?_
    refine lv_iadd hx hb dL_law_492 ?_
    refine va_sld hx hb hX hbl hbA hV.2.2.2.2.1 hi2 dL_law_493 ?_
    refine k_X10_row hy1 cx (lw_toM hV) mk_7_152 ⟨Nat.le_of_ble_eq_true rfl, Nat.le_of_ble_eq_true rfl⟩ hc0 hl.1 (Nat.le_of_ble_eq_true rfl) dL_law_494 (fun H locs hV => ?_)
    have hV := lw_ofM hV
    refine lv_istore (lv' := [(6, .int r), (5, .int 0), (0, .ref b), (1, .ref (eA E 0)), (2, .ref (eA (eW E ad) 0)), (3, .ref o), (4, .int x4)]) hx hb dL_law_497 hl (by decide) rfl (fun ls hl => ?_)
    refine lv_aload_n hx hb dL_law_499 rfl (lv_at hl 4 rfl) ?_
    refine k_X10_thrown (rv := 0) (show x_X10_thrown _ = some 0 from congrArg some h0) cx (lw_toM hV) mk_6_75 ⟨Nat.le_of_ble_eq_true rfl, Nat.le_of_ble_eq_true rfl⟩ hc0 hl.1 (Nat.le_of_ble_eq_true rfl) dL_law_500 (fun H locs hV => ?_)
    have hV := lw_ofM hV
    refine lv_iload hx hb dL_law_503 (lv_at hl 1 rfl) ?_
    refine lv_icmp_eq (tgt := 510) hx hb dL_law_505 (by decide) (fun _ => ?_) (fun q => absurd rfl q)
    refine lv_iload hx hb dL_law_510 (lv_at hl 1 rfl) ?_
    refine lv_if_ne (tgt := 527) hx hb dL_law_512 (by decide) (fun q => absurd rfl q) (fun _ => ?_)
    refine lv_aload_n hx hb dL_law_515 rfl (lv_at hl 5 rfl) ?_
    refine lv_iconst (v := 0) hx hb dL_law_516 (by decide) ?_
    refine r_lald cx hV 115 rfl (n := 1) (by unfold vp_in; decide) dL_law_517 ?_
    rw [lw_upd0]
    refine lv_iload hx hb dL_law_518 (lv_at hl 0 rfl) ?_
    refine lv_i2l (v := Int32.toInt64 r) hx hb dL_law_520 rfl ?_
    refine W.lcmp hx hb dL_law_521 ?_
    rw [lw_cmp0]
    refine lv_if_eq (tgt := 527) hx hb dL_law_522 (by decide) (fun _ => ?_) (fun q => absurd rfl q)
    refine lv_goto (tgt := 2051) hx hb dL_law_527 (by decide) ?_
    refine W.widen (k := cells + 1) (n := slots + 6) (by omega) (by omega) ?_
    exact kk _ _ _ _ _ _ hV hI2 (lv_sub hl [2, 3, 4, 5, 6] rfl)
  · simp only [List.mem_cons, Prod.mk.injEq, List.not_mem_nil, or_false] at hc
    obtain ⟨rfl, h0⟩ := hc
    refine lv_aload_n hx hb dL_law_462 rfl (lv_at hl 1 rfl) ?_
    refine lv_aload_n hx hb dL_law_463 rfl (lv_at hl 0 rfl) ?_
    refine lv_iload hx hb dL_law_464 (lv_at hl 4 rfl) ?_
    refine lv_iconst (v := 1) hx hb dL_law_466 (by decide) ?_
    refine lv_iadd hx hb dL_law_467 ?_
    refine va_sld hx hb hX hbl hbA hV.2.2.2.2.1 hi1 dL_law_468 ?_
    refine lv_aload_n hx hb dL_law_469 rfl (lv_at hl 0 rfl) ?_
    refine lv_iload hx hb dL_law_470 (lv_at hl 4 rfl) ?_
    refine lv_iconst (v := 2) hx hb dL_law_472 (by decide) ?_
    refine lv_iadd hx hb dL_law_473 ?_
    refine va_sld hx hb hX hbl hbA hV.2.2.2.2.1 hi2 dL_law_474 ?_
    refine lv_aload_n hx hb dL_law_475 rfl (lv_at hl 3 rfl) ?_
    refine r_stW (n := 4) (As := [.ref (eA E 0), .int (xs (x4 + 1).toNatClampNeg), .int (xs (x4 + 2).toNatClampNeg), .ref o]) (wt_L_row_1 hT hx1) lw_fst mk_4_219 mk_1_0 mk_4_220 (by decide +kernel) rfl ⟨rfl, rfl⟩ cx hV hF hN mk_4_218 ⟨Nat.le_of_ble_eq_true rfl, Nat.le_of_ble_eq_true rfl⟩ hcs hl.1 rfl (Nat.le_of_ble_eq_true rfl) dL_law_476 (fun H locs hV => ?_)
    refine lv_istore (lv' := [(5, .int 1), (0, .ref b), (1, .ref (eA E 0)), (2, .ref (eA (eW E ad) 0)), (3, .ref o), (4, .int x4)]) hx hb dL_law_479 hl (by decide) rfl (fun ls hl => ?_)
    refine lv_aload_n hx hb dL_law_481 rfl (lv_at hl 3 rfl) ?_
    refine lv_aload_n hx hb dL_law_482 rfl (lv_at hl 1 rfl) ?_
    refine lv_iload hx hb dL_law_483 (lv_at hl 5 rfl) ?_
    refine lv_iconst (v := 1) hx hb dL_law_485 (by decide) ?_
    refine lv_iadd hx hb dL_law_486 ?_
    refine va_sld hx hb hX hbl hbA hV.2.2.2.2.1 hi1 dL_law_487 ?_
    refine lv_aload_n hx hb dL_law_488 rfl (lv_at hl 1 rfl) ?_
    refine lv_iload hx hb dL_law_489 (lv_at hl 5 rfl) ?_
    refine lv_iconst (v := 2) hx hb dL_law_491 (by decide) ?_
    refine lv_iadd hx hb dL_law_492 ?_
    refine va_sld hx hb hX hbl hbA hV.2.2.2.2.1 hi2 dL_law_493 ?_
    refine k_X10_row hy1 cx (lw_toM hV) mk_7_152 ⟨Nat.le_of_ble_eq_true rfl, Nat.le_of_ble_eq_true rfl⟩ hcs hl.1 (Nat.le_of_ble_eq_true rfl) dL_law_494 (fun H locs hV => ?_)
    have hV := lw_ofM hV
    refine lv_istore (lv' := [(6, .int r), (5, .int 1), (0, .ref b), (1, .ref (eA E 0)), (2, .ref (eA (eW E ad) 0)), (3, .ref o), (4, .int x4)]) hx hb dL_law_497 hl (by decide) rfl (fun ls hl => ?_)
    refine lv_aload_n hx hb dL_law_499 rfl (lv_at hl 4 rfl) ?_
    refine k_X10_thrown (rv := 1) (show x_X10_thrown _ = some 1 from congrArg some h0) cx (lw_toM hV) mk_6_75 ⟨Nat.le_of_ble_eq_true rfl, Nat.le_of_ble_eq_true rfl⟩ hcs hl.1 (Nat.le_of_ble_eq_true rfl) dL_law_500 (fun H locs hV => ?_)
    have hV := lw_ofM hV
    refine lv_iload hx hb dL_law_503 (lv_at hl 1 rfl) ?_
    refine lv_icmp_eq (tgt := 510) hx hb dL_law_505 (by decide) (fun _ => ?_) (fun q => absurd rfl q)
    refine lv_iload hx hb dL_law_510 (lv_at hl 1 rfl) ?_
    refine lv_if_ne (tgt := 527) hx hb dL_law_512 (by decide) (fun _ => ?_) (fun q => absurd q (by decide))
    refine lv_goto (tgt := 2051) hx hb dL_law_527 (by decide) ?_
    refine W.widen (k := cells + 1) (n := slots + 6) (by omega) (by omega) ?_
    exact kk _ _ _ _ _ _ hV hI2 (lv_sub hl [2, 3, 4, 5, 6] rfl)
set_option maxHeartbeats 4000000 in
set_option maxRecDepth 100000 in
theorem lc_sleeve {p : Program} {l : Launch} {e : Env} {s : State} {m : MethodId} {below : List Frame} {meth : Method} {c : Code} {b L : Nat} {xs : Nat → Int32} {E : EV} {ad : Nat → Nat} {σ τ : St} {o : Nat} {f : Nat → Int64} {H : Heap} {locs : List Loc} {ls : Array Slot} {x4 : Int32} {cells slots : Nat} {Q : State → Prop} (D : LwD p l s m c b L xs E ad) (hi1 : vp_in (x4 + 1) L) (hi2 : vp_in (x4 + 2) L) (hi3 : vp_in (x4 + 3) L) (hi4 : vp_in (x4 + 4) L) (hi5 : vp_in (x4 + 5) L) (hcs : cells + 1 ≤ room_1.cells ∧ slots + 6 ≤ room_1.slots) (hV : AtW E (lwW E ad σ τ o f) (lwA s) s H locs) (hI : Inv σ τ) (hl : lv_has ls 8 [(0, .ref b), (1, .ref (eA E 0)), (2, .ref (eA (eW E ad) 0)), (3, .ref o), (4, .int x4)]) (kk : LwK p l e s m below meth c b E ad o x4 cells slots Q) : W p l e room_1 s m #[Value.ref b] below meth c H locs cells slots Q (F0 m 530 ls []) := by
  obtain ⟨cx, hX, hbl, hF, hF2, hN, hT⟩ := D
  have hx := cx.1
  have hb := cx.2.1
  have hbA : ¬ lwA s b := Nat.not_le.mpr hbl
  have hc0 : cells ≤ room_1.cells ∧ slots ≤ room_1.slots := ⟨Nat.le_trans (Nat.le_add_right _ 1) hcs.1, Nat.le_trans (Nat.le_add_right _ 6) hcs.2⟩
  rcases op_sleeve hI (xs (x4 + 1).toNatClampNeg) (xs (x4 + 2).toNatClampNeg) with ⟨r, σ2, τ2, hx1, hy1, h0, hI2⟩ | ⟨c9, σ2, r, τ2, hx1, hy1, hc, hI2⟩
  · refine lv_aload_n hx hb dL_law_530 rfl (lv_at hl 1 rfl) ?_
    refine lv_aload_n hx hb dL_law_531 rfl (lv_at hl 0 rfl) ?_
    refine lv_iload hx hb dL_law_532 (lv_at hl 4 rfl) ?_
    refine lv_iconst (v := 1) hx hb dL_law_534 (by decide) ?_
    refine lv_iadd hx hb dL_law_535 ?_
    refine va_sld hx hb hX hbl hbA hV.2.2.2.2.1 hi1 dL_law_536 ?_
    refine lv_aload_n hx hb dL_law_537 rfl (lv_at hl 0 rfl) ?_
    refine lv_iload hx hb dL_law_538 (lv_at hl 4 rfl) ?_
    refine lv_iconst (v := 2) hx hb dL_law_540 (by decide) ?_
    refine lv_iadd hx hb dL_law_541 ?_
    refine va_sld hx hb hX hbl hbA hV.2.2.2.2.1 hi2 dL_law_542 ?_
    refine lv_aload_n hx hb dL_law_543 rfl (lv_at hl 3 rfl) ?_
    refine r_stW (n := 4) (As := [.ref (eA E 0), .int (xs (x4 + 1).toNatClampNeg), .int (xs (x4 + 2).toNatClampNeg), .ref o]) (w_L_sleeve hx1) lw_fst mk_4_230 mk_1_0 mk_4_231 (by decide +kernel) rfl ⟨rfl, rfl⟩ cx hV hF hN mk_4_229 ⟨Nat.le_of_ble_eq_true rfl, Nat.le_of_ble_eq_true rfl⟩ hc0 hl.1 rfl (Nat.le_of_ble_eq_true rfl) dL_law_544 (fun H locs hV => ?_)
    refine lv_istore (lv' := [(5, .int 0), (0, .ref b), (1, .ref (eA E 0)), (2, .ref (eA (eW E ad) 0)), (3, .ref o), (4, .int x4)]) hx hb dL_law_547 hl (by decide) rfl (fun ls hl => ?_)
    refine lv_aload_n hx hb dL_law_549 rfl (lv_at hl 3 rfl) ?_
    refine lv_aload_n hx hb dL_law_550 rfl (lv_at hl 1 rfl) ?_
    refine lv_iload hx hb dL_law_551 (lv_at hl 5 rfl) ?_
    refine lv_iconst (v := 1) hx hb dL_law_553 (by decide) ?_
    refine lv_iadd hx hb dL_law_554 ?_
    refine va_sld hx hb hX hbl hbA hV.2.2.2.2.1 hi1 dL_law_555 ?_
    refine lv_aload_n hx hb dL_law_556 rfl (lv_at hl 1 rfl) ?_
    refine lv_iload hx hb dL_law_557 (lv_at hl 5 rfl) ?_
    refine lv_iconst (v := 2) hx hb dL_law_559 (by decide) ?_
    refine lv_iadd hx hb dL_law_560 ?_
    refine va_sld hx hb hX hbl hbA hV.2.2.2.2.1 hi2 dL_law_561 ?_
    refine k_X10_sleeve hy1 cx (lw_toM hV) mk_7_156 ⟨Nat.le_of_ble_eq_true rfl, Nat.le_of_ble_eq_true rfl⟩ hc0 hl.1 (Nat.le_of_ble_eq_true rfl) dL_law_562 (fun H locs hV => ?_)
    have hV := lw_ofM hV
    refine lv_istore (lv' := [(6, .int r), (5, .int 0), (0, .ref b), (1, .ref (eA E 0)), (2, .ref (eA (eW E ad) 0)), (3, .ref o), (4, .int x4)]) hx hb dL_law_565 hl (by decide) rfl (fun ls hl => ?_)
    refine lv_aload_n hx hb dL_law_567 rfl (lv_at hl 4 rfl) ?_
    refine k_X10_thrown (rv := 0) (show x_X10_thrown _ = some 0 from congrArg some h0) cx (lw_toM hV) mk_6_75 ⟨Nat.le_of_ble_eq_true rfl, Nat.le_of_ble_eq_true rfl⟩ hc0 hl.1 (Nat.le_of_ble_eq_true rfl) dL_law_568 (fun H locs hV => ?_)
    have hV := lw_ofM hV
    refine lv_iload hx hb dL_law_571 (lv_at hl 1 rfl) ?_
    refine lv_icmp_eq (tgt := 578) hx hb dL_law_573 (by decide) (fun _ => ?_) (fun q => absurd rfl q)
    refine lv_iload hx hb dL_law_578 (lv_at hl 1 rfl) ?_
    refine lv_if_ne (tgt := 595) hx hb dL_law_580 (by decide) (fun q => absurd rfl q) (fun _ => ?_)
    refine lv_aload_n hx hb dL_law_583 rfl (lv_at hl 5 rfl) ?_
    refine lv_iconst (v := 0) hx hb dL_law_584 (by decide) ?_
    refine r_lald cx hV 115 rfl (n := 1) (by unfold vp_in; decide) dL_law_585 ?_
    rw [lw_upd0]
    refine lv_iload hx hb dL_law_586 (lv_at hl 0 rfl) ?_
    refine lv_i2l (v := Int32.toInt64 r) hx hb dL_law_588 rfl ?_
    refine W.lcmp hx hb dL_law_589 ?_
    rw [lw_cmp0]
    refine lv_if_eq (tgt := 595) hx hb dL_law_590 (by decide) (fun _ => ?_) (fun q => absurd rfl q)
    refine lv_goto (tgt := 2051) hx hb dL_law_595 (by decide) ?_
    refine W.widen (k := cells + 1) (n := slots + 6) (by omega) (by omega) ?_
    exact kk _ _ _ _ _ _ hV hI2 (lv_sub hl [2, 3, 4, 5, 6] rfl)
  · simp only [List.mem_cons, Prod.mk.injEq, List.not_mem_nil, or_false] at hc
    rcases hc with ⟨rfl, h0⟩ | ⟨rfl, h0⟩
    · refine lv_aload_n hx hb dL_law_530 rfl (lv_at hl 1 rfl) ?_
      refine lv_aload_n hx hb dL_law_531 rfl (lv_at hl 0 rfl) ?_
      refine lv_iload hx hb dL_law_532 (lv_at hl 4 rfl) ?_
      refine lv_iconst (v := 1) hx hb dL_law_534 (by decide) ?_
      refine lv_iadd hx hb dL_law_535 ?_
      refine va_sld hx hb hX hbl hbA hV.2.2.2.2.1 hi1 dL_law_536 ?_
      refine lv_aload_n hx hb dL_law_537 rfl (lv_at hl 0 rfl) ?_
      refine lv_iload hx hb dL_law_538 (lv_at hl 4 rfl) ?_
      refine lv_iconst (v := 2) hx hb dL_law_540 (by decide) ?_
      refine lv_iadd hx hb dL_law_541 ?_
      refine va_sld hx hb hX hbl hbA hV.2.2.2.2.1 hi2 dL_law_542 ?_
      refine lv_aload_n hx hb dL_law_543 rfl (lv_at hl 3 rfl) ?_
      refine r_stW (n := 4) (As := [.ref (eA E 0), .int (xs (x4 + 1).toNatClampNeg), .int (xs (x4 + 2).toNatClampNeg), .ref o]) (wt_L_sleeve_2 hT hx1) lw_fst mk_4_230 mk_1_0 mk_4_231 (by decide +kernel) rfl ⟨rfl, rfl⟩ cx hV hF hN mk_4_229 ⟨Nat.le_of_ble_eq_true rfl, Nat.le_of_ble_eq_true rfl⟩ hcs hl.1 rfl (Nat.le_of_ble_eq_true rfl) dL_law_544 (fun H locs hV => ?_)
      refine lv_istore (lv' := [(5, .int 1), (0, .ref b), (1, .ref (eA E 0)), (2, .ref (eA (eW E ad) 0)), (3, .ref o), (4, .int x4)]) hx hb dL_law_547 hl (by decide) rfl (fun ls hl => ?_)
      refine lv_aload_n hx hb dL_law_549 rfl (lv_at hl 3 rfl) ?_
      refine lv_aload_n hx hb dL_law_550 rfl (lv_at hl 1 rfl) ?_
      refine lv_iload hx hb dL_law_551 (lv_at hl 5 rfl) ?_
      refine lv_iconst (v := 1) hx hb dL_law_553 (by decide) ?_
      refine lv_iadd hx hb dL_law_554 ?_
      refine va_sld hx hb hX hbl hbA hV.2.2.2.2.1 hi1 dL_law_555 ?_
      refine lv_aload_n hx hb dL_law_556 rfl (lv_at hl 1 rfl) ?_
      refine lv_iload hx hb dL_law_557 (lv_at hl 5 rfl) ?_
      refine lv_iconst (v := 2) hx hb dL_law_559 (by decide) ?_
      refine lv_iadd hx hb dL_law_560 ?_
      refine va_sld hx hb hX hbl hbA hV.2.2.2.2.1 hi2 dL_law_561 ?_
      refine k_X10_sleeve hy1 cx (lw_toM hV) mk_7_156 ⟨Nat.le_of_ble_eq_true rfl, Nat.le_of_ble_eq_true rfl⟩ hcs hl.1 (Nat.le_of_ble_eq_true rfl) dL_law_562 (fun H locs hV => ?_)
      have hV := lw_ofM hV
      refine lv_istore (lv' := [(6, .int r), (5, .int 1), (0, .ref b), (1, .ref (eA E 0)), (2, .ref (eA (eW E ad) 0)), (3, .ref o), (4, .int x4)]) hx hb dL_law_565 hl (by decide) rfl (fun ls hl => ?_)
      refine lv_aload_n hx hb dL_law_567 rfl (lv_at hl 4 rfl) ?_
      refine k_X10_thrown (rv := 1) (show x_X10_thrown _ = some 1 from congrArg some h0) cx (lw_toM hV) mk_6_75 ⟨Nat.le_of_ble_eq_true rfl, Nat.le_of_ble_eq_true rfl⟩ hcs hl.1 (Nat.le_of_ble_eq_true rfl) dL_law_568 (fun H locs hV => ?_)
      have hV := lw_ofM hV
      refine lv_iload hx hb dL_law_571 (lv_at hl 1 rfl) ?_
      refine lv_icmp_eq (tgt := 578) hx hb dL_law_573 (by decide) (fun _ => ?_) (fun q => absurd rfl q)
      refine lv_iload hx hb dL_law_578 (lv_at hl 1 rfl) ?_
      refine lv_if_ne (tgt := 595) hx hb dL_law_580 (by decide) (fun _ => ?_) (fun q => absurd q (by decide))
      refine lv_goto (tgt := 2051) hx hb dL_law_595 (by decide) ?_
      refine W.widen (k := cells + 1) (n := slots + 6) (by omega) (by omega) ?_
      exact kk _ _ _ _ _ _ hV hI2 (lv_sub hl [2, 3, 4, 5, 6] rfl)
    · refine lv_aload_n hx hb dL_law_530 rfl (lv_at hl 1 rfl) ?_
      refine lv_aload_n hx hb dL_law_531 rfl (lv_at hl 0 rfl) ?_
      refine lv_iload hx hb dL_law_532 (lv_at hl 4 rfl) ?_
      refine lv_iconst (v := 1) hx hb dL_law_534 (by decide) ?_
      refine lv_iadd hx hb dL_law_535 ?_
      refine va_sld hx hb hX hbl hbA hV.2.2.2.2.1 hi1 dL_law_536 ?_
      refine lv_aload_n hx hb dL_law_537 rfl (lv_at hl 0 rfl) ?_
      refine lv_iload hx hb dL_law_538 (lv_at hl 4 rfl) ?_
      refine lv_iconst (v := 2) hx hb dL_law_540 (by decide) ?_
      refine lv_iadd hx hb dL_law_541 ?_
      refine va_sld hx hb hX hbl hbA hV.2.2.2.2.1 hi2 dL_law_542 ?_
      refine lv_aload_n hx hb dL_law_543 rfl (lv_at hl 3 rfl) ?_
      refine r_stW (n := 4) (As := [.ref (eA E 0), .int (xs (x4 + 1).toNatClampNeg), .int (xs (x4 + 2).toNatClampNeg), .ref o]) (wt_L_sleeve_3 hT hx1) lw_fst mk_4_230 mk_1_0 mk_4_231 (by decide +kernel) rfl ⟨rfl, rfl⟩ cx hV hF hN mk_4_229 ⟨Nat.le_of_ble_eq_true rfl, Nat.le_of_ble_eq_true rfl⟩ hcs hl.1 rfl (Nat.le_of_ble_eq_true rfl) dL_law_544 (fun H locs hV => ?_)
      refine lv_istore (lv' := [(5, .int 2), (0, .ref b), (1, .ref (eA E 0)), (2, .ref (eA (eW E ad) 0)), (3, .ref o), (4, .int x4)]) hx hb dL_law_547 hl (by decide) rfl (fun ls hl => ?_)
      refine lv_aload_n hx hb dL_law_549 rfl (lv_at hl 3 rfl) ?_
      refine lv_aload_n hx hb dL_law_550 rfl (lv_at hl 1 rfl) ?_
      refine lv_iload hx hb dL_law_551 (lv_at hl 5 rfl) ?_
      refine lv_iconst (v := 1) hx hb dL_law_553 (by decide) ?_
      refine lv_iadd hx hb dL_law_554 ?_
      refine va_sld hx hb hX hbl hbA hV.2.2.2.2.1 hi1 dL_law_555 ?_
      refine lv_aload_n hx hb dL_law_556 rfl (lv_at hl 1 rfl) ?_
      refine lv_iload hx hb dL_law_557 (lv_at hl 5 rfl) ?_
      refine lv_iconst (v := 2) hx hb dL_law_559 (by decide) ?_
      refine lv_iadd hx hb dL_law_560 ?_
      refine va_sld hx hb hX hbl hbA hV.2.2.2.2.1 hi2 dL_law_561 ?_
      refine k_X10_sleeve hy1 cx (lw_toM hV) mk_7_156 ⟨Nat.le_of_ble_eq_true rfl, Nat.le_of_ble_eq_true rfl⟩ hcs hl.1 (Nat.le_of_ble_eq_true rfl) dL_law_562 (fun H locs hV => ?_)
      have hV := lw_ofM hV
      refine lv_istore (lv' := [(6, .int r), (5, .int 2), (0, .ref b), (1, .ref (eA E 0)), (2, .ref (eA (eW E ad) 0)), (3, .ref o), (4, .int x4)]) hx hb dL_law_565 hl (by decide) rfl (fun ls hl => ?_)
      refine lv_aload_n hx hb dL_law_567 rfl (lv_at hl 4 rfl) ?_
      refine k_X10_thrown (rv := 2) (show x_X10_thrown _ = some 2 from congrArg some h0) cx (lw_toM hV) mk_6_75 ⟨Nat.le_of_ble_eq_true rfl, Nat.le_of_ble_eq_true rfl⟩ hcs hl.1 (Nat.le_of_ble_eq_true rfl) dL_law_568 (fun H locs hV => ?_)
      have hV := lw_ofM hV
      refine lv_iload hx hb dL_law_571 (lv_at hl 1 rfl) ?_
      refine lv_icmp_eq (tgt := 578) hx hb dL_law_573 (by decide) (fun _ => ?_) (fun q => absurd rfl q)
      refine lv_iload hx hb dL_law_578 (lv_at hl 1 rfl) ?_
      refine lv_if_ne (tgt := 595) hx hb dL_law_580 (by decide) (fun _ => ?_) (fun q => absurd q (by decide))
      refine lv_goto (tgt := 2051) hx hb dL_law_595 (by decide) ?_
      refine W.widen (k := cells + 1) (n := slots + 6) (by omega) (by omega) ?_
      exact kk _ _ _ _ _ _ hV hI2 (lv_sub hl [2, 3, 4, 5, 6] rfl)
set_option maxHeartbeats 4000000 in
set_option maxRecDepth 100000 in
theorem lc_looker {p : Program} {l : Launch} {e : Env} {s : State} {m : MethodId} {below : List Frame} {meth : Method} {c : Code} {b L : Nat} {xs : Nat → Int32} {E : EV} {ad : Nat → Nat} {σ τ : St} {o : Nat} {f : Nat → Int64} {H : Heap} {locs : List Loc} {ls : Array Slot} {x4 : Int32} {cells slots : Nat} {Q : State → Prop} (D : LwD p l s m c b L xs E ad) (hi1 : vp_in (x4 + 1) L) (hi2 : vp_in (x4 + 2) L) (hi3 : vp_in (x4 + 3) L) (hi4 : vp_in (x4 + 4) L) (hi5 : vp_in (x4 + 5) L) (hcs : cells + 1 ≤ room_1.cells ∧ slots + 6 ≤ room_1.slots) (hV : AtW E (lwW E ad σ τ o f) (lwA s) s H locs) (hI : Inv σ τ) (hl : lv_has ls 8 [(0, .ref b), (1, .ref (eA E 0)), (2, .ref (eA (eW E ad) 0)), (3, .ref o), (4, .int x4)]) (kk : LwK p l e s m below meth c b E ad o x4 cells slots Q) : W p l e room_1 s m #[Value.ref b] below meth c H locs cells slots Q (F0 m 598 ls []) := by
  obtain ⟨cx, hX, hbl, hF, hF2, hN, hT⟩ := D
  have hx := cx.1
  have hb := cx.2.1
  have hbA : ¬ lwA s b := Nat.not_le.mpr hbl
  have hc0 : cells ≤ room_1.cells ∧ slots ≤ room_1.slots := ⟨Nat.le_trans (Nat.le_add_right _ 1) hcs.1, Nat.le_trans (Nat.le_add_right _ 6) hcs.2⟩
  rcases op_looker hI (xs (x4 + 1).toNatClampNeg) (xs (x4 + 2).toNatClampNeg) with ⟨r, σ2, τ2, hx1, hy1, h0, hI2⟩ | ⟨c9, σ2, r, τ2, hx1, hy1, hc, hI2⟩
  · refine lv_aload_n hx hb dL_law_598 rfl (lv_at hl 1 rfl) ?_
    refine lv_aload_n hx hb dL_law_599 rfl (lv_at hl 0 rfl) ?_
    refine lv_iload hx hb dL_law_600 (lv_at hl 4 rfl) ?_
    refine lv_iconst (v := 1) hx hb dL_law_602 (by decide) ?_
    refine lv_iadd hx hb dL_law_603 ?_
    refine va_sld hx hb hX hbl hbA hV.2.2.2.2.1 hi1 dL_law_604 ?_
    refine lv_aload_n hx hb dL_law_605 rfl (lv_at hl 0 rfl) ?_
    refine lv_iload hx hb dL_law_606 (lv_at hl 4 rfl) ?_
    refine lv_iconst (v := 2) hx hb dL_law_608 (by decide) ?_
    refine lv_iadd hx hb dL_law_609 ?_
    refine va_sld hx hb hX hbl hbA hV.2.2.2.2.1 hi2 dL_law_610 ?_
    refine lv_aload_n hx hb dL_law_611 rfl (lv_at hl 3 rfl) ?_
    refine r_stW (n := 4) (As := [.ref (eA E 0), .int (xs (x4 + 1).toNatClampNeg), .int (xs (x4 + 2).toNatClampNeg), .ref o]) (w_L_looker hx1) lw_fst mk_5_24 mk_1_0 mk_5_25 (by decide +kernel) rfl ⟨rfl, rfl⟩ cx hV hF hN mk_5_23 ⟨Nat.le_of_ble_eq_true rfl, Nat.le_of_ble_eq_true rfl⟩ hc0 hl.1 rfl (Nat.le_of_ble_eq_true rfl) dL_law_612 (fun H locs hV => ?_)
    refine lv_istore (lv' := [(5, .int 0), (0, .ref b), (1, .ref (eA E 0)), (2, .ref (eA (eW E ad) 0)), (3, .ref o), (4, .int x4)]) hx hb dL_law_615 hl (by decide) rfl (fun ls hl => ?_)
    refine lv_aload_n hx hb dL_law_617 rfl (lv_at hl 3 rfl) ?_
    refine lv_aload_n hx hb dL_law_618 rfl (lv_at hl 1 rfl) ?_
    refine lv_iload hx hb dL_law_619 (lv_at hl 5 rfl) ?_
    refine lv_iconst (v := 1) hx hb dL_law_621 (by decide) ?_
    refine lv_iadd hx hb dL_law_622 ?_
    refine va_sld hx hb hX hbl hbA hV.2.2.2.2.1 hi1 dL_law_623 ?_
    refine lv_aload_n hx hb dL_law_624 rfl (lv_at hl 1 rfl) ?_
    refine lv_iload hx hb dL_law_625 (lv_at hl 5 rfl) ?_
    refine lv_iconst (v := 2) hx hb dL_law_627 (by decide) ?_
    refine lv_iadd hx hb dL_law_628 ?_
    refine va_sld hx hb hX hbl hbA hV.2.2.2.2.1 hi2 dL_law_629 ?_
    refine k_X10_looker hy1 cx (lw_toM hV) mk_7_176 ⟨Nat.le_of_ble_eq_true rfl, Nat.le_of_ble_eq_true rfl⟩ hc0 hl.1 (Nat.le_of_ble_eq_true rfl) dL_law_630 (fun H locs hV => ?_)
    have hV := lw_ofM hV
    refine lv_istore (lv' := [(6, .int r), (5, .int 0), (0, .ref b), (1, .ref (eA E 0)), (2, .ref (eA (eW E ad) 0)), (3, .ref o), (4, .int x4)]) hx hb dL_law_633 hl (by decide) rfl (fun ls hl => ?_)
    refine lv_aload_n hx hb dL_law_635 rfl (lv_at hl 4 rfl) ?_
    refine k_X10_thrown (rv := 0) (show x_X10_thrown _ = some 0 from congrArg some h0) cx (lw_toM hV) mk_6_75 ⟨Nat.le_of_ble_eq_true rfl, Nat.le_of_ble_eq_true rfl⟩ hc0 hl.1 (Nat.le_of_ble_eq_true rfl) dL_law_636 (fun H locs hV => ?_)
    have hV := lw_ofM hV
    refine lv_iload hx hb dL_law_639 (lv_at hl 1 rfl) ?_
    refine lv_icmp_eq (tgt := 646) hx hb dL_law_641 (by decide) (fun _ => ?_) (fun q => absurd rfl q)
    refine lv_iload hx hb dL_law_646 (lv_at hl 1 rfl) ?_
    refine lv_if_ne (tgt := 663) hx hb dL_law_648 (by decide) (fun q => absurd rfl q) (fun _ => ?_)
    refine lv_aload_n hx hb dL_law_651 rfl (lv_at hl 5 rfl) ?_
    refine lv_iconst (v := 0) hx hb dL_law_652 (by decide) ?_
    refine r_lald cx hV 115 rfl (n := 1) (by unfold vp_in; decide) dL_law_653 ?_
    rw [lw_upd0]
    refine lv_iload hx hb dL_law_654 (lv_at hl 0 rfl) ?_
    refine lv_i2l (v := Int32.toInt64 r) hx hb dL_law_656 rfl ?_
    refine W.lcmp hx hb dL_law_657 ?_
    rw [lw_cmp0]
    refine lv_if_eq (tgt := 663) hx hb dL_law_658 (by decide) (fun _ => ?_) (fun q => absurd rfl q)
    refine lv_goto (tgt := 2051) hx hb dL_law_663 (by decide) ?_
    refine W.widen (k := cells + 1) (n := slots + 6) (by omega) (by omega) ?_
    exact kk _ _ _ _ _ _ hV hI2 (lv_sub hl [2, 3, 4, 5, 6] rfl)
  · simp only [List.mem_cons, Prod.mk.injEq, List.not_mem_nil, or_false] at hc
    rcases hc with ⟨rfl, h0⟩ | ⟨rfl, h0⟩
    · refine lv_aload_n hx hb dL_law_598 rfl (lv_at hl 1 rfl) ?_
      refine lv_aload_n hx hb dL_law_599 rfl (lv_at hl 0 rfl) ?_
      refine lv_iload hx hb dL_law_600 (lv_at hl 4 rfl) ?_
      refine lv_iconst (v := 1) hx hb dL_law_602 (by decide) ?_
      refine lv_iadd hx hb dL_law_603 ?_
      refine va_sld hx hb hX hbl hbA hV.2.2.2.2.1 hi1 dL_law_604 ?_
      refine lv_aload_n hx hb dL_law_605 rfl (lv_at hl 0 rfl) ?_
      refine lv_iload hx hb dL_law_606 (lv_at hl 4 rfl) ?_
      refine lv_iconst (v := 2) hx hb dL_law_608 (by decide) ?_
      refine lv_iadd hx hb dL_law_609 ?_
      refine va_sld hx hb hX hbl hbA hV.2.2.2.2.1 hi2 dL_law_610 ?_
      refine lv_aload_n hx hb dL_law_611 rfl (lv_at hl 3 rfl) ?_
      refine r_stW (n := 4) (As := [.ref (eA E 0), .int (xs (x4 + 1).toNatClampNeg), .int (xs (x4 + 2).toNatClampNeg), .ref o]) (wt_L_looker_2 hT hx1) lw_fst mk_5_24 mk_1_0 mk_5_25 (by decide +kernel) rfl ⟨rfl, rfl⟩ cx hV hF hN mk_5_23 ⟨Nat.le_of_ble_eq_true rfl, Nat.le_of_ble_eq_true rfl⟩ hcs hl.1 rfl (Nat.le_of_ble_eq_true rfl) dL_law_612 (fun H locs hV => ?_)
      refine lv_istore (lv' := [(5, .int 1), (0, .ref b), (1, .ref (eA E 0)), (2, .ref (eA (eW E ad) 0)), (3, .ref o), (4, .int x4)]) hx hb dL_law_615 hl (by decide) rfl (fun ls hl => ?_)
      refine lv_aload_n hx hb dL_law_617 rfl (lv_at hl 3 rfl) ?_
      refine lv_aload_n hx hb dL_law_618 rfl (lv_at hl 1 rfl) ?_
      refine lv_iload hx hb dL_law_619 (lv_at hl 5 rfl) ?_
      refine lv_iconst (v := 1) hx hb dL_law_621 (by decide) ?_
      refine lv_iadd hx hb dL_law_622 ?_
      refine va_sld hx hb hX hbl hbA hV.2.2.2.2.1 hi1 dL_law_623 ?_
      refine lv_aload_n hx hb dL_law_624 rfl (lv_at hl 1 rfl) ?_
      refine lv_iload hx hb dL_law_625 (lv_at hl 5 rfl) ?_
      refine lv_iconst (v := 2) hx hb dL_law_627 (by decide) ?_
      refine lv_iadd hx hb dL_law_628 ?_
      refine va_sld hx hb hX hbl hbA hV.2.2.2.2.1 hi2 dL_law_629 ?_
      refine k_X10_looker hy1 cx (lw_toM hV) mk_7_176 ⟨Nat.le_of_ble_eq_true rfl, Nat.le_of_ble_eq_true rfl⟩ hcs hl.1 (Nat.le_of_ble_eq_true rfl) dL_law_630 (fun H locs hV => ?_)
      have hV := lw_ofM hV
      refine lv_istore (lv' := [(6, .int r), (5, .int 1), (0, .ref b), (1, .ref (eA E 0)), (2, .ref (eA (eW E ad) 0)), (3, .ref o), (4, .int x4)]) hx hb dL_law_633 hl (by decide) rfl (fun ls hl => ?_)
      refine lv_aload_n hx hb dL_law_635 rfl (lv_at hl 4 rfl) ?_
      refine k_X10_thrown (rv := 1) (show x_X10_thrown _ = some 1 from congrArg some h0) cx (lw_toM hV) mk_6_75 ⟨Nat.le_of_ble_eq_true rfl, Nat.le_of_ble_eq_true rfl⟩ hcs hl.1 (Nat.le_of_ble_eq_true rfl) dL_law_636 (fun H locs hV => ?_)
      have hV := lw_ofM hV
      refine lv_iload hx hb dL_law_639 (lv_at hl 1 rfl) ?_
      refine lv_icmp_eq (tgt := 646) hx hb dL_law_641 (by decide) (fun _ => ?_) (fun q => absurd rfl q)
      refine lv_iload hx hb dL_law_646 (lv_at hl 1 rfl) ?_
      refine lv_if_ne (tgt := 663) hx hb dL_law_648 (by decide) (fun _ => ?_) (fun q => absurd q (by decide))
      refine lv_goto (tgt := 2051) hx hb dL_law_663 (by decide) ?_
      refine W.widen (k := cells + 1) (n := slots + 6) (by omega) (by omega) ?_
      exact kk _ _ _ _ _ _ hV hI2 (lv_sub hl [2, 3, 4, 5, 6] rfl)
    · refine lv_aload_n hx hb dL_law_598 rfl (lv_at hl 1 rfl) ?_
      refine lv_aload_n hx hb dL_law_599 rfl (lv_at hl 0 rfl) ?_
      refine lv_iload hx hb dL_law_600 (lv_at hl 4 rfl) ?_
      refine lv_iconst (v := 1) hx hb dL_law_602 (by decide) ?_
      refine lv_iadd hx hb dL_law_603 ?_
      refine va_sld hx hb hX hbl hbA hV.2.2.2.2.1 hi1 dL_law_604 ?_
      refine lv_aload_n hx hb dL_law_605 rfl (lv_at hl 0 rfl) ?_
      refine lv_iload hx hb dL_law_606 (lv_at hl 4 rfl) ?_
      refine lv_iconst (v := 2) hx hb dL_law_608 (by decide) ?_
      refine lv_iadd hx hb dL_law_609 ?_
      refine va_sld hx hb hX hbl hbA hV.2.2.2.2.1 hi2 dL_law_610 ?_
      refine lv_aload_n hx hb dL_law_611 rfl (lv_at hl 3 rfl) ?_
      refine r_stW (n := 4) (As := [.ref (eA E 0), .int (xs (x4 + 1).toNatClampNeg), .int (xs (x4 + 2).toNatClampNeg), .ref o]) (wt_L_looker_3 hT hx1) lw_fst mk_5_24 mk_1_0 mk_5_25 (by decide +kernel) rfl ⟨rfl, rfl⟩ cx hV hF hN mk_5_23 ⟨Nat.le_of_ble_eq_true rfl, Nat.le_of_ble_eq_true rfl⟩ hcs hl.1 rfl (Nat.le_of_ble_eq_true rfl) dL_law_612 (fun H locs hV => ?_)
      refine lv_istore (lv' := [(5, .int 2), (0, .ref b), (1, .ref (eA E 0)), (2, .ref (eA (eW E ad) 0)), (3, .ref o), (4, .int x4)]) hx hb dL_law_615 hl (by decide) rfl (fun ls hl => ?_)
      refine lv_aload_n hx hb dL_law_617 rfl (lv_at hl 3 rfl) ?_
      refine lv_aload_n hx hb dL_law_618 rfl (lv_at hl 1 rfl) ?_
      refine lv_iload hx hb dL_law_619 (lv_at hl 5 rfl) ?_
      refine lv_iconst (v := 1) hx hb dL_law_621 (by decide) ?_
      refine lv_iadd hx hb dL_law_622 ?_
      refine va_sld hx hb hX hbl hbA hV.2.2.2.2.1 hi1 dL_law_623 ?_
      refine lv_aload_n hx hb dL_law_624 rfl (lv_at hl 1 rfl) ?_
      refine lv_iload hx hb dL_law_625 (lv_at hl 5 rfl) ?_
      refine lv_iconst (v := 2) hx hb dL_law_627 (by decide) ?_
      refine lv_iadd hx hb dL_law_628 ?_
      refine va_sld hx hb hX hbl hbA hV.2.2.2.2.1 hi2 dL_law_629 ?_
      refine k_X10_looker hy1 cx (lw_toM hV) mk_7_176 ⟨Nat.le_of_ble_eq_true rfl, Nat.le_of_ble_eq_true rfl⟩ hcs hl.1 (Nat.le_of_ble_eq_true rfl) dL_law_630 (fun H locs hV => ?_)
      have hV := lw_ofM hV
      refine lv_istore (lv' := [(6, .int r), (5, .int 2), (0, .ref b), (1, .ref (eA E 0)), (2, .ref (eA (eW E ad) 0)), (3, .ref o), (4, .int x4)]) hx hb dL_law_633 hl (by decide) rfl (fun ls hl => ?_)
      refine lv_aload_n hx hb dL_law_635 rfl (lv_at hl 4 rfl) ?_
      refine k_X10_thrown (rv := 2) (show x_X10_thrown _ = some 2 from congrArg some h0) cx (lw_toM hV) mk_6_75 ⟨Nat.le_of_ble_eq_true rfl, Nat.le_of_ble_eq_true rfl⟩ hcs hl.1 (Nat.le_of_ble_eq_true rfl) dL_law_636 (fun H locs hV => ?_)
      have hV := lw_ofM hV
      refine lv_iload hx hb dL_law_639 (lv_at hl 1 rfl) ?_
      refine lv_icmp_eq (tgt := 646) hx hb dL_law_641 (by decide) (fun _ => ?_) (fun q => absurd rfl q)
      refine lv_iload hx hb dL_law_646 (lv_at hl 1 rfl) ?_
      refine lv_if_ne (tgt := 663) hx hb dL_law_648 (by decide) (fun _ => ?_) (fun q => absurd q (by decide))
      refine lv_goto (tgt := 2051) hx hb dL_law_663 (by decide) ?_
      refine W.widen (k := cells + 1) (n := slots + 6) (by omega) (by omega) ?_
      exact kk _ _ _ _ _ _ hV hI2 (lv_sub hl [2, 3, 4, 5, 6] rfl)
set_option maxHeartbeats 4000000 in
set_option maxRecDepth 100000 in
theorem lc_missed {p : Program} {l : Launch} {e : Env} {s : State} {m : MethodId} {below : List Frame} {meth : Method} {c : Code} {b L : Nat} {xs : Nat → Int32} {E : EV} {ad : Nat → Nat} {σ τ : St} {o : Nat} {f : Nat → Int64} {H : Heap} {locs : List Loc} {ls : Array Slot} {x4 : Int32} {cells slots : Nat} {Q : State → Prop} (D : LwD p l s m c b L xs E ad) (hi1 : vp_in (x4 + 1) L) (hi2 : vp_in (x4 + 2) L) (hi3 : vp_in (x4 + 3) L) (hi4 : vp_in (x4 + 4) L) (hi5 : vp_in (x4 + 5) L) (hcs : cells + 1 ≤ room_1.cells ∧ slots + 6 ≤ room_1.slots) (hV : AtW E (lwW E ad σ τ o f) (lwA s) s H locs) (hI : Inv σ τ) (hl : lv_has ls 8 [(0, .ref b), (1, .ref (eA E 0)), (2, .ref (eA (eW E ad) 0)), (3, .ref o), (4, .int x4)]) (kk : LwK p l e s m below meth c b E ad o x4 cells slots Q) : W p l e room_1 s m #[Value.ref b] below meth c H locs cells slots Q (F0 m 666 ls []) := by
  obtain ⟨cx, hX, hbl, hF, hF2, hN, hT⟩ := D
  have hx := cx.1
  have hb := cx.2.1
  have hbA : ¬ lwA s b := Nat.not_le.mpr hbl
  have hc0 : cells ≤ room_1.cells ∧ slots ≤ room_1.slots := ⟨Nat.le_trans (Nat.le_add_right _ 1) hcs.1, Nat.le_trans (Nat.le_add_right _ 6) hcs.2⟩
  rcases op_missed hI (xs (x4 + 1).toNatClampNeg) with ⟨r, σ2, τ2, hx1, hy1, h0, hI2⟩ | ⟨c9, σ2, r, τ2, hx1, hy1, hc, hI2⟩
  · refine lv_aload_n hx hb dL_law_666 rfl (lv_at hl 1 rfl) ?_
    refine lv_aload_n hx hb dL_law_667 rfl (lv_at hl 0 rfl) ?_
    refine lv_iload hx hb dL_law_668 (lv_at hl 4 rfl) ?_
    refine lv_iconst (v := 1) hx hb dL_law_670 (by decide) ?_
    refine lv_iadd hx hb dL_law_671 ?_
    refine va_sld hx hb hX hbl hbA hV.2.2.2.2.1 hi1 dL_law_672 ?_
    refine lv_aload_n hx hb dL_law_673 rfl (lv_at hl 3 rfl) ?_
    refine r_stW (n := 3) (As := [.ref (eA E 0), .int (xs (x4 + 1).toNatClampNeg), .ref o]) (w_L_missed hx1) lw_fst mk_5_37 mk_1_0 mk_5_38 (by decide +kernel) rfl ⟨rfl, rfl⟩ cx hV hF hN mk_5_36 ⟨Nat.le_of_ble_eq_true rfl, Nat.le_of_ble_eq_true rfl⟩ hc0 hl.1 rfl (Nat.le_of_ble_eq_true rfl) dL_law_674 (fun H locs hV => ?_)
    refine lv_istore (lv' := [(5, .int 0), (0, .ref b), (1, .ref (eA E 0)), (2, .ref (eA (eW E ad) 0)), (3, .ref o), (4, .int x4)]) hx hb dL_law_677 hl (by decide) rfl (fun ls hl => ?_)
    refine lv_aload_n hx hb dL_law_679 rfl (lv_at hl 3 rfl) ?_
    refine lv_aload_n hx hb dL_law_680 rfl (lv_at hl 1 rfl) ?_
    refine lv_iload hx hb dL_law_681 (lv_at hl 5 rfl) ?_
    refine lv_iconst (v := 1) hx hb dL_law_683 (by decide) ?_
    refine lv_iadd hx hb dL_law_684 ?_
    refine va_sld hx hb hX hbl hbA hV.2.2.2.2.1 hi1 dL_law_685 ?_
    refine k_X10_missed hy1 cx (lw_toM hV) mk_7_184 ⟨Nat.le_of_ble_eq_true rfl, Nat.le_of_ble_eq_true rfl⟩ hc0 hl.1 (Nat.le_of_ble_eq_true rfl) dL_law_686 (fun H locs hV => ?_)
    have hV := lw_ofM hV
    refine lv_istore (lv' := [(6, .int r), (5, .int 0), (0, .ref b), (1, .ref (eA E 0)), (2, .ref (eA (eW E ad) 0)), (3, .ref o), (4, .int x4)]) hx hb dL_law_689 hl (by decide) rfl (fun ls hl => ?_)
    refine lv_aload_n hx hb dL_law_691 rfl (lv_at hl 4 rfl) ?_
    refine k_X10_thrown (rv := 0) (show x_X10_thrown _ = some 0 from congrArg some h0) cx (lw_toM hV) mk_6_75 ⟨Nat.le_of_ble_eq_true rfl, Nat.le_of_ble_eq_true rfl⟩ hc0 hl.1 (Nat.le_of_ble_eq_true rfl) dL_law_692 (fun H locs hV => ?_)
    have hV := lw_ofM hV
    refine lv_iload hx hb dL_law_695 (lv_at hl 1 rfl) ?_
    refine lv_icmp_eq (tgt := 702) hx hb dL_law_697 (by decide) (fun _ => ?_) (fun q => absurd rfl q)
    refine lv_iload hx hb dL_law_702 (lv_at hl 1 rfl) ?_
    refine lv_if_ne (tgt := 719) hx hb dL_law_704 (by decide) (fun q => absurd rfl q) (fun _ => ?_)
    refine lv_aload_n hx hb dL_law_707 rfl (lv_at hl 5 rfl) ?_
    refine lv_iconst (v := 0) hx hb dL_law_708 (by decide) ?_
    refine r_lald cx hV 115 rfl (n := 1) (by unfold vp_in; decide) dL_law_709 ?_
    rw [lw_upd0]
    refine lv_iload hx hb dL_law_710 (lv_at hl 0 rfl) ?_
    refine lv_i2l (v := Int32.toInt64 r) hx hb dL_law_712 rfl ?_
    refine W.lcmp hx hb dL_law_713 ?_
    rw [lw_cmp0]
    refine lv_if_eq (tgt := 719) hx hb dL_law_714 (by decide) (fun _ => ?_) (fun q => absurd rfl q)
    refine lv_goto (tgt := 2051) hx hb dL_law_719 (by decide) ?_
    refine W.widen (k := cells + 1) (n := slots + 6) (by omega) (by omega) ?_
    exact kk _ _ _ _ _ _ hV hI2 (lv_sub hl [2, 3, 4, 5, 6] rfl)
  · simp only [List.mem_cons, Prod.mk.injEq, List.not_mem_nil, or_false] at hc
    obtain ⟨rfl, h0⟩ := hc
    refine lv_aload_n hx hb dL_law_666 rfl (lv_at hl 1 rfl) ?_
    refine lv_aload_n hx hb dL_law_667 rfl (lv_at hl 0 rfl) ?_
    refine lv_iload hx hb dL_law_668 (lv_at hl 4 rfl) ?_
    refine lv_iconst (v := 1) hx hb dL_law_670 (by decide) ?_
    refine lv_iadd hx hb dL_law_671 ?_
    refine va_sld hx hb hX hbl hbA hV.2.2.2.2.1 hi1 dL_law_672 ?_
    refine lv_aload_n hx hb dL_law_673 rfl (lv_at hl 3 rfl) ?_
    refine r_stW (n := 3) (As := [.ref (eA E 0), .int (xs (x4 + 1).toNatClampNeg), .ref o]) (wt_L_missed_3 hT hx1) lw_fst mk_5_37 mk_1_0 mk_5_38 (by decide +kernel) rfl ⟨rfl, rfl⟩ cx hV hF hN mk_5_36 ⟨Nat.le_of_ble_eq_true rfl, Nat.le_of_ble_eq_true rfl⟩ hcs hl.1 rfl (Nat.le_of_ble_eq_true rfl) dL_law_674 (fun H locs hV => ?_)
    refine lv_istore (lv' := [(5, .int 1), (0, .ref b), (1, .ref (eA E 0)), (2, .ref (eA (eW E ad) 0)), (3, .ref o), (4, .int x4)]) hx hb dL_law_677 hl (by decide) rfl (fun ls hl => ?_)
    refine lv_aload_n hx hb dL_law_679 rfl (lv_at hl 3 rfl) ?_
    refine lv_aload_n hx hb dL_law_680 rfl (lv_at hl 1 rfl) ?_
    refine lv_iload hx hb dL_law_681 (lv_at hl 5 rfl) ?_
    refine lv_iconst (v := 1) hx hb dL_law_683 (by decide) ?_
    refine lv_iadd hx hb dL_law_684 ?_
    refine va_sld hx hb hX hbl hbA hV.2.2.2.2.1 hi1 dL_law_685 ?_
    refine k_X10_missed hy1 cx (lw_toM hV) mk_7_184 ⟨Nat.le_of_ble_eq_true rfl, Nat.le_of_ble_eq_true rfl⟩ hcs hl.1 (Nat.le_of_ble_eq_true rfl) dL_law_686 (fun H locs hV => ?_)
    have hV := lw_ofM hV
    refine lv_istore (lv' := [(6, .int r), (5, .int 1), (0, .ref b), (1, .ref (eA E 0)), (2, .ref (eA (eW E ad) 0)), (3, .ref o), (4, .int x4)]) hx hb dL_law_689 hl (by decide) rfl (fun ls hl => ?_)
    refine lv_aload_n hx hb dL_law_691 rfl (lv_at hl 4 rfl) ?_
    refine k_X10_thrown (rv := 1) (show x_X10_thrown _ = some 1 from congrArg some h0) cx (lw_toM hV) mk_6_75 ⟨Nat.le_of_ble_eq_true rfl, Nat.le_of_ble_eq_true rfl⟩ hcs hl.1 (Nat.le_of_ble_eq_true rfl) dL_law_692 (fun H locs hV => ?_)
    have hV := lw_ofM hV
    refine lv_iload hx hb dL_law_695 (lv_at hl 1 rfl) ?_
    refine lv_icmp_eq (tgt := 702) hx hb dL_law_697 (by decide) (fun _ => ?_) (fun q => absurd rfl q)
    refine lv_iload hx hb dL_law_702 (lv_at hl 1 rfl) ?_
    refine lv_if_ne (tgt := 719) hx hb dL_law_704 (by decide) (fun _ => ?_) (fun q => absurd q (by decide))
    refine lv_goto (tgt := 2051) hx hb dL_law_719 (by decide) ?_
    refine W.widen (k := cells + 1) (n := slots + 6) (by omega) (by omega) ?_
    exact kk _ _ _ _ _ _ hV hI2 (lv_sub hl [2, 3, 4, 5, 6] rfl)
set_option maxHeartbeats 4000000 in
set_option maxRecDepth 100000 in
theorem lc_lay {p : Program} {l : Launch} {e : Env} {s : State} {m : MethodId} {below : List Frame} {meth : Method} {c : Code} {b L : Nat} {xs : Nat → Int32} {E : EV} {ad : Nat → Nat} {σ τ : St} {o : Nat} {f : Nat → Int64} {H : Heap} {locs : List Loc} {ls : Array Slot} {x4 : Int32} {cells slots : Nat} {Q : State → Prop} (D : LwD p l s m c b L xs E ad) (hi1 : vp_in (x4 + 1) L) (hi2 : vp_in (x4 + 2) L) (hi3 : vp_in (x4 + 3) L) (hi4 : vp_in (x4 + 4) L) (hi5 : vp_in (x4 + 5) L) (hcs : cells + 1 ≤ room_1.cells ∧ slots + 6 ≤ room_1.slots) (hV : AtW E (lwW E ad σ τ o f) (lwA s) s H locs) (hI : Inv σ τ) (hl : lv_has ls 8 [(0, .ref b), (1, .ref (eA E 0)), (2, .ref (eA (eW E ad) 0)), (3, .ref o), (4, .int x4)]) (kk : LwK p l e s m below meth c b E ad o x4 cells slots Q) : W p l e room_1 s m #[Value.ref b] below meth c H locs cells slots Q (F0 m 722 ls []) := by
  obtain ⟨cx, hX, hbl, hF, hF2, hN, hT⟩ := D
  have hx := cx.1
  have hb := cx.2.1
  have hbA : ¬ lwA s b := Nat.not_le.mpr hbl
  have hc0 : cells ≤ room_1.cells ∧ slots ≤ room_1.slots := ⟨Nat.le_trans (Nat.le_add_right _ 1) hcs.1, Nat.le_trans (Nat.le_add_right _ 6) hcs.2⟩
  rcases op_lay hI (xs (x4 + 1).toNatClampNeg) (xs (x4 + 2).toNatClampNeg) with ⟨r, σ2, τ2, hx1, hy1, h0, hI2⟩ | ⟨c9, σ2, r, τ2, hx1, hy1, hc, hI2⟩
  · refine lv_aload_n hx hb dL_law_722 rfl (lv_at hl 1 rfl) ?_
    refine lv_aload_n hx hb dL_law_723 rfl (lv_at hl 0 rfl) ?_
    refine lv_iload hx hb dL_law_724 (lv_at hl 4 rfl) ?_
    refine lv_iconst (v := 1) hx hb dL_law_726 (by decide) ?_
    refine lv_iadd hx hb dL_law_727 ?_
    refine va_sld hx hb hX hbl hbA hV.2.2.2.2.1 hi1 dL_law_728 ?_
    refine lv_aload_n hx hb dL_law_729 rfl (lv_at hl 0 rfl) ?_
    refine lv_iload hx hb dL_law_730 (lv_at hl 4 rfl) ?_
    refine lv_iconst (v := 2) hx hb dL_law_732 (by decide) ?_
    refine lv_iadd hx hb dL_law_733 ?_
    refine va_sld hx hb hX hbl hbA hV.2.2.2.2.1 hi2 dL_law_734 ?_
    refine lv_aload_n hx hb dL_law_735 rfl (lv_at hl 3 rfl) ?_
    refine r_stW (n := 4) (As := [.ref (eA E 0), .int (xs (x4 + 1).toNatClampNeg), .int (xs (x4 + 2).toNatClampNeg), .ref o]) (w_L_lay hx1) lw_fst mk_5_47 mk_1_0 mk_5_48 (by decide +kernel) rfl ⟨rfl, rfl⟩ cx hV hF hN mk_5_46 ⟨Nat.le_of_ble_eq_true rfl, Nat.le_of_ble_eq_true rfl⟩ hc0 hl.1 rfl (Nat.le_of_ble_eq_true rfl) dL_law_736 (fun H locs hV => ?_)
    refine lv_istore (lv' := [(5, .int 0), (0, .ref b), (1, .ref (eA E 0)), (2, .ref (eA (eW E ad) 0)), (3, .ref o), (4, .int x4)]) hx hb dL_law_739 hl (by decide) rfl (fun ls hl => ?_)
    refine lv_aload_n hx hb dL_law_741 rfl (lv_at hl 3 rfl) ?_
    refine lv_aload_n hx hb dL_law_742 rfl (lv_at hl 1 rfl) ?_
    refine lv_iload hx hb dL_law_743 (lv_at hl 5 rfl) ?_
    refine lv_iconst (v := 1) hx hb dL_law_745 (by decide) ?_
    refine lv_iadd hx hb dL_law_746 ?_
    refine va_sld hx hb hX hbl hbA hV.2.2.2.2.1 hi1 dL_law_747 ?_
    refine lv_aload_n hx hb dL_law_748 rfl (lv_at hl 1 rfl) ?_
    refine lv_iload hx hb dL_law_749 (lv_at hl 5 rfl) ?_
    refine lv_iconst (v := 2) hx hb dL_law_751 (by decide) ?_
    refine lv_iadd hx hb dL_law_752 ?_
    refine va_sld hx hb hX hbl hbA hV.2.2.2.2.1 hi2 dL_law_753 ?_
    refine k_X10_lay hy1 cx (lw_toM hV) mk_7_188 ⟨Nat.le_of_ble_eq_true rfl, Nat.le_of_ble_eq_true rfl⟩ hc0 hl.1 (Nat.le_of_ble_eq_true rfl) dL_law_754 (fun H locs hV => ?_)
    have hV := lw_ofM hV
    refine lv_istore (lv' := [(6, .int r), (5, .int 0), (0, .ref b), (1, .ref (eA E 0)), (2, .ref (eA (eW E ad) 0)), (3, .ref o), (4, .int x4)]) hx hb dL_law_757 hl (by decide) rfl (fun ls hl => ?_)
    refine lv_aload_n hx hb dL_law_759 rfl (lv_at hl 4 rfl) ?_
    refine k_X10_thrown (rv := 0) (show x_X10_thrown _ = some 0 from congrArg some h0) cx (lw_toM hV) mk_6_75 ⟨Nat.le_of_ble_eq_true rfl, Nat.le_of_ble_eq_true rfl⟩ hc0 hl.1 (Nat.le_of_ble_eq_true rfl) dL_law_760 (fun H locs hV => ?_)
    have hV := lw_ofM hV
    refine lv_iload hx hb dL_law_763 (lv_at hl 1 rfl) ?_
    refine lv_icmp_eq (tgt := 770) hx hb dL_law_765 (by decide) (fun _ => ?_) (fun q => absurd rfl q)
    refine lv_iload hx hb dL_law_770 (lv_at hl 1 rfl) ?_
    refine lv_if_ne (tgt := 787) hx hb dL_law_772 (by decide) (fun q => absurd rfl q) (fun _ => ?_)
    refine lv_aload_n hx hb dL_law_775 rfl (lv_at hl 5 rfl) ?_
    refine lv_iconst (v := 0) hx hb dL_law_776 (by decide) ?_
    refine r_lald cx hV 115 rfl (n := 1) (by unfold vp_in; decide) dL_law_777 ?_
    rw [lw_upd0]
    refine lv_iload hx hb dL_law_778 (lv_at hl 0 rfl) ?_
    refine lv_i2l (v := Int32.toInt64 r) hx hb dL_law_780 rfl ?_
    refine W.lcmp hx hb dL_law_781 ?_
    rw [lw_cmp0]
    refine lv_if_eq (tgt := 787) hx hb dL_law_782 (by decide) (fun _ => ?_) (fun q => absurd rfl q)
    refine lv_goto (tgt := 2051) hx hb dL_law_787 (by decide) ?_
    refine W.widen (k := cells + 1) (n := slots + 6) (by omega) (by omega) ?_
    exact kk _ _ _ _ _ _ hV hI2 (lv_sub hl [2, 3, 4, 5, 6] rfl)
  · simp only [List.mem_cons, Prod.mk.injEq, List.not_mem_nil, or_false] at hc
    rcases hc with ⟨rfl, h0⟩ | ⟨rfl, h0⟩ | ⟨rfl, h0⟩
    · refine lv_aload_n hx hb dL_law_722 rfl (lv_at hl 1 rfl) ?_
      refine lv_aload_n hx hb dL_law_723 rfl (lv_at hl 0 rfl) ?_
      refine lv_iload hx hb dL_law_724 (lv_at hl 4 rfl) ?_
      refine lv_iconst (v := 1) hx hb dL_law_726 (by decide) ?_
      refine lv_iadd hx hb dL_law_727 ?_
      refine va_sld hx hb hX hbl hbA hV.2.2.2.2.1 hi1 dL_law_728 ?_
      refine lv_aload_n hx hb dL_law_729 rfl (lv_at hl 0 rfl) ?_
      refine lv_iload hx hb dL_law_730 (lv_at hl 4 rfl) ?_
      refine lv_iconst (v := 2) hx hb dL_law_732 (by decide) ?_
      refine lv_iadd hx hb dL_law_733 ?_
      refine va_sld hx hb hX hbl hbA hV.2.2.2.2.1 hi2 dL_law_734 ?_
      refine lv_aload_n hx hb dL_law_735 rfl (lv_at hl 3 rfl) ?_
      refine r_stW (n := 4) (As := [.ref (eA E 0), .int (xs (x4 + 1).toNatClampNeg), .int (xs (x4 + 2).toNatClampNeg), .ref o]) (wt_L_lay_1 hT hx1) lw_fst mk_5_47 mk_1_0 mk_5_48 (by decide +kernel) rfl ⟨rfl, rfl⟩ cx hV hF hN mk_5_46 ⟨Nat.le_of_ble_eq_true rfl, Nat.le_of_ble_eq_true rfl⟩ hcs hl.1 rfl (Nat.le_of_ble_eq_true rfl) dL_law_736 (fun H locs hV => ?_)
      refine lv_istore (lv' := [(5, .int 1), (0, .ref b), (1, .ref (eA E 0)), (2, .ref (eA (eW E ad) 0)), (3, .ref o), (4, .int x4)]) hx hb dL_law_739 hl (by decide) rfl (fun ls hl => ?_)
      refine lv_aload_n hx hb dL_law_741 rfl (lv_at hl 3 rfl) ?_
      refine lv_aload_n hx hb dL_law_742 rfl (lv_at hl 1 rfl) ?_
      refine lv_iload hx hb dL_law_743 (lv_at hl 5 rfl) ?_
      refine lv_iconst (v := 1) hx hb dL_law_745 (by decide) ?_
      refine lv_iadd hx hb dL_law_746 ?_
      refine va_sld hx hb hX hbl hbA hV.2.2.2.2.1 hi1 dL_law_747 ?_
      refine lv_aload_n hx hb dL_law_748 rfl (lv_at hl 1 rfl) ?_
      refine lv_iload hx hb dL_law_749 (lv_at hl 5 rfl) ?_
      refine lv_iconst (v := 2) hx hb dL_law_751 (by decide) ?_
      refine lv_iadd hx hb dL_law_752 ?_
      refine va_sld hx hb hX hbl hbA hV.2.2.2.2.1 hi2 dL_law_753 ?_
      refine k_X10_lay hy1 cx (lw_toM hV) mk_7_188 ⟨Nat.le_of_ble_eq_true rfl, Nat.le_of_ble_eq_true rfl⟩ hcs hl.1 (Nat.le_of_ble_eq_true rfl) dL_law_754 (fun H locs hV => ?_)
      have hV := lw_ofM hV
      refine lv_istore (lv' := [(6, .int r), (5, .int 1), (0, .ref b), (1, .ref (eA E 0)), (2, .ref (eA (eW E ad) 0)), (3, .ref o), (4, .int x4)]) hx hb dL_law_757 hl (by decide) rfl (fun ls hl => ?_)
      refine lv_aload_n hx hb dL_law_759 rfl (lv_at hl 4 rfl) ?_
      refine k_X10_thrown (rv := 1) (show x_X10_thrown _ = some 1 from congrArg some h0) cx (lw_toM hV) mk_6_75 ⟨Nat.le_of_ble_eq_true rfl, Nat.le_of_ble_eq_true rfl⟩ hcs hl.1 (Nat.le_of_ble_eq_true rfl) dL_law_760 (fun H locs hV => ?_)
      have hV := lw_ofM hV
      refine lv_iload hx hb dL_law_763 (lv_at hl 1 rfl) ?_
      refine lv_icmp_eq (tgt := 770) hx hb dL_law_765 (by decide) (fun _ => ?_) (fun q => absurd rfl q)
      refine lv_iload hx hb dL_law_770 (lv_at hl 1 rfl) ?_
      refine lv_if_ne (tgt := 787) hx hb dL_law_772 (by decide) (fun _ => ?_) (fun q => absurd q (by decide))
      refine lv_goto (tgt := 2051) hx hb dL_law_787 (by decide) ?_
      refine W.widen (k := cells + 1) (n := slots + 6) (by omega) (by omega) ?_
      exact kk _ _ _ _ _ _ hV hI2 (lv_sub hl [2, 3, 4, 5, 6] rfl)
    · refine lv_aload_n hx hb dL_law_722 rfl (lv_at hl 1 rfl) ?_
      refine lv_aload_n hx hb dL_law_723 rfl (lv_at hl 0 rfl) ?_
      refine lv_iload hx hb dL_law_724 (lv_at hl 4 rfl) ?_
      refine lv_iconst (v := 1) hx hb dL_law_726 (by decide) ?_
      refine lv_iadd hx hb dL_law_727 ?_
      refine va_sld hx hb hX hbl hbA hV.2.2.2.2.1 hi1 dL_law_728 ?_
      refine lv_aload_n hx hb dL_law_729 rfl (lv_at hl 0 rfl) ?_
      refine lv_iload hx hb dL_law_730 (lv_at hl 4 rfl) ?_
      refine lv_iconst (v := 2) hx hb dL_law_732 (by decide) ?_
      refine lv_iadd hx hb dL_law_733 ?_
      refine va_sld hx hb hX hbl hbA hV.2.2.2.2.1 hi2 dL_law_734 ?_
      refine lv_aload_n hx hb dL_law_735 rfl (lv_at hl 3 rfl) ?_
      refine r_stW (n := 4) (As := [.ref (eA E 0), .int (xs (x4 + 1).toNatClampNeg), .int (xs (x4 + 2).toNatClampNeg), .ref o]) (wt_L_lay_2 hT hx1) lw_fst mk_5_47 mk_1_0 mk_5_48 (by decide +kernel) rfl ⟨rfl, rfl⟩ cx hV hF hN mk_5_46 ⟨Nat.le_of_ble_eq_true rfl, Nat.le_of_ble_eq_true rfl⟩ hcs hl.1 rfl (Nat.le_of_ble_eq_true rfl) dL_law_736 (fun H locs hV => ?_)
      refine lv_istore (lv' := [(5, .int 2), (0, .ref b), (1, .ref (eA E 0)), (2, .ref (eA (eW E ad) 0)), (3, .ref o), (4, .int x4)]) hx hb dL_law_739 hl (by decide) rfl (fun ls hl => ?_)
      refine lv_aload_n hx hb dL_law_741 rfl (lv_at hl 3 rfl) ?_
      refine lv_aload_n hx hb dL_law_742 rfl (lv_at hl 1 rfl) ?_
      refine lv_iload hx hb dL_law_743 (lv_at hl 5 rfl) ?_
      refine lv_iconst (v := 1) hx hb dL_law_745 (by decide) ?_
      refine lv_iadd hx hb dL_law_746 ?_
      refine va_sld hx hb hX hbl hbA hV.2.2.2.2.1 hi1 dL_law_747 ?_
      refine lv_aload_n hx hb dL_law_748 rfl (lv_at hl 1 rfl) ?_
      refine lv_iload hx hb dL_law_749 (lv_at hl 5 rfl) ?_
      refine lv_iconst (v := 2) hx hb dL_law_751 (by decide) ?_
      refine lv_iadd hx hb dL_law_752 ?_
      refine va_sld hx hb hX hbl hbA hV.2.2.2.2.1 hi2 dL_law_753 ?_
      refine k_X10_lay hy1 cx (lw_toM hV) mk_7_188 ⟨Nat.le_of_ble_eq_true rfl, Nat.le_of_ble_eq_true rfl⟩ hcs hl.1 (Nat.le_of_ble_eq_true rfl) dL_law_754 (fun H locs hV => ?_)
      have hV := lw_ofM hV
      refine lv_istore (lv' := [(6, .int r), (5, .int 2), (0, .ref b), (1, .ref (eA E 0)), (2, .ref (eA (eW E ad) 0)), (3, .ref o), (4, .int x4)]) hx hb dL_law_757 hl (by decide) rfl (fun ls hl => ?_)
      refine lv_aload_n hx hb dL_law_759 rfl (lv_at hl 4 rfl) ?_
      refine k_X10_thrown (rv := 2) (show x_X10_thrown _ = some 2 from congrArg some h0) cx (lw_toM hV) mk_6_75 ⟨Nat.le_of_ble_eq_true rfl, Nat.le_of_ble_eq_true rfl⟩ hcs hl.1 (Nat.le_of_ble_eq_true rfl) dL_law_760 (fun H locs hV => ?_)
      have hV := lw_ofM hV
      refine lv_iload hx hb dL_law_763 (lv_at hl 1 rfl) ?_
      refine lv_icmp_eq (tgt := 770) hx hb dL_law_765 (by decide) (fun _ => ?_) (fun q => absurd rfl q)
      refine lv_iload hx hb dL_law_770 (lv_at hl 1 rfl) ?_
      refine lv_if_ne (tgt := 787) hx hb dL_law_772 (by decide) (fun _ => ?_) (fun q => absurd q (by decide))
      refine lv_goto (tgt := 2051) hx hb dL_law_787 (by decide) ?_
      refine W.widen (k := cells + 1) (n := slots + 6) (by omega) (by omega) ?_
      exact kk _ _ _ _ _ _ hV hI2 (lv_sub hl [2, 3, 4, 5, 6] rfl)
    · refine lv_aload_n hx hb dL_law_722 rfl (lv_at hl 1 rfl) ?_
      refine lv_aload_n hx hb dL_law_723 rfl (lv_at hl 0 rfl) ?_
      refine lv_iload hx hb dL_law_724 (lv_at hl 4 rfl) ?_
      refine lv_iconst (v := 1) hx hb dL_law_726 (by decide) ?_
      refine lv_iadd hx hb dL_law_727 ?_
      refine va_sld hx hb hX hbl hbA hV.2.2.2.2.1 hi1 dL_law_728 ?_
      refine lv_aload_n hx hb dL_law_729 rfl (lv_at hl 0 rfl) ?_
      refine lv_iload hx hb dL_law_730 (lv_at hl 4 rfl) ?_
      refine lv_iconst (v := 2) hx hb dL_law_732 (by decide) ?_
      refine lv_iadd hx hb dL_law_733 ?_
      refine va_sld hx hb hX hbl hbA hV.2.2.2.2.1 hi2 dL_law_734 ?_
      refine lv_aload_n hx hb dL_law_735 rfl (lv_at hl 3 rfl) ?_
      refine r_stW (n := 4) (As := [.ref (eA E 0), .int (xs (x4 + 1).toNatClampNeg), .int (xs (x4 + 2).toNatClampNeg), .ref o]) (wt_L_lay_4 hT hx1) lw_fst mk_5_47 mk_1_0 mk_5_48 (by decide +kernel) rfl ⟨rfl, rfl⟩ cx hV hF hN mk_5_46 ⟨Nat.le_of_ble_eq_true rfl, Nat.le_of_ble_eq_true rfl⟩ hcs hl.1 rfl (Nat.le_of_ble_eq_true rfl) dL_law_736 (fun H locs hV => ?_)
      refine lv_istore (lv' := [(5, .int 3), (0, .ref b), (1, .ref (eA E 0)), (2, .ref (eA (eW E ad) 0)), (3, .ref o), (4, .int x4)]) hx hb dL_law_739 hl (by decide) rfl (fun ls hl => ?_)
      refine lv_aload_n hx hb dL_law_741 rfl (lv_at hl 3 rfl) ?_
      refine lv_aload_n hx hb dL_law_742 rfl (lv_at hl 1 rfl) ?_
      refine lv_iload hx hb dL_law_743 (lv_at hl 5 rfl) ?_
      refine lv_iconst (v := 1) hx hb dL_law_745 (by decide) ?_
      refine lv_iadd hx hb dL_law_746 ?_
      refine va_sld hx hb hX hbl hbA hV.2.2.2.2.1 hi1 dL_law_747 ?_
      refine lv_aload_n hx hb dL_law_748 rfl (lv_at hl 1 rfl) ?_
      refine lv_iload hx hb dL_law_749 (lv_at hl 5 rfl) ?_
      refine lv_iconst (v := 2) hx hb dL_law_751 (by decide) ?_
      refine lv_iadd hx hb dL_law_752 ?_
      refine va_sld hx hb hX hbl hbA hV.2.2.2.2.1 hi2 dL_law_753 ?_
      refine k_X10_lay hy1 cx (lw_toM hV) mk_7_188 ⟨Nat.le_of_ble_eq_true rfl, Nat.le_of_ble_eq_true rfl⟩ hcs hl.1 (Nat.le_of_ble_eq_true rfl) dL_law_754 (fun H locs hV => ?_)
      have hV := lw_ofM hV
      refine lv_istore (lv' := [(6, .int r), (5, .int 3), (0, .ref b), (1, .ref (eA E 0)), (2, .ref (eA (eW E ad) 0)), (3, .ref o), (4, .int x4)]) hx hb dL_law_757 hl (by decide) rfl (fun ls hl => ?_)
      refine lv_aload_n hx hb dL_law_759 rfl (lv_at hl 4 rfl) ?_
      refine k_X10_thrown (rv := 3) (show x_X10_thrown _ = some 3 from congrArg some h0) cx (lw_toM hV) mk_6_75 ⟨Nat.le_of_ble_eq_true rfl, Nat.le_of_ble_eq_true rfl⟩ hcs hl.1 (Nat.le_of_ble_eq_true rfl) dL_law_760 (fun H locs hV => ?_)
      have hV := lw_ofM hV
      refine lv_iload hx hb dL_law_763 (lv_at hl 1 rfl) ?_
      refine lv_icmp_eq (tgt := 770) hx hb dL_law_765 (by decide) (fun _ => ?_) (fun q => absurd rfl q)
      refine lv_iload hx hb dL_law_770 (lv_at hl 1 rfl) ?_
      refine lv_if_ne (tgt := 787) hx hb dL_law_772 (by decide) (fun _ => ?_) (fun q => absurd q (by decide))
      refine lv_goto (tgt := 2051) hx hb dL_law_787 (by decide) ?_
      refine W.widen (k := cells + 1) (n := slots + 6) (by omega) (by omega) ?_
      exact kk _ _ _ _ _ _ hV hI2 (lv_sub hl [2, 3, 4, 5, 6] rfl)
