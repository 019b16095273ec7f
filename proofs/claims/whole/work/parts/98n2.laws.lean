set_option maxHeartbeats 4000000 in
set_option maxRecDepth 100000 in
theorem lc_change {p : Program} {l : Launch} {e : Env} {s : State} {m : MethodId} {below : List Frame} {meth : Method} {c : Code} {b L : Nat} {xs : Nat → Int32} {E : EV} {ad : Nat → Nat} {σ τ : St} {o : Nat} {f : Nat → Int64} {H : Heap} {locs : List Loc} {ls : Array Slot} {x4 : Int32} {cells slots : Nat} {Q : State → Prop} (D : LwD p l s m c b L xs E ad) (hi1 : vp_in (x4 + 1) L) (hi2 : vp_in (x4 + 2) L) (hi3 : vp_in (x4 + 3) L) (hi4 : vp_in (x4 + 4) L) (hi5 : vp_in (x4 + 5) L) (hcs : cells + 1 ≤ room_1.cells ∧ slots + 6 ≤ room_1.slots) (hV : AtW E (lwW E ad σ τ o f) (lwA s) s H locs) (hI : Inv σ τ) (hl : lv_has ls 8 [(0, .ref b), (1, .ref (eA E 0)), (2, .ref (eA (eW E ad) 0)), (3, .ref o), (4, .int x4)]) (kk : LwK p l e s m below meth c b E ad o x4 cells slots Q) : W p l e room_1 s m #[Value.ref b] below meth c H locs cells slots Q (F0 m 790 ls []) := by
  obtain ⟨cx, hX, hbl, hF, hF2, hN, hT⟩ := D
  have hx := cx.1
  have hb := cx.2.1
  have hbA : ¬ lwA s b := Nat.not_le.mpr hbl
  have hc0 : cells ≤ room_1.cells ∧ slots ≤ room_1.slots := ⟨Nat.le_trans (Nat.le_add_right _ 1) hcs.1, Nat.le_trans (Nat.le_add_right _ 6) hcs.2⟩
  rcases op_change hI (xs (x4 + 1).toNatClampNeg) (xs (x4 + 2).toNatClampNeg) with ⟨r, σ2, τ2, hx1, hy1, h0, hI2⟩ | ⟨c9, σ2, r, τ2, hx1, hy1, hc, hI2⟩
  · refine lv_aload_n hx hb dL_law_790 rfl (lv_at hl 1 rfl) ?_
    refine lv_aload_n hx hb dL_law_791 rfl (lv_at hl 0 rfl) ?_
    refine lv_iload hx hb dL_law_792 (lv_at hl 4 rfl) ?_
    refine lv_iconst (v := 1) hx hb dL_law_794 (by decide) ?_
    refine lv_iadd hx hb dL_law_795 ?_
    refine va_sld hx hb hX hbl hbA hV.2.2.2.2.1 hi1 dL_law_796 ?_
    refine lv_aload_n hx hb dL_law_797 rfl (lv_at hl 0 rfl) ?_
    refine lv_iload hx hb dL_law_798 (lv_at hl 4 rfl) ?_
    refine lv_iconst (v := 2) hx hb dL_law_800 (by decide) ?_
    refine lv_iadd hx hb dL_law_801 ?_
    refine va_sld hx hb hX hbl hbA hV.2.2.2.2.1 hi2 dL_law_802 ?_
    refine lv_aload_n hx hb dL_law_803 rfl (lv_at hl 3 rfl) ?_
    refine r_stW (n := 4) (As := [.ref (eA E 0), .int (xs (x4 + 1).toNatClampNeg), .int (xs (x4 + 2).toNatClampNeg), .ref o]) (w_L_change hx1) lw_fst mk_5_75 mk_1_0 mk_5_76 (by decide +kernel) rfl ⟨rfl, rfl⟩ cx hV hF hN mk_5_74 ⟨Nat.le_of_ble_eq_true rfl, Nat.le_of_ble_eq_true rfl⟩ hc0 hl.1 rfl (Nat.le_of_ble_eq_true rfl) dL_law_804 (fun H locs hV => ?_)
    refine lv_istore (lv' := [(5, .int 0), (0, .ref b), (1, .ref (eA E 0)), (2, .ref (eA (eW E ad) 0)), (3, .ref o), (4, .int x4)]) hx hb dL_law_807 hl (by decide) rfl (fun ls hl => ?_)
    refine lv_aload_n hx hb dL_law_809 rfl (lv_at hl 3 rfl) ?_
    refine lv_aload_n hx hb dL_law_810 rfl (lv_at hl 1 rfl) ?_
    refine lv_iload hx hb dL_law_811 (lv_at hl 5 rfl) ?_
    refine lv_iconst (v := 1) hx hb dL_law_813 (by decide) ?_
    refine lv_iadd hx hb dL_law_814 ?_
    refine va_sld hx hb hX hbl hbA hV.2.2.2.2.1 hi1 dL_law_815 ?_
    refine lv_aload_n hx hb dL_law_816 rfl (lv_at hl 1 rfl) ?_
    refine lv_iload hx hb dL_law_817 (lv_at hl 5 rfl) ?_
    refine lv_iconst (v := 2) hx hb dL_law_819 (by decide) ?_
    refine lv_iadd hx hb dL_law_820 ?_
    refine va_sld hx hb hX hbl hbA hV.2.2.2.2.1 hi2 dL_law_821 ?_
    refine k_X10_change hy1 cx (lw_toM hV) mk_7_196 ⟨Nat.le_of_ble_eq_true rfl, Nat.le_of_ble_eq_true rfl⟩ hc0 hl.1 (Nat.le_of_ble_eq_true rfl) dL_law_822 (fun H locs hV => ?_)
    have hV := lw_ofM hV
    refine lv_istore (lv' := [(6, .int r), (5, .int 0), (0, .ref b), (1, .ref (eA E 0)), (2, .ref (eA (eW E ad) 0)), (3, .ref o), (4, .int x4)]) hx hb dL_law_825 hl (by decide) rfl (fun ls hl => ?_)
    refine lv_aload_n hx hb dL_law_827 rfl (lv_at hl 4 rfl) ?_
    refine k_X10_thrown (rv := 0) (show x_X10_thrown _ = some 0 from congrArg some h0) cx (lw_toM hV) mk_6_75 ⟨Nat.le_of_ble_eq_true rfl, Nat.le_of_ble_eq_true rfl⟩ hc0 hl.1 (Nat.le_of_ble_eq_true rfl) dL_law_828 (fun H locs hV => ?_)
    have hV := lw_ofM hV
    refine lv_iload hx hb dL_law_831 (lv_at hl 1 rfl) ?_
    refine lv_icmp_eq (tgt := 838) hx hb dL_law_833 (by decide) (fun _ => ?_) (fun q => absurd rfl q)
    refine lv_iload hx hb dL_law_838 (lv_at hl 1 rfl) ?_
    refine lv_if_ne (tgt := 855) hx hb dL_law_840 (by decide) (fun q => absurd rfl q) (fun _ => ?_)
    refine lv_aload_n hx hb dL_law_843 rfl (lv_at hl 5 rfl) ?_
    refine lv_iconst (v := 0) hx hb dL_law_844 (by decide) ?_
    refine r_lald cx hV 115 rfl (n := 1) (by unfold vp_in; decide) dL_law_845 ?_
    rw [lw_upd0]
    refine lv_iload hx hb dL_law_846 (lv_at hl 0 rfl) ?_
    refine lv_i2l (v := Int32.toInt64 r) hx hb dL_law_848 rfl ?_
    refine W.lcmp hx hb dL_law_849 ?_
    rw [lw_cmp0]
    refine lv_if_eq (tgt := 855) hx hb dL_law_850 (by decide) (fun _ => ?_) (fun q => absurd rfl q)
    refine lv_goto (tgt := 2051) hx hb dL_law_855 (by decide) ?_
    refine W.widen (k := cells + 1) (n := slots + 6) (by omega) (by omega) ?_
    exact kk _ _ _ _ _ _ hV hI2 (lv_sub hl [2, 3, 4, 5, 6] rfl)
  · simp only [List.mem_cons, Prod.mk.injEq, List.not_mem_nil, or_false] at hc
    rcases hc with ⟨rfl, h0⟩ | ⟨rfl, h0⟩
    · refine lv_aload_n hx hb dL_law_790 rfl (lv_at hl 1 rfl) ?_
      refine lv_aload_n hx hb dL_law_791 rfl (lv_at hl 0 rfl) ?_
      refine lv_iload hx hb dL_law_792 (lv_at hl 4 rfl) ?_
      refine lv_iconst (v := 1) hx hb dL_law_794 (by decide) ?_
      refine lv_iadd hx hb dL_law_795 ?_
      refine va_sld hx hb hX hbl hbA hV.2.2.2.2.1 hi1 dL_law_796 ?_
      refine lv_aload_n hx hb dL_law_797 rfl (lv_at hl 0 rfl) ?_
      refine lv_iload hx hb dL_law_798 (lv_at hl 4 rfl) ?_
      refine lv_iconst (v := 2) hx hb dL_law_800 (by decide) ?_
      refine lv_iadd hx hb dL_law_801 ?_
      refine va_sld hx hb hX hbl hbA hV.2.2.2.2.1 hi2 dL_law_802 ?_
      refine lv_aload_n hx hb dL_law_803 rfl (lv_at hl 3 rfl) ?_
      refine r_stW (n := 4) (As := [.ref (eA E 0), .int (xs (x4 + 1).toNatClampNeg), .int (xs (x4 + 2).toNatClampNeg), .ref o]) (wt_L_change_2 hT hx1) lw_fst mk_5_75 mk_1_0 mk_5_76 (by decide +kernel) rfl ⟨rfl, rfl⟩ cx hV hF hN mk_5_74 ⟨Nat.le_of_ble_eq_true rfl, Nat.le_of_ble_eq_true rfl⟩ hcs hl.1 rfl (Nat.le_of_ble_eq_true rfl) dL_law_804 (fun H locs hV => ?_)
      refine lv_istore (lv' := [(5, .int 1), (0, .ref b), (1, .ref (eA E 0)), (2, .ref (eA (eW E ad) 0)), (3, .ref o), (4, .int x4)]) hx hb dL_law_807 hl (by decide) rfl (fun ls hl => ?_)
      refine lv_aload_n hx hb dL_law_809 rfl (lv_at hl 3 rfl) ?_
      refine lv_aload_n hx hb dL_law_810 rfl (lv_at hl 1 rfl) ?_
      refine lv_iload hx hb dL_law_811 (lv_at hl 5 rfl) ?_
      refine lv_iconst (v := 1) hx hb dL_law_813 (by decide) ?_
      refine lv_iadd hx hb dL_law_814 ?_
      refine va_sld hx hb hX hbl hbA hV.2.2.2.2.1 hi1 dL_law_815 ?_
      refine lv_aload_n hx hb dL_law_816 rfl (lv_at hl 1 rfl) ?_
      refine lv_iload hx hb dL_law_817 (lv_at hl 5 rfl) ?_
      refine lv_iconst (v := 2) hx hb dL_law_819 (by decide) ?_
      refine lv_iadd hx hb dL_law_820 ?_
      refine va_sld hx hb hX hbl hbA hV.2.2.2.2.1 hi2 dL_law_821 ?_
      refine k_X10_change hy1 cx (lw_toM hV) mk_7_196 ⟨Nat.le_of_ble_eq_true rfl, Nat.le_of_ble_eq_true rfl⟩ hcs hl.1 (Nat.le_of_ble_eq_true rfl) dL_law_822 (fun H locs hV => ?_)
      have hV := lw_ofM hV
      refine lv_istore (lv' := [(6, .int r), (5, .int 1), (0, .ref b), (1, .ref (eA E 0)), (2, .ref (eA (eW E ad) 0)), (3, .ref o), (4, .int x4)]) hx hb dL_law_825 hl (by decide) rfl (fun ls hl => ?_)
      refine lv_aload_n hx hb dL_law_827 rfl (lv_at hl 4 rfl) ?_
      refine k_X10_thrown (rv := 1) (show x_X10_thrown _ = some 1 from congrArg some h0) cx (lw_toM hV) mk_6_75 ⟨Nat.le_of_ble_eq_true rfl, Nat.le_of_ble_eq_true rfl⟩ hcs hl.1 (Nat.le_of_ble_eq_true rfl) dL_law_828 (fun H locs hV => ?_)
      have hV := lw_ofM hV
      refine lv_iload hx hb dL_law_831 (lv_at hl 1 rfl) ?_
      refine lv_icmp_eq (tgt := 838) hx hb dL_law_833 (by decide) (fun _ => ?_) (fun q => absurd rfl q)
      refine lv_iload hx hb dL_law_838 (lv_at hl 1 rfl) ?_
      refine lv_if_ne (tgt := 855) hx hb dL_law_840 (by decide) (fun _ => ?_) (fun q => absurd q (by decide))
      refine lv_goto (tgt := 2051) hx hb dL_law_855 (by decide) ?_
      refine W.widen (k := cells + 1) (n := slots + 6) (by omega) (by omega) ?_
      exact kk _ _ _ _ _ _ hV hI2 (lv_sub hl [2, 3, 4, 5, 6] rfl)
    · refine lv_aload_n hx hb dL_law_790 rfl (lv_at hl 1 rfl) ?_
      refine lv_aload_n hx hb dL_law_791 rfl (lv_at hl 0 rfl) ?_
      refine lv_iload hx hb dL_law_792 (lv_at hl 4 rfl) ?_
      refine lv_iconst (v := 1) hx hb dL_law_794 (by decide) ?_
      refine lv_iadd hx hb dL_law_795 ?_
      refine va_sld hx hb hX hbl hbA hV.2.2.2.2.1 hi1 dL_law_796 ?_
      refine lv_aload_n hx hb dL_law_797 rfl (lv_at hl 0 rfl) ?_
      refine lv_iload hx hb dL_law_798 (lv_at hl 4 rfl) ?_
      refine lv_iconst (v := 2) hx hb dL_law_800 (by decide) ?_
      refine lv_iadd hx hb dL_law_801 ?_
      refine va_sld hx hb hX hbl hbA hV.2.2.2.2.1 hi2 dL_law_802 ?_
      refine lv_aload_n hx hb dL_law_803 rfl (lv_at hl 3 rfl) ?_
      refine r_stW (n := 4) (As := [.ref (eA E 0), .int (xs (x4 + 1).toNatClampNeg), .int (xs (x4 + 2).toNatClampNeg), .ref o]) (wt_L_change_3 hT hx1) lw_fst mk_5_75 mk_1_0 mk_5_76 (by decide +kernel) rfl ⟨rfl, rfl⟩ cx hV hF hN mk_5_74 ⟨Nat.le_of_ble_eq_true rfl, Nat.le_of_ble_eq_true rfl⟩ hcs hl.1 rfl (Nat.le_of_ble_eq_true rfl) dL_law_804 (fun H locs hV => ?_)
      refine lv_istore (lv' := [(5, .int 2), (0, .ref b), (1, .ref (eA E 0)), (2, .ref (eA (eW E ad) 0)), (3, .ref o), (4, .int x4)]) hx hb dL_law_807 hl (by decide) rfl (fun ls hl => ?_)
      refine lv_aload_n hx hb dL_law_809 rfl (lv_at hl 3 rfl) ?_
      refine lv_aload_n hx hb dL_law_810 rfl (lv_at hl 1 rfl) ?_
      refine lv_iload hx hb dL_law_811 (lv_at hl 5 rfl) ?_
      refine lv_iconst (v := 1) hx hb dL_law_813 (by decide) ?_
      refine lv_iadd hx hb dL_law_814 ?_
      refine va_sld hx hb hX hbl hbA hV.2.2.2.2.1 hi1 dL_law_815 ?_
      refine lv_aload_n hx hb dL_law_816 rfl (lv_at hl 1 rfl) ?_
      refine lv_iload hx hb dL_law_817 (lv_at hl 5 rfl) ?_
      refine lv_iconst (v := 2) hx hb dL_law_819 (by decide) ?_
      refine lv_iadd hx hb dL_law_820 ?_
      refine va_sld hx hb hX hbl hbA hV.2.2.2.2.1 hi2 dL_law_821 ?_
      refine k_X10_change hy1 cx (lw_toM hV) mk_7_196 ⟨Nat.le_of_ble_eq_true rfl, Nat.le_of_ble_eq_true rfl⟩ hcs hl.1 (Nat.le_of_ble_eq_true rfl) dL_law_822 (fun H locs hV => ?_)
      have hV := lw_ofM hV
      refine lv_istore (lv' := [(6, .int r), (5, .int 2), (0, .ref b), (1, .ref (eA E 0)), (2, .ref (eA (eW E ad) 0)), (3, .ref o), (4, .int x4)]) hx hb dL_law_825 hl (by decide) rfl (fun ls hl => ?_)
      refine lv_aload_n hx hb dL_law_827 rfl (lv_at hl 4 rfl) ?_
      refine k_X10_thrown (rv := 2) (show x_X10_thrown _ = some 2 from congrArg some h0) cx (lw_toM hV) mk_6_75 ⟨Nat.le_of_ble_eq_true rfl, Nat.le_of_ble_eq_true rfl⟩ hcs hl.1 (Nat.le_of_ble_eq_true rfl) dL_law_828 (fun H locs hV => ?_)
      have hV := lw_ofM hV
      refine lv_iload hx hb dL_law_831 (lv_at hl 1 rfl) ?_
      refine lv_icmp_eq (tgt := 838) hx hb dL_law_833 (by decide) (fun _ => ?_) (fun q => absurd rfl q)
      refine lv_iload hx hb dL_law_838 (lv_at hl 1 rfl) ?_
      refine lv_if_ne (tgt := 855) hx hb dL_law_840 (by decide) (fun _ => ?_) (fun q => absurd q (by decide))
      refine lv_goto (tgt := 2051) hx hb dL_law_855 (by decide) ?_
      refine W.widen (k := cells + 1) (n := slots + 6) (by omega) (by omega) ?_
      exact kk _ _ _ _ _ _ hV hI2 (lv_sub hl [2, 3, 4, 5, 6] rfl)
set_option maxHeartbeats 4000000 in
set_option maxRecDepth 100000 in
theorem lc_wander {p : Program} {l : Launch} {e : Env} {s : State} {m : MethodId} {below : List Frame} {meth : Method} {c : Code} {b L : Nat} {xs : Nat → Int32} {E : EV} {ad : Nat → Nat} {σ τ : St} {o : Nat} {f : Nat → Int64} {H : Heap} {locs : List Loc} {ls : Array Slot} {x4 : Int32} {cells slots : Nat} {Q : State → Prop} (D : LwD p l s m c b L xs E ad) (hi1 : vp_in (x4 + 1) L) (hi2 : vp_in (x4 + 2) L) (hi3 : vp_in (x4 + 3) L) (hi4 : vp_in (x4 + 4) L) (hi5 : vp_in (x4 + 5) L) (hcs : cells + 1 ≤ room_1.cells ∧ slots + 6 ≤ room_1.slots) (hV : AtW E (lwW E ad σ τ o f) (lwA s) s H locs) (hI : Inv σ τ) (hl : lv_has ls 8 [(0, .ref b), (1, .ref (eA E 0)), (2, .ref (eA (eW E ad) 0)), (3, .ref o), (4, .int x4)]) (kk : LwK p l e s m below meth c b E ad o x4 cells slots Q) : W p l e room_1 s m #[Value.ref b] below meth c H locs cells slots Q (F0 m 858 ls []) := by
  obtain ⟨cx, hX, hbl, hF, hF2, hN, hT⟩ := D
  have hx := cx.1
  have hb := cx.2.1
  have hbA : ¬ lwA s b := Nat.not_le.mpr hbl
  have hc0 : cells ≤ room_1.cells ∧ slots ≤ room_1.slots := ⟨Nat.le_trans (Nat.le_add_right _ 1) hcs.1, Nat.le_trans (Nat.le_add_right _ 6) hcs.2⟩
  rcases op_wander hI (xs (x4 + 1).toNatClampNeg) (xs (x4 + 2).toNatClampNeg) with ⟨r, σ2, τ2, hx1, hy1, h0, hI2⟩ | ⟨c9, σ2, r, τ2, hx1, hy1, hc, hI2⟩
  · refine lv_aload_n hx hb dL_law_858 rfl (lv_at hl 1 rfl) ?_
    refine lv_aload_n hx hb dL_law_859 rfl (lv_at hl 0 rfl) ?_
    refine lv_iload hx hb dL_law_860 (lv_at hl 4 rfl) ?_
    refine lv_iconst (v := 1) hx hb dL_law_862 (by decide) ?_
    refine lv_iadd hx hb dL_law_863 ?_
    refine va_sld hx hb hX hbl hbA hV.2.2.2.2.1 hi1 dL_law_864 ?_
    refine lv_aload_n hx hb dL_law_865 rfl (lv_at hl 0 rfl) ?_
    refine lv_iload hx hb dL_law_866 (lv_at hl 4 rfl) ?_
    refine lv_iconst (v := 2) hx hb dL_law_868 (by decide) ?_
    refine lv_iadd hx hb dL_law_869 ?_
    refine va_sld hx hb hX hbl hbA hV.2.2.2.2.1 hi2 dL_law_870 ?_
    refine lv_aload_n hx hb dL_law_871 rfl (lv_at hl 3 rfl) ?_
    refine r_stW (n := 4) (As := [.ref (eA E 0), .int (xs (x4 + 1).toNatClampNeg), .int (xs (x4 + 2).toNatClampNeg), .ref o]) (w_L_wander hx1) lw_fst mk_5_83 mk_1_0 mk_5_84 (by decide +kernel) rfl ⟨rfl, rfl⟩ cx hV hF hN mk_5_82 ⟨Nat.le_of_ble_eq_true rfl, Nat.le_of_ble_eq_true rfl⟩ hc0 hl.1 rfl (Nat.le_of_ble_eq_true rfl) dL_law_872 (fun H locs hV => ?_)
    refine lv_istore (lv' := [(5, .int 0), (0, .ref b), (1, .ref (eA E 0)), (2, .ref (eA (eW E ad) 0)), (3, .ref o), (4, .int x4)]) hx hb dL_law_875 hl (by decide) rfl (fun ls hl => ?_)
    refine lv_aload_n hx hb dL_law_877 rfl (lv_at hl 3 rfl) ?_
    refine lv_aload_n hx hb dL_law_878 rfl (lv_at hl 1 rfl) ?_
    refine lv_iload hx hb dL_law_879 (lv_at hl 5 rfl) ?_
    refine lv_iconst (v := 1) hx hb dL_law_881 (by decide) ?_
    refine lv_iadd hx hb dL_law_882 ?_
    refine va_sld hx hb hX hbl hbA hV.2.2.2.2.1 hi1 dL_law_883 ?_
    refine lv_aload_n hx hb dL_law_884 rfl (lv_at hl 1 rfl) ?_
    refine lv_iload hx hb dL_law_885 (lv_at hl 5 rfl) ?_
    refine lv_iconst (v := 2) hx hb dL_law_887 (by decide) ?_
    refine lv_iadd hx hb dL_law_888 ?_
    refine va_sld hx hb hX hbl hbA hV.2.2.2.2.1 hi2 dL_law_889 ?_
    refine k_X10_wander hy1 cx (lw_toM hV) mk_7_204 ⟨Nat.le_of_ble_eq_true rfl, Nat.le_of_ble_eq_true rfl⟩ hc0 hl.1 (Nat.le_of_ble_eq_true rfl) dL_law_890 (fun H locs hV => ?_)
    have hV := lw_ofM hV
    refine lv_istore (lv' := [(6, .int r), (5, .int 0), (0, .ref b), (1, .ref (eA E 0)), (2, .ref (eA (eW E ad) 0)), (3, .ref o), (4, .int x4)]) hx hb dL_law_893 hl (by decide) rfl (fun ls hl => ?_)
    refine lv_aload_n hx hb dL_law_895 rfl (lv_at hl 4 rfl) ?_
    refine k_X10_thrown (rv := 0) (show x_X10_thrown _ = some 0 from congrArg some h0) cx (lw_toM hV) mk_6_75 ⟨Nat.le_of_ble_eq_true rfl, Nat.le_of_ble_eq_true rfl⟩ hc0 hl.1 (Nat.le_of_ble_eq_true rfl) dL_law_896 (fun H locs hV => ?_)
    have hV := lw_ofM hV
    refine lv_iload hx hb dL_law_899 (lv_at hl 1 rfl) ?_
    refine lv_icmp_eq (tgt := 906) hx hb dL_law_901 (by decide) (fun _ => ?_) (fun q => absurd rfl q)
    refine lv_iload hx hb dL_law_906 (lv_at hl 1 rfl) ?_
    refine lv_if_ne (tgt := 923) hx hb dL_law_908 (by decide) (fun q => absurd rfl q) (fun _ => ?_)
    refine lv_aload_n hx hb dL_law_911 rfl (lv_at hl 5 rfl) ?_
    refine lv_iconst (v := 0) hx hb dL_law_912 (by decide) ?_
    refine r_lald cx hV 115 rfl (n := 1) (by unfold vp_in; decide) dL_law_913 ?_
    rw [lw_upd0]
    refine lv_iload hx hb dL_law_914 (lv_at hl 0 rfl) ?_
    refine lv_i2l (v := Int32.toInt64 r) hx hb dL_law_916 rfl ?_
    refine W.lcmp hx hb dL_law_917 ?_
    rw [lw_cmp0]
    refine lv_if_eq (tgt := 923) hx hb dL_law_918 (by decide) (fun _ => ?_) (fun q => absurd rfl q)
    refine lv_goto (tgt := 2051) hx hb dL_law_923 (by decide) ?_
    refine W.widen (k := cells + 1) (n := slots + 6) (by omega) (by omega) ?_
    exact kk _ _ _ _ _ _ hV hI2 (lv_sub hl [2, 3, 4, 5, 6] rfl)
  · simp only [List.mem_cons, Prod.mk.injEq, List.not_mem_nil, or_false] at hc
    rcases hc with ⟨rfl, h0⟩ | ⟨rfl, h0⟩
    · refine lv_aload_n hx hb dL_law_858 rfl (lv_at hl 1 rfl) ?_
      refine lv_aload_n hx hb dL_law_859 rfl (lv_at hl 0 rfl) ?_
      refine lv_iload hx hb dL_law_860 (lv_at hl 4 rfl) ?_
      refine lv_iconst (v := 1) hx hb dL_law_862 (by decide) ?_
      refine lv_iadd hx hb dL_law_863 ?_
      refine va_sld hx hb hX hbl hbA hV.2.2.2.2.1 hi1 dL_law_864 ?_
      refine lv_aload_n hx hb dL_law_865 rfl (lv_at hl 0 rfl) ?_
      refine lv_iload hx hb dL_law_866 (lv_at hl 4 rfl) ?_
      refine lv_iconst (v := 2) hx hb dL_law_868 (by decide) ?_
      refine lv_iadd hx hb dL_law_869 ?_
      refine va_sld hx hb hX hbl hbA hV.2.2.2.2.1 hi2 dL_law_870 ?_
      refine lv_aload_n hx hb dL_law_871 rfl (lv_at hl 3 rfl) ?_
      refine r_stW (n := 4) (As := [.ref (eA E 0), .int (xs (x4 + 1).toNatClampNeg), .int (xs (x4 + 2).toNatClampNeg), .ref o]) (wt_L_wander_1 hT hx1) lw_fst mk_5_83 mk_1_0 mk_5_84 (by decide +kernel) rfl ⟨rfl, rfl⟩ cx hV hF hN mk_5_82 ⟨Nat.le_of_ble_eq_true rfl, Nat.le_of_ble_eq_true rfl⟩ hcs hl.1 rfl (Nat.le_of_ble_eq_true rfl) dL_law_872 (fun H locs hV => ?_)
      refine lv_istore (lv' := [(5, .int 1), (0, .ref b), (1, .ref (eA E 0)), (2, .ref (eA (eW E ad) 0)), (3, .ref o), (4, .int x4)]) hx hb dL_law_875 hl (by decide) rfl (fun ls hl => ?_)
      refine lv_aload_n hx hb dL_law_877 rfl (lv_at hl 3 rfl) ?_
      refine lv_aload_n hx hb dL_law_878 rfl (lv_at hl 1 rfl) ?_
      refine lv_iload hx hb dL_law_879 (lv_at hl 5 rfl) ?_
      refine lv_iconst (v := 1) hx hb dL_law_881 (by decide) ?_
      refine lv_iadd hx hb dL_law_882 ?_
      refine va_sld hx hb hX hbl hbA hV.2.2.2.2.1 hi1 dL_law_883 ?_
      refine lv_aload_n hx hb dL_law_884 rfl (lv_at hl 1 rfl) ?_
      refine lv_iload hx hb dL_law_885 (lv_at hl 5 rfl) ?_
      refine lv_iconst (v := 2) hx hb dL_law_887 (by decide) ?_
      refine lv_iadd hx hb dL_law_888 ?_
      refine va_sld hx hb hX hbl hbA hV.2.2.2.2.1 hi2 dL_law_889 ?_
      refine k_X10_wander hy1 cx (lw_toM hV) mk_7_204 ⟨Nat.le_of_ble_eq_true rfl, Nat.le_of_ble_eq_true rfl⟩ hcs hl.1 (Nat.le_of_ble_eq_true rfl) dL_law_890 (fun H locs hV => ?_)
      have hV := lw_ofM hV
      refine lv_istore (lv' := [(6, .int r), (5, .int 1), (0, .ref b), (1, .ref (eA E 0)), (2, .ref (eA (eW E ad) 0)), (3, .ref o), (4, .int x4)]) hx hb dL_law_893 hl (by decide) rfl (fun ls hl => ?_)
      refine lv_aload_n hx hb dL_law_895 rfl (lv_at hl 4 rfl) ?_
      refine k_X10_thrown (rv := 1) (show x_X10_thrown _ = some 1 from congrArg some h0) cx (lw_toM hV) mk_6_75 ⟨Nat.le_of_ble_eq_true rfl, Nat.le_of_ble_eq_true rfl⟩ hcs hl.1 (Nat.le_of_ble_eq_true rfl) dL_law_896 (fun H locs hV => ?_)
      have hV := lw_ofM hV
      refine lv_iload hx hb dL_law_899 (lv_at hl 1 rfl) ?_
      refine lv_icmp_eq (tgt := 906) hx hb dL_law_901 (by decide) (fun _ => ?_) (fun q => absurd rfl q)
      refine lv_iload hx hb dL_law_906 (lv_at hl 1 rfl) ?_
      refine lv_if_ne (tgt := 923) hx hb dL_law_908 (by decide) (fun _ => ?_) (fun q => absurd q (by decide))
      refine lv_goto (tgt := 2051) hx hb dL_law_923 (by decide) ?_
      refine W.widen (k := cells + 1) (n := slots + 6) (by omega) (by omega) ?_
      exact kk _ _ _ _ _ _ hV hI2 (lv_sub hl [2, 3, 4, 5, 6] rfl)
    · refine lv_aload_n hx hb dL_law_858 rfl (lv_at hl 1 rfl) ?_
      refine lv_aload_n hx hb dL_law_859 rfl (lv_at hl 0 rfl) ?_
      refine lv_iload hx hb dL_law_860 (lv_at hl 4 rfl) ?_
      refine lv_iconst (v := 1) hx hb dL_law_862 (by decide) ?_
      refine lv_iadd hx hb dL_law_863 ?_
      refine va_sld hx hb hX hbl hbA hV.2.2.2.2.1 hi1 dL_law_864 ?_
      refine lv_aload_n hx hb dL_law_865 rfl (lv_at hl 0 rfl) ?_
      refine lv_iload hx hb dL_law_866 (lv_at hl 4 rfl) ?_
      refine lv_iconst (v := 2) hx hb dL_law_868 (by decide) ?_
      refine lv_iadd hx hb dL_law_869 ?_
      refine va_sld hx hb hX hbl hbA hV.2.2.2.2.1 hi2 dL_law_870 ?_
      refine lv_aload_n hx hb dL_law_871 rfl (lv_at hl 3 rfl) ?_
      refine r_stW (n := 4) (As := [.ref (eA E 0), .int (xs (x4 + 1).toNatClampNeg), .int (xs (x4 + 2).toNatClampNeg), .ref o]) (wt_L_wander_3 hT hx1) lw_fst mk_5_83 mk_1_0 mk_5_84 (by decide +kernel) rfl ⟨rfl, rfl⟩ cx hV hF hN mk_5_82 ⟨Nat.le_of_ble_eq_true rfl, Nat.le_of_ble_eq_true rfl⟩ hcs hl.1 rfl (Nat.le_of_ble_eq_true rfl) dL_law_872 (fun H locs hV => ?_)
      refine lv_istore (lv' := [(5, .int 2), (0, .ref b), (1, .ref (eA E 0)), (2, .ref (eA (eW E ad) 0)), (3, .ref o), (4, .int x4)]) hx hb dL_law_875 hl (by decide) rfl (fun ls hl => ?_)
      refine lv_aload_n hx hb dL_law_877 rfl (lv_at hl 3 rfl) ?_
      refine lv_aload_n hx hb dL_law_878 rfl (lv_at hl 1 rfl) ?_
      refine lv_iload hx hb dL_law_879 (lv_at hl 5 rfl) ?_
      refine lv_iconst (v := 1) hx hb dL_law_881 (by decide) ?_
      refine lv_iadd hx hb dL_law_882 ?_
      refine va_sld hx hb hX hbl hbA hV.2.2.2.2.1 hi1 dL_law_883 ?_
      refine lv_aload_n hx hb dL_law_884 rfl (lv_at hl 1 rfl) ?_
      refine lv_iload hx hb dL_law_885 (lv_at hl 5 rfl) ?_
      refine lv_iconst (v := 2) hx hb dL_law_887 (by decide) ?_
      refine lv_iadd hx hb dL_law_888 ?_
      refine va_sld hx hb hX hbl hbA hV.2.2.2.2.1 hi2 dL_law_889 ?_
      refine k_X10_wander hy1 cx (lw_toM hV) mk_7_204 ⟨Nat.le_of_ble_eq_true rfl, Nat.le_of_ble_eq_true rfl⟩ hcs hl.1 (Nat.le_of_ble_eq_true rfl) dL_law_890 (fun H locs hV => ?_)
      have hV := lw_ofM hV
      refine lv_istore (lv' := [(6, .int r), (5, .int 2), (0, .ref b), (1, .ref (eA E 0)), (2, .ref (eA (eW E ad) 0)), (3, .ref o), (4, .int x4)]) hx hb dL_law_893 hl (by decide) rfl (fun ls hl => ?_)
      refine lv_aload_n hx hb dL_law_895 rfl (lv_at hl 4 rfl) ?_
      refine k_X10_thrown (rv := 2) (show x_X10_thrown _ = some 2 from congrArg some h0) cx (lw_toM hV) mk_6_75 ⟨Nat.le_of_ble_eq_true rfl, Nat.le_of_ble_eq_true rfl⟩ hcs hl.1 (Nat.le_of_ble_eq_true rfl) dL_law_896 (fun H locs hV => ?_)
      have hV := lw_ofM hV
      refine lv_iload hx hb dL_law_899 (lv_at hl 1 rfl) ?_
      refine lv_icmp_eq (tgt := 906) hx hb dL_law_901 (by decide) (fun _ => ?_) (fun q => absurd rfl q)
      refine lv_iload hx hb dL_law_906 (lv_at hl 1 rfl) ?_
      refine lv_if_ne (tgt := 923) hx hb dL_law_908 (by decide) (fun _ => ?_) (fun q => absurd q (by decide))
      refine lv_goto (tgt := 2051) hx hb dL_law_923 (by decide) ?_
      refine W.widen (k := cells + 1) (n := slots + 6) (by omega) (by omega) ?_
      exact kk _ _ _ _ _ _ hV hI2 (lv_sub hl [2, 3, 4, 5, 6] rfl)
set_option maxHeartbeats 4000000 in
set_option maxRecDepth 100000 in
theorem lc_day {p : Program} {l : Launch} {e : Env} {s : State} {m : MethodId} {below : List Frame} {meth : Method} {c : Code} {b L : Nat} {xs : Nat → Int32} {E : EV} {ad : Nat → Nat} {σ τ : St} {o : Nat} {f : Nat → Int64} {H : Heap} {locs : List Loc} {ls : Array Slot} {x4 : Int32} {cells slots : Nat} {Q : State → Prop} (D : LwD p l s m c b L xs E ad) (hi1 : vp_in (x4 + 1) L) (hi2 : vp_in (x4 + 2) L) (hi3 : vp_in (x4 + 3) L) (hi4 : vp_in (x4 + 4) L) (hi5 : vp_in (x4 + 5) L) (hcs : cells + 1 ≤ room_1.cells ∧ slots + 6 ≤ room_1.slots) (hV : AtW E (lwW E ad σ τ o f) (lwA s) s H locs) (hI : Inv σ τ) (hl : lv_has ls 8 [(0, .ref b), (1, .ref (eA E 0)), (2, .ref (eA (eW E ad) 0)), (3, .ref o), (4, .int x4)]) (kk : LwK p l e s m below meth c b E ad o x4 cells slots Q) : W p l e room_1 s m #[Value.ref b] below meth c H locs cells slots Q (F0 m 926 ls []) := by
  obtain ⟨cx, hX, hbl, hF, hF2, hN, hT⟩ := D
  have hx := cx.1
  have hb := cx.2.1
  have hbA : ¬ lwA s b := Nat.not_le.mpr hbl
  have hc0 : cells ≤ room_1.cells ∧ slots ≤ room_1.slots := ⟨Nat.le_trans (Nat.le_add_right _ 1) hcs.1, Nat.le_trans (Nat.le_add_right _ 6) hcs.2⟩
  obtain ⟨r, σ2, τ2, hx1, hy1, hI2⟩ := op_day (xs (x4 + 1).toNatClampNeg) hI
  refine lv_aload_n hx hb dL_law_926 rfl (lv_at hl 1 rfl) ?_
  refine lv_aload_n hx hb dL_law_927 rfl (lv_at hl 0 rfl) ?_
  refine lv_iload hx hb dL_law_928 (lv_at hl 4 rfl) ?_
  refine lv_iconst (v := 1) hx hb dL_law_930 (by decide) ?_
  refine lv_iadd hx hb dL_law_931 ?_
  refine va_sld hx hb hX hbl hbA hV.2.2.2.2.1 hi1 dL_law_932 ?_
  refine k_X9_day hx1 cx hV mk_2_194 ⟨Nat.le_of_ble_eq_true rfl, Nat.le_of_ble_eq_true rfl⟩ hc0 hl.1 (Nat.le_of_ble_eq_true rfl) dL_law_933 (fun H locs hV => ?_)
  refine lv_aload_n hx hb dL_law_936 rfl (lv_at hl 2 rfl) ?_
  refine lv_aload_n hx hb dL_law_937 rfl (lv_at hl 0 rfl) ?_
  refine lv_iload hx hb dL_law_938 (lv_at hl 4 rfl) ?_
  refine lv_iconst (v := 1) hx hb dL_law_940 (by decide) ?_
  refine lv_iadd hx hb dL_law_941 ?_
  refine va_sld hx hb hX hbl hbA hV.2.2.2.2.1 hi1 dL_law_942 ?_
  refine k_X10_day hy1 cx (lw_toM hV) mk_7_212 ⟨Nat.le_of_ble_eq_true rfl, Nat.le_of_ble_eq_true rfl⟩ hc0 hl.1 (Nat.le_of_ble_eq_true rfl) dL_law_943 (fun H locs hV => ?_)
  have hV := lw_ofM hV
  refine lv_icmp_eq (tgt := 2051) hx hb dL_law_946 (by decide) (fun _ => ?_) (fun q => absurd rfl q)
  refine W.widen (k := cells + 1) (n := slots + 6) (by omega) (by omega) ?_
  exact kk _ _ _ _ _ _ hV hI2 (lv_sub hl [0, 1, 2, 3, 4] rfl)
set_option maxHeartbeats 4000000 in
set_option maxRecDepth 100000 in
theorem lc_would {p : Program} {l : Launch} {e : Env} {s : State} {m : MethodId} {below : List Frame} {meth : Method} {c : Code} {b L : Nat} {xs : Nat → Int32} {E : EV} {ad : Nat → Nat} {σ τ : St} {o : Nat} {f : Nat → Int64} {H : Heap} {locs : List Loc} {ls : Array Slot} {x4 : Int32} {cells slots : Nat} {Q : State → Prop} (D : LwD p l s m c b L xs E ad) (hi1 : vp_in (x4 + 1) L) (hi2 : vp_in (x4 + 2) L) (hi3 : vp_in (x4 + 3) L) (hi4 : vp_in (x4 + 4) L) (hi5 : vp_in (x4 + 5) L) (hcs : cells + 1 ≤ room_1.cells ∧ slots + 6 ≤ room_1.slots) (hV : AtW E (lwW E ad σ τ o f) (lwA s) s H locs) (hI : Inv σ τ) (hl : lv_has ls 8 [(0, .ref b), (1, .ref (eA E 0)), (2, .ref (eA (eW E ad) 0)), (3, .ref o), (4, .int x4)]) (kk : LwK p l e s m below meth c b E ad o x4 cells slots Q) : W p l e room_1 s m #[Value.ref b] below meth c H locs cells slots Q (F0 m 951 ls []) := by
  obtain ⟨cx, hX, hbl, hF, hF2, hN, hT⟩ := D
  have hx := cx.1
  have hb := cx.2.1
  have hbA : ¬ lwA s b := Nat.not_le.mpr hbl
  have hc0 : cells ≤ room_1.cells ∧ slots ≤ room_1.slots := ⟨Nat.le_trans (Nat.le_add_right _ 1) hcs.1, Nat.le_trans (Nat.le_add_right _ 6) hcs.2⟩
  rcases op_would hI (xs (x4 + 1).toNatClampNeg) (xs (x4 + 2).toNatClampNeg) with ⟨r, σ2, τ2, hx1, hy1, h0, hI2⟩ | ⟨c9, σ2, r, τ2, hx1, hy1, hc, hI2⟩
  · refine lv_aload_n hx hb dL_law_951 rfl (lv_at hl 1 rfl) ?_
    refine lv_aload_n hx hb dL_law_952 rfl (lv_at hl 0 rfl) ?_
    refine lv_iload hx hb dL_law_953 (lv_at hl 4 rfl) ?_
    refine lv_iconst (v := 1) hx hb dL_law_955 (by decide) ?_
    refine lv_iadd hx hb dL_law_956 ?_
    refine va_sld hx hb hX hbl hbA hV.2.2.2.2.1 hi1 dL_law_957 ?_
    refine lv_aload_n hx hb dL_law_958 rfl (lv_at hl 0 rfl) ?_
    refine lv_iload hx hb dL_law_959 (lv_at hl 4 rfl) ?_
    refine lv_iconst (v := 2) hx hb dL_law_961 (by decide) ?_
    refine lv_iadd hx hb dL_law_962 ?_
    refine va_sld hx hb hX hbl hbA hV.2.2.2.2.1 hi2 dL_law_963 ?_
    refine lv_aload_n hx hb dL_law_964 rfl (lv_at hl 3 rfl) ?_
    refine r_stW (n := 4) (As := [.ref (eA E 0), .int (xs (x4 + 1).toNatClampNeg), .int (xs (x4 + 2).toNatClampNeg), .ref o]) (w_L_would hx1) lw_fst mk_5_92 mk_1_0 mk_5_93 (by decide +kernel) rfl ⟨rfl, rfl⟩ cx hV hF hN mk_5_91 ⟨Nat.le_of_ble_eq_true rfl, Nat.le_of_ble_eq_true rfl⟩ hc0 hl.1 rfl (Nat.le_of_ble_eq_true rfl) dL_law_965 (fun H locs hV => ?_)
    refine lv_istore (lv' := [(5, .int 0), (0, .ref b), (1, .ref (eA E 0)), (2, .ref (eA (eW E ad) 0)), (3, .ref o), (4, .int x4)]) hx hb dL_law_968 hl (by decide) rfl (fun ls hl => ?_)
    refine lv_aload_n hx hb dL_law_970 rfl (lv_at hl 3 rfl) ?_
    refine lv_aload_n hx hb dL_law_971 rfl (lv_at hl 1 rfl) ?_
    refine lv_iload hx hb dL_law_972 (lv_at hl 5 rfl) ?_
    refine lv_iconst (v := 1) hx hb dL_law_974 (by decide) ?_
    refine lv_iadd hx hb dL_law_975 ?_
    refine va_sld hx hb hX hbl hbA hV.2.2.2.2.1 hi1 dL_law_976 ?_
    refine lv_aload_n hx hb dL_law_977 rfl (lv_at hl 1 rfl) ?_
    refine lv_iload hx hb dL_law_978 (lv_at hl 5 rfl) ?_
    refine lv_iconst (v := 2) hx hb dL_law_980 (by decide) ?_
    refine lv_iadd hx hb dL_law_981 ?_
    refine va_sld hx hb hX hbl hbA hV.2.2.2.2.1 hi2 dL_law_982 ?_
    refine k_X10_would hy1 cx (lw_toM hV) mk_8_13 ⟨Nat.le_of_ble_eq_true rfl, Nat.le_of_ble_eq_true rfl⟩ hc0 hl.1 (Nat.le_of_ble_eq_true rfl) dL_law_983 (fun H locs hV => ?_)
    have hV := lw_ofM hV
    refine lv_istore (lv' := [(6, .int r), (5, .int 0), (0, .ref b), (1, .ref (eA E 0)), (2, .ref (eA (eW E ad) 0)), (3, .ref o), (4, .int x4)]) hx hb dL_law_986 hl (by decide) rfl (fun ls hl => ?_)
    refine lv_aload_n hx hb dL_law_988 rfl (lv_at hl 4 rfl) ?_
    refine k_X10_thrown (rv := 0) (show x_X10_thrown _ = some 0 from congrArg some h0) cx (lw_toM hV) mk_6_75 ⟨Nat.le_of_ble_eq_true rfl, Nat.le_of_ble_eq_true rfl⟩ hc0 hl.1 (Nat.le_of_ble_eq_true rfl) dL_law_989 (fun H locs hV => ?_)
    have hV := lw_ofM hV
    refine lv_iload hx hb dL_law_992 (lv_at hl 1 rfl) ?_
    refine lv_icmp_eq (tgt := 999) hx hb dL_law_994 (by decide) (fun _ => ?_) (fun q => absurd rfl q)
    refine lv_iload hx hb dL_law_999 (lv_at hl 1 rfl) ?_
    refine lv_if_ne (tgt := 1016) hx hb dL_law_1001 (by decide) (fun q => absurd rfl q) (fun _ => ?_)
    refine lv_aload_n hx hb dL_law_1004 rfl (lv_at hl 5 rfl) ?_
    refine lv_iconst (v := 0) hx hb dL_law_1005 (by decide) ?_
    refine r_lald cx hV 115 rfl (n := 1) (by unfold vp_in; decide) dL_law_1006 ?_
    rw [lw_upd0]
    refine lv_iload hx hb dL_law_1007 (lv_at hl 0 rfl) ?_
    refine lv_i2l (v := Int32.toInt64 r) hx hb dL_law_1009 rfl ?_
    refine W.lcmp hx hb dL_law_1010 ?_
    rw [lw_cmp0]
    refine lv_if_eq (tgt := 1016) hx hb dL_law_1011 (by decide) (fun _ => ?_) (fun q => absurd rfl q)
    refine lv_goto (tgt := 2051) hx hb dL_law_1016 (by decide) ?_
    refine W.widen (k := cells + 1) (n := slots + 6) (by omega) (by omega) ?_
    exact kk _ _ _ _ _ _ hV hI2 (lv_sub hl [2, 3, 4, 5, 6] rfl)
  · simp only [List.mem_cons, Prod.mk.injEq, List.not_mem_nil, or_false] at hc
    obtain ⟨rfl, h0⟩ := hc
    refine lv_aload_n hx hb dL_law_951 rfl (lv_at hl 1 rfl) ?_
    refine lv_aload_n hx hb dL_law_952 rfl (lv_at hl 0 rfl) ?_
    refine lv_iload hx hb dL_law_953 (lv_at hl 4 rfl) ?_
    refine lv_iconst (v := 1) hx hb dL_law_955 (by decide) ?_
    refine lv_iadd hx hb dL_law_956 ?_
    refine va_sld hx hb hX hbl hbA hV.2.2.2.2.1 hi1 dL_law_957 ?_
    refine lv_aload_n hx hb dL_law_958 rfl (lv_at hl 0 rfl) ?_
    refine lv_iload hx hb dL_law_959 (lv_at hl 4 rfl) ?_
    refine lv_iconst (v := 2) hx hb dL_law_961 (by decide) ?_
    refine lv_iadd hx hb dL_law_962 ?_
    refine va_sld hx hb hX hbl hbA hV.2.2.2.2.1 hi2 dL_law_963 ?_
    refine lv_aload_n hx hb dL_law_964 rfl (lv_at hl 3 rfl) ?_
    refine r_stW (n := 4) (As := [.ref (eA E 0), .int (xs (x4 + 1).toNatClampNeg), .int (xs (x4 + 2).toNatClampNeg), .ref o]) (wt_L_would_3 hT hx1) lw_fst mk_5_92 mk_1_0 mk_5_93 (by decide +kernel) rfl ⟨rfl, rfl⟩ cx hV hF hN mk_5_91 ⟨Nat.le_of_ble_eq_true rfl, Nat.le_of_ble_eq_true rfl⟩ hcs hl.1 rfl (Nat.le_of_ble_eq_true rfl) dL_law_965 (fun H locs hV => ?_)
    refine lv_istore (lv' := [(5, .int 1), (0, .ref b), (1, .ref (eA E 0)), (2, .ref (eA (eW E ad) 0)), (3, .ref o), (4, .int x4)]) hx hb dL_law_968 hl (by decide) rfl (fun ls hl => ?_)
    refine lv_aload_n hx hb dL_law_970 rfl (lv_at hl 3 rfl) ?_
    refine lv_aload_n hx hb dL_law_971 rfl (lv_at hl 1 rfl) ?_
    refine lv_iload hx hb dL_law_972 (lv_at hl 5 rfl) ?_
    refine lv_iconst (v := 1) hx hb dL_law_974 (by decide) ?_
    refine lv_iadd hx hb dL_law_975 ?_
    refine va_sld hx hb hX hbl hbA hV.2.2.2.2.1 hi1 dL_law_976 ?_
    refine lv_aload_n hx hb dL_law_977 rfl (lv_at hl 1 rfl) ?_
    refine lv_iload hx hb dL_law_978 (lv_at hl 5 rfl) ?_
    refine lv_iconst (v := 2) hx hb dL_law_980 (by decide) ?_
    refine lv_iadd hx hb dL_law_981 ?_
    refine va_sld hx hb hX hbl hbA hV.2.2.2.2.1 hi2 dL_law_982 ?_
    refine k_X10_would hy1 cx (lw_toM hV) mk_8_13 ⟨Nat.le_of_ble_eq_true rfl, Nat.le_of_ble_eq_true rfl⟩ hcs hl.1 (Nat.le_of_ble_eq_true rfl) dL_law_983 (fun H locs hV => ?_)
    have hV := lw_ofM hV
    refine lv_istore (lv' := [(6, .int r), (5, .int 1), (0, .ref b), (1, .ref (eA E 0)), (2, .ref (eA (eW E ad) 0)), (3, .ref o), (4, .int x4)]) hx hb dL_law_986 hl (by decide) rfl (fun ls hl => ?_)
    refine lv_aload_n hx hb dL_law_988 rfl (lv_at hl 4 rfl) ?_
    refine k_X10_thrown (rv := 1) (show x_X10_thrown _ = some 1 from congrArg some h0) cx (lw_toM hV) mk_6_75 ⟨Nat.le_of_ble_eq_true rfl, Nat.le_of_ble_eq_true rfl⟩ hcs hl.1 (Nat.le_of_ble_eq_true rfl) dL_law_989 (fun H locs hV => ?_)
    have hV := lw_ofM hV
    refine lv_iload hx hb dL_law_992 (lv_at hl 1 rfl) ?_
    refine lv_icmp_eq (tgt := 999) hx hb dL_law_994 (by decide) (fun _ => ?_) (fun q => absurd rfl q)
    refine lv_iload hx hb dL_law_999 (lv_at hl 1 rfl) ?_
    refine lv_if_ne (tgt := 1016) hx hb dL_law_1001 (by decide) (fun _ => ?_) (fun q => absurd q (by decide))
    refine lv_goto (tgt := 2051) hx hb dL_law_1016 (by decide) ?_
    refine W.widen (k := cells + 1) (n := slots + 6) (by omega) (by omega) ?_
    exact kk _ _ _ _ _ _ hV hI2 (lv_sub hl [2, 3, 4, 5, 6] rfl)
set_option maxHeartbeats 4000000 in
set_option maxRecDepth 100000 in
theorem lc_buys {p : Program} {l : Launch} {e : Env} {s : State} {m : MethodId} {below : List Frame} {meth : Method} {c : Code} {b L : Nat} {xs : Nat → Int32} {E : EV} {ad : Nat → Nat} {σ τ : St} {o : Nat} {f : Nat → Int64} {H : Heap} {locs : List Loc} {ls : Array Slot} {x4 : Int32} {cells slots : Nat} {Q : State → Prop} (D : LwD p l s m c b L xs E ad) (hi1 : vp_in (x4 + 1) L) (hi2 : vp_in (x4 + 2) L) (hi3 : vp_in (x4 + 3) L) (hi4 : vp_in (x4 + 4) L) (hi5 : vp_in (x4 + 5) L) (hcs : cells + 1 ≤ room_1.cells ∧ slots + 6 ≤ room_1.slots) (hV : AtW E (lwW E ad σ τ o f) (lwA s) s H locs) (hI : Inv σ τ) (hl : lv_has ls 8 [(0, .ref b), (1, .ref (eA E 0)), (2, .ref (eA (eW E ad) 0)), (3, .ref o), (4, .int x4)]) (kk : LwK p l e s m below meth c b E ad o x4 cells slots Q) : W p l e room_1 s m #[Value.ref b] below meth c H locs cells slots Q (F0 m 1019 ls []) := by
  obtain ⟨cx, hX, hbl, hF, hF2, hN, hT⟩ := D
  have hx := cx.1
  have hb := cx.2.1
  have hbA : ¬ lwA s b := Nat.not_le.mpr hbl
  have hc0 : cells ≤ room_1.cells ∧ slots ≤ room_1.slots := ⟨Nat.le_trans (Nat.le_add_right _ 1) hcs.1, Nat.le_trans (Nat.le_add_right _ 6) hcs.2⟩
  rcases op_buys hI (xs (x4 + 1).toNatClampNeg) (xs (x4 + 2).toNatClampNeg) (xs (x4 + 3).toNatClampNeg) with ⟨r, σ2, τ2, hx1, hy1, h0, hI2⟩ | ⟨c9, σ2, r, τ2, hx1, hy1, hc, hI2⟩
  · refine lv_aload_n hx hb dL_law_1019 rfl (lv_at hl 1 rfl) ?_
    refine lv_aload_n hx hb dL_law_1020 rfl (lv_at hl 0 rfl) ?_
    refine lv_iload hx hb dL_law_1021 (lv_at hl 4 rfl) ?_
    refine lv_iconst (v := 1) hx hb dL_law_1023 (by decide) ?_
    refine lv_iadd hx hb dL_law_1024 ?_
    refine va_sld hx hb hX hbl hbA hV.2.2.2.2.1 hi1 dL_law_1025 ?_
    refine lv_aload_n hx hb dL_law_1026 rfl (lv_at hl 0 rfl) ?_
    refine lv_iload hx hb dL_law_1027 (lv_at hl 4 rfl) ?_
    refine lv_iconst (v := 2) hx hb dL_law_1029 (by decide) ?_
    refine lv_iadd hx hb dL_law_1030 ?_
    refine va_sld hx hb hX hbl hbA hV.2.2.2.2.1 hi2 dL_law_1031 ?_
    refine lv_aload_n hx hb dL_law_1032 rfl (lv_at hl 0 rfl) ?_
    refine lv_iload hx hb dL_law_1033 (lv_at hl 4 rfl) ?_
    refine lv_iconst (v := 3) hx hb dL_law_1035 (by decide) ?_
    refine lv_iadd hx hb dL_law_1036 ?_
    refine va_sld hx hb hX hbl hbA hV.2.2.2.2.1 hi3 dL_law_1037 ?_
    refine lv_aload_n hx hb dL_law_1038 rfl (lv_at hl 3 rfl) ?_
    refine r_stW (n := 5) (As := [.ref (eA E 0), .int (xs (x4 + 1).toNatClampNeg), .int (xs (x4 + 2).toNatClampNeg), .int (xs (x4 + 3).toNatClampNeg), .ref o]) (w_L_buys hx1) lw_fst mk_5_103 mk_1_0 mk_5_104 (by decide +kernel) rfl ⟨rfl, rfl⟩ cx hV hF hN mk_5_102 ⟨Nat.le_of_ble_eq_true rfl, Nat.le_of_ble_eq_true rfl⟩ hc0 hl.1 rfl (Nat.le_of_ble_eq_true rfl) dL_law_1039 (fun H locs hV => ?_)
    refine lv_istore (lv' := [(5, .int 0), (0, .ref b), (1, .ref (eA E 0)), (2, .ref (eA (eW E ad) 0)), (3, .ref o), (4, .int x4)]) hx hb dL_law_1042 hl (by decide) rfl (fun ls hl => ?_)
    refine lv_aload_n hx hb dL_law_1044 rfl (lv_at hl 3 rfl) ?_
    refine lv_aload_n hx hb dL_law_1045 rfl (lv_at hl 1 rfl) ?_
    refine lv_iload hx hb dL_law_1046 (lv_at hl 5 rfl) ?_
    refine lv_iconst (v := 1) hx hb dL_law_1048 (by decide) ?_
    refine lv_iadd hx hb dL_law_1049 ?_
    refine va_sld hx hb hX hbl hbA hV.2.2.2.2.1 hi1 dL_law_1050 ?_
    refine lv_aload_n hx hb dL_law_1051 rfl (lv_at hl 1 rfl) ?_
    refine lv_iload hx hb dL_law_1052 (lv_at hl 5 rfl) ?_
    refine lv_iconst (v := 2) hx hb dL_law_1054 (by decide) ?_
    refine lv_iadd hx hb dL_law_1055 ?_
    refine va_sld hx hb hX hbl hbA hV.2.2.2.2.1 hi2 dL_law_1056 ?_
    refine lv_aload_n hx hb dL_law_1057 rfl (lv_at hl 1 rfl) ?_
    refine lv_iload hx hb dL_law_1058 (lv_at hl 5 rfl) ?_
    refine lv_iconst (v := 3) hx hb dL_law_1060 (by decide) ?_
    refine lv_iadd hx hb dL_law_1061 ?_
    refine va_sld hx hb hX hbl hbA hV.2.2.2.2.1 hi3 dL_law_1062 ?_
    refine k_X10_buys hy1 cx (lw_toM hV) mk_8_37 ⟨Nat.le_of_ble_eq_true rfl, Nat.le_of_ble_eq_true rfl⟩ hc0 hl.1 (Nat.le_of_ble_eq_true rfl) dL_law_1063 (fun H locs hV => ?_)
    have hV := lw_ofM hV
    refine lv_istore (lv' := [(6, .int r), (5, .int 0), (0, .ref b), (1, .ref (eA E 0)), (2, .ref (eA (eW E ad) 0)), (3, .ref o), (4, .int x4)]) hx hb dL_law_1066 hl (by decide) rfl (fun ls hl => ?_)
    refine lv_aload_n hx hb dL_law_1068 rfl (lv_at hl 4 rfl) ?_
    refine k_X10_thrown (rv := 0) (show x_X10_thrown _ = some 0 from congrArg some h0) cx (lw_toM hV) mk_6_75 ⟨Nat.le_of_ble_eq_true rfl, Nat.le_of_ble_eq_true rfl⟩ hc0 hl.1 (Nat.le_of_ble_eq_true rfl) dL_law_1069 (fun H locs hV => ?_)
    have hV := lw_ofM hV
    refine lv_iload hx hb dL_law_1072 (lv_at hl 1 rfl) ?_
    refine lv_icmp_eq (tgt := 1079) hx hb dL_law_1074 (by decide) (fun _ => ?_) (fun q => absurd rfl q)
    refine lv_iload hx hb dL_law_1079 (lv_at hl 1 rfl) ?_
    refine lv_if_ne (tgt := 1096) hx hb dL_law_1081 (by decide) (fun q => absurd rfl q) (fun _ => ?_)
    refine lv_aload_n hx hb dL_law_1084 rfl (lv_at hl 5 rfl) ?_
    refine lv_iconst (v := 0) hx hb dL_law_1085 (by decide) ?_
    refine r_lald cx hV 115 rfl (n := 1) (by unfold vp_in; decide) dL_law_1086 ?_
    rw [lw_upd0]
    refine lv_iload hx hb dL_law_1087 (lv_at hl 0 rfl) ?_
    refine lv_i2l (v := Int32.toInt64 r) hx hb dL_law_1089 rfl ?_
    refine W.lcmp hx hb dL_law_1090 ?_
    rw [lw_cmp0]
    refine lv_if_eq (tgt := 1096) hx hb dL_law_1091 (by decide) (fun _ => ?_) (fun q => absurd rfl q)
    refine lv_goto (tgt := 2051) hx hb dL_law_1096 (by decide) ?_
    refine W.widen (k := cells + 1) (n := slots + 6) (by omega) (by omega) ?_
    exact kk _ _ _ _ _ _ hV hI2 (lv_sub hl [2, 3, 4, 5, 6] rfl)
  · simp only [List.mem_cons, Prod.mk.injEq, List.not_mem_nil, or_false] at hc
    rcases hc with ⟨rfl, h0⟩ | ⟨rfl, h0⟩
    · refine lv_aload_n hx hb dL_law_1019 rfl (lv_at hl 1 rfl) ?_
      refine lv_aload_n hx hb dL_law_1020 rfl (lv_at hl 0 rfl) ?_
      refine lv_iload hx hb dL_law_1021 (lv_at hl 4 rfl) ?_
      refine lv_iconst (v := 1) hx hb dL_law_1023 (by decide) ?_
      refine lv_iadd hx hb dL_law_1024 ?_
      refine va_sld hx hb hX hbl hbA hV.2.2.2.2.1 hi1 dL_law_1025 ?_
      refine lv_aload_n hx hb dL_law_1026 rfl (lv_at hl 0 rfl) ?_
      refine lv_iload hx hb dL_law_1027 (lv_at hl 4 rfl) ?_
      refine lv_iconst (v := 2) hx hb dL_law_1029 (by decide) ?_
      refine lv_iadd hx hb dL_law_1030 ?_
      refine va_sld hx hb hX hbl hbA hV.2.2.2.2.1 hi2 dL_law_1031 ?_
      refine lv_aload_n hx hb dL_law_1032 rfl (lv_at hl 0 rfl) ?_
      refine lv_iload hx hb dL_law_1033 (lv_at hl 4 rfl) ?_
      refine lv_iconst (v := 3) hx hb dL_law_1035 (by decide) ?_
      refine lv_iadd hx hb dL_law_1036 ?_
      refine va_sld hx hb hX hbl hbA hV.2.2.2.2.1 hi3 dL_law_1037 ?_
      refine lv_aload_n hx hb dL_law_1038 rfl (lv_at hl 3 rfl) ?_
      refine r_stW (n := 5) (As := [.ref (eA E 0), .int (xs (x4 + 1).toNatClampNeg), .int (xs (x4 + 2).toNatClampNeg), .int (xs (x4 + 3).toNatClampNeg), .ref o]) (wt_L_buys_2 hT hx1) lw_fst mk_5_103 mk_1_0 mk_5_104 (by decide +kernel) rfl ⟨rfl, rfl⟩ cx hV hF hN mk_5_102 ⟨Nat.le_of_ble_eq_true rfl, Nat.le_of_ble_eq_true rfl⟩ hcs hl.1 rfl (Nat.le_of_ble_eq_true rfl) dL_law_1039 (fun H locs hV => ?_)
      refine lv_istore (lv' := [(5, .int 1), (0, .ref b), (1, .ref (eA E 0)), (2, .ref (eA (eW E ad) 0)), (3, .ref o), (4, .int x4)]) hx hb dL_law_1042 hl (by decide) rfl (fun ls hl => ?_)
      refine lv_aload_n hx hb dL_law_1044 rfl (lv_at hl 3 rfl) ?_
      refine lv_aload_n hx hb dL_law_1045 rfl (lv_at hl 1 rfl) ?_
      refine lv_iload hx hb dL_law_1046 (lv_at hl 5 rfl) ?_
      refine lv_iconst (v := 1) hx hb dL_law_1048 (by decide) ?_
      refine lv_iadd hx hb dL_law_1049 ?_
      refine va_sld hx hb hX hbl hbA hV.2.2.2.2.1 hi1 dL_law_1050 ?_
      refine lv_aload_n hx hb dL_law_1051 rfl (lv_at hl 1 rfl) ?_
      refine lv_iload hx hb dL_law_1052 (lv_at hl 5 rfl) ?_
      refine lv_iconst (v := 2) hx hb dL_law_1054 (by decide) ?_
      refine lv_iadd hx hb dL_law_1055 ?_
      refine va_sld hx hb hX hbl hbA hV.2.2.2.2.1 hi2 dL_law_1056 ?_
      refine lv_aload_n hx hb dL_law_1057 rfl (lv_at hl 1 rfl) ?_
      refine lv_iload hx hb dL_law_1058 (lv_at hl 5 rfl) ?_
      refine lv_iconst (v := 3) hx hb dL_law_1060 (by decide) ?_
      refine lv_iadd hx hb dL_law_1061 ?_
      refine va_sld hx hb hX hbl hbA hV.2.2.2.2.1 hi3 dL_law_1062 ?_
      refine k_X10_buys hy1 cx (lw_toM hV) mk_8_37 ⟨Nat.le_of_ble_eq_true rfl, Nat.le_of_ble_eq_true rfl⟩ hcs hl.1 (Nat.le_of_ble_eq_true rfl) dL_law_1063 (fun H locs hV => ?_)
      have hV := lw_ofM hV
      refine lv_istore (lv' := [(6, .int r), (5, .int 1), (0, .ref b), (1, .ref (eA E 0)), (2, .ref (eA (eW E ad) 0)), (3, .ref o), (4, .int x4)]) hx hb dL_law_1066 hl (by decide) rfl (fun ls hl => ?_)
      refine lv_aload_n hx hb dL_law_1068 rfl (lv_at hl 4 rfl) ?_
      refine k_X10_thrown (rv := 1) (show x_X10_thrown _ = some 1 from congrArg some h0) cx (lw_toM hV) mk_6_75 ⟨Nat.le_of_ble_eq_true rfl, Nat.le_of_ble_eq_true rfl⟩ hcs hl.1 (Nat.le_of_ble_eq_true rfl) dL_law_1069 (fun H locs hV => ?_)
      have hV := lw_ofM hV
      refine lv_iload hx hb dL_law_1072 (lv_at hl 1 rfl) ?_
      refine lv_icmp_eq (tgt := 1079) hx hb dL_law_1074 (by decide) (fun _ => ?_) (fun q => absurd rfl q)
      refine lv_iload hx hb dL_law_1079 (lv_at hl 1 rfl) ?_
      refine lv_if_ne (tgt := 1096) hx hb dL_law_1081 (by decide) (fun _ => ?_) (fun q => absurd q (by decide))
      refine lv_goto (tgt := 2051) hx hb dL_law_1096 (by decide) ?_
      refine W.widen (k := cells + 1) (n := slots + 6) (by omega) (by omega) ?_
      exact kk _ _ _ _ _ _ hV hI2 (lv_sub hl [2, 3, 4, 5, 6] rfl)
    · refine lv_aload_n hx hb dL_law_1019 rfl (lv_at hl 1 rfl) ?_
      refine lv_aload_n hx hb dL_law_1020 rfl (lv_at hl 0 rfl) ?_
      refine lv_iload hx hb dL_law_1021 (lv_at hl 4 rfl) ?_
      refine lv_iconst (v := 1) hx hb dL_law_1023 (by decide) ?_
      refine lv_iadd hx hb dL_law_1024 ?_
      refine va_sld hx hb hX hbl hbA hV.2.2.2.2.1 hi1 dL_law_1025 ?_
      refine lv_aload_n hx hb dL_law_1026 rfl (lv_at hl 0 rfl) ?_
      refine lv_iload hx hb dL_law_1027 (lv_at hl 4 rfl) ?_
      refine lv_iconst (v := 2) hx hb dL_law_1029 (by decide) ?_
      refine lv_iadd hx hb dL_law_1030 ?_
      refine va_sld hx hb hX hbl hbA hV.2.2.2.2.1 hi2 dL_law_1031 ?_
      refine lv_aload_n hx hb dL_law_1032 rfl (lv_at hl 0 rfl) ?_
      refine lv_iload hx hb dL_law_1033 (lv_at hl 4 rfl) ?_
      refine lv_iconst (v := 3) hx hb dL_law_1035 (by decide) ?_
      refine lv_iadd hx hb dL_law_1036 ?_
      refine va_sld hx hb hX hbl hbA hV.2.2.2.2.1 hi3 dL_law_1037 ?_
      refine lv_aload_n hx hb dL_law_1038 rfl (lv_at hl 3 rfl) ?_
      refine r_stW (n := 5) (As := [.ref (eA E 0), .int (xs (x4 + 1).toNatClampNeg), .int (xs (x4 + 2).toNatClampNeg), .int (xs (x4 + 3).toNatClampNeg), .ref o]) (wt_L_buys_3 hT hx1) lw_fst mk_5_103 mk_1_0 mk_5_104 (by decide +kernel) rfl ⟨rfl, rfl⟩ cx hV hF hN mk_5_102 ⟨Nat.le_of_ble_eq_true rfl, Nat.le_of_ble_eq_true rfl⟩ hcs hl.1 rfl (Nat.le_of_ble_eq_true rfl) dL_law_1039 (fun H locs hV => ?_)
      refine lv_istore (lv' := [(5, .int 2), (0, .ref b), (1, .ref (eA E 0)), (2, .ref (eA (eW E ad) 0)), (3, .ref o), (4, .int x4)]) hx hb dL_law_1042 hl (by decide) rfl (fun ls hl => ?_)
      refine lv_aload_n hx hb dL_law_1044 rfl (lv_at hl 3 rfl) ?_
      refine lv_aload_n hx hb dL_law_1045 rfl (lv_at hl 1 rfl) ?_
      refine lv_iload hx hb dL_law_1046 (lv_at hl 5 rfl) ?_
      refine lv_iconst (v := 1) hx hb dL_law_1048 (by decide) ?_
      refine lv_iadd hx hb dL_law_1049 ?_
      refine va_sld hx hb hX hbl hbA hV.2.2.2.2.1 hi1 dL_law_1050 ?_
      refine lv_aload_n hx hb dL_law_1051 rfl (lv_at hl 1 rfl) ?_
      refine lv_iload hx hb dL_law_1052 (lv_at hl 5 rfl) ?_
      refine lv_iconst (v := 2) hx hb dL_law_1054 (by decide) ?_
      refine lv_iadd hx hb dL_law_1055 ?_
      refine va_sld hx hb hX hbl hbA hV.2.2.2.2.1 hi2 dL_law_1056 ?_
      refine lv_aload_n hx hb dL_law_1057 rfl (lv_at hl 1 rfl) ?_
      refine lv_iload hx hb dL_law_1058 (lv_at hl 5 rfl) ?_
      refine lv_iconst (v := 3) hx hb dL_law_1060 (by decide) ?_
      refine lv_iadd hx hb dL_law_1061 ?_
      refine va_sld hx hb hX hbl hbA hV.2.2.2.2.1 hi3 dL_law_1062 ?_
      refine k_X10_buys hy1 cx (lw_toM hV) mk_8_37 ⟨Nat.le_of_ble_eq_true rfl, Nat.le_of_ble_eq_true rfl⟩ hcs hl.1 (Nat.le_of_ble_eq_true rfl) dL_law_1063 (fun H locs hV => ?_)
      have hV := lw_ofM hV
      refine lv_istore (lv' := [(6, .int r), (5, .int 2), (0, .ref b), (1, .ref (eA E 0)), (2, .ref (eA (eW E ad) 0)), (3, .ref o), (4, .int x4)]) hx hb dL_law_1066 hl (by decide) rfl (fun ls hl => ?_)
      refine lv_aload_n hx hb dL_law_1068 rfl (lv_at hl 4 rfl) ?_
      refine k_X10_thrown (rv := 2) (show x_X10_thrown _ = some 2 from congrArg some h0) cx (lw_toM hV) mk_6_75 ⟨Nat.le_of_ble_eq_true rfl, Nat.le_of_ble_eq_true rfl⟩ hcs hl.1 (Nat.le_of_ble_eq_true rfl) dL_law_1069 (fun H locs hV => ?_)
      have hV := lw_ofM hV
      refine lv_iload hx hb dL_law_1072 (lv_at hl 1 rfl) ?_
      refine lv_icmp_eq (tgt := 1079) hx hb dL_law_1074 (by decide) (fun _ => ?_) (fun q => absurd rfl q)
      refine lv_iload hx hb dL_law_1079 (lv_at hl 1 rfl) ?_
      refine lv_if_ne (tgt := 1096) hx hb dL_law_1081 (by decide) (fun _ => ?_) (fun q => absurd q (by decide))
      refine lv_goto (tgt := 2051) hx hb dL_law_1096 (by decide) ?_
      refine W.widen (k := cells + 1) (n := slots + 6) (by omega) (by omega) ?_
      exact kk _ _ _ _ _ _ hV hI2 (lv_sub hl [2, 3, 4, 5, 6] rfl)
set_option maxHeartbeats 4000000 in
set_option maxRecDepth 100000 in
theorem lc_then {p : Program} {l : Launch} {e : Env} {s : State} {m : MethodId} {below : List Frame} {meth : Method} {c : Code} {b L : Nat} {xs : Nat → Int32} {E : EV} {ad : Nat → Nat} {σ τ : St} {o : Nat} {f : Nat → Int64} {H : Heap} {locs : List Loc} {ls : Array Slot} {x4 : Int32} {cells slots : Nat} {Q : State → Prop} (D : LwD p l s m c b L xs E ad) (hi1 : vp_in (x4 + 1) L) (hi2 : vp_in (x4 + 2) L) (hi3 : vp_in (x4 + 3) L) (hi4 : vp_in (x4 + 4) L) (hi5 : vp_in (x4 + 5) L) (hcs : cells + 1 ≤ room_1.cells ∧ slots + 6 ≤ room_1.slots) (hV : AtW E (lwW E ad σ τ o f) (lwA s) s H locs) (hI : Inv σ τ) (hl : lv_has ls 8 [(0, .ref b), (1, .ref (eA E 0)), (2, .ref (eA (eW E ad) 0)), (3, .ref o), (4, .int x4)]) (kk : LwK p l e s m below meth c b E ad o x4 cells slots Q) : W p l e room_1 s m #[Value.ref b] below meth c H locs cells slots Q (F0 m 1099 ls []) := by
  obtain ⟨cx, hX, hbl, hF, hF2, hN, hT⟩ := D
  have hx := cx.1
  have hb := cx.2.1
  have hbA : ¬ lwA s b := Nat.not_le.mpr hbl
  have hc0 : cells ≤ room_1.cells ∧ slots ≤ room_1.slots := ⟨Nat.le_trans (Nat.le_add_right _ 1) hcs.1, Nat.le_trans (Nat.le_add_right _ 6) hcs.2⟩
  rcases op_then hI (xs (x4 + 1).toNatClampNeg) (xs (x4 + 2).toNatClampNeg) with ⟨r, σ2, τ2, hx1, hy1, h0, hI2⟩ | ⟨c9, σ2, r, τ2, hx1, hy1, hc, hI2⟩
  · refine lv_aload_n hx hb dL_law_1099 rfl (lv_at hl 1 rfl) ?_
    refine lv_aload_n hx hb dL_law_1100 rfl (lv_at hl 0 rfl) ?_
    refine lv_iload hx hb dL_law_1101 (lv_at hl 4 rfl) ?_
    refine lv_iconst (v := 1) hx hb dL_law_1103 (by decide) ?_
    refine lv_iadd hx hb dL_law_1104 ?_
    refine va_sld hx hb hX hbl hbA hV.2.2.2.2.1 hi1 dL_law_1105 ?_
    refine lv_aload_n hx hb dL_law_1106 rfl (lv_at hl 0 rfl) ?_
    refine lv_iload hx hb dL_law_1107 (lv_at hl 4 rfl) ?_
    refine lv_iconst (v := 2) hx hb dL_law_1109 (by decide) ?_
    refine lv_iadd hx hb dL_law_1110 ?_
    refine va_sld hx hb hX hbl hbA hV.2.2.2.2.1 hi2 dL_law_1111 ?_
    refine lv_aload_n hx hb dL_law_1112 rfl (lv_at hl 3 rfl) ?_
    refine r_stW (n := 4) (As := [.ref (eA E 0), .int (xs (x4 + 1).toNatClampNeg), .int (xs (x4 + 2).toNatClampNeg), .ref o]) (w_L_then hx1) lw_fst mk_5_110 mk_1_0 mk_5_111 (by decide +kernel) rfl ⟨rfl, rfl⟩ cx hV hF hN mk_5_109 ⟨Nat.le_of_ble_eq_true rfl, Nat.le_of_ble_eq_true rfl⟩ hc0 hl.1 rfl (Nat.le_of_ble_eq_true rfl) dL_law_1113 (fun H locs hV => ?_)
    refine lv_istore (lv' := [(5, .int 0), (0, .ref b), (1, .ref (eA E 0)), (2, .ref (eA (eW E ad) 0)), (3, .ref o), (4, .int x4)]) hx hb dL_law_1116 hl (by decide) rfl (fun ls hl => ?_)
    refine lv_aload_n hx hb dL_law_1118 rfl (lv_at hl 3 rfl) ?_
    refine lv_aload_n hx hb dL_law_1119 rfl (lv_at hl 1 rfl) ?_
    refine lv_iload hx hb dL_law_1120 (lv_at hl 5 rfl) ?_
    refine lv_iconst (v := 1) hx hb dL_law_1122 (by decide) ?_
    refine lv_iadd hx hb dL_law_1123 ?_
    refine va_sld hx hb hX hbl hbA hV.2.2.2.2.1 hi1 dL_law_1124 ?_
    refine lv_aload_n hx hb dL_law_1125 rfl (lv_at hl 1 rfl) ?_
    refine lv_iload hx hb dL_law_1126 (lv_at hl 5 rfl) ?_
    refine lv_iconst (v := 2) hx hb dL_law_1128 (by decide) ?_
    refine lv_iadd hx hb dL_law_1129 ?_
    refine va_sld hx hb hX hbl hbA hV.2.2.2.2.1 hi2 dL_law_1130 ?_
    refine k_X10_then hy1 cx (lw_toM hV) mk_8_41 ⟨Nat.le_of_ble_eq_true rfl, Nat.le_of_ble_eq_true rfl⟩ hc0 hl.1 (Nat.le_of_ble_eq_true rfl) dL_law_1131 (fun H locs hV => ?_)
    have hV := lw_ofM hV
    refine lv_istore (lv' := [(6, .int r), (5, .int 0), (0, .ref b), (1, .ref (eA E 0)), (2, .ref (eA (eW E ad) 0)), (3, .ref o), (4, .int x4)]) hx hb dL_law_1134 hl (by decide) rfl (fun ls hl => ?_)
    refine lv_aload_n hx hb dL_law_1136 rfl (lv_at hl 4 rfl) ?_
    refine k_X10_thrown (rv := 0) (show x_X10_thrown _ = some 0 from congrArg some h0) cx (lw_toM hV) mk_6_75 ⟨Nat.le_of_ble_eq_true rfl, Nat.le_of_ble_eq_true rfl⟩ hc0 hl.1 (Nat.le_of_ble_eq_true rfl) dL_law_1137 (fun H locs hV => ?_)
    have hV := lw_ofM hV
    refine lv_iload hx hb dL_law_1140 (lv_at hl 1 rfl) ?_
    refine lv_icmp_eq (tgt := 1147) hx hb dL_law_1142 (by decide) (fun _ => ?_) (fun q => absurd rfl q)
    refine lv_iload hx hb dL_law_1147 (lv_at hl 1 rfl) ?_
    refine lv_if_ne (tgt := 1164) hx hb dL_law_1149 (by decide) (fun q => absurd rfl q) (fun _ => ?_)
    refine lv_aload_n hx hb dL_law_1152 rfl (lv_at hl 5 rfl) ?_
    refine lv_iconst (v := 0) hx hb dL_law_1153 (by decide) ?_
    refine r_lald cx hV 115 rfl (n := 1) (by unfold vp_in; decide) dL_law_1154 ?_
    rw [lw_upd0]
    refine lv_iload hx hb dL_law_1155 (lv_at hl 0 rfl) ?_
    refine lv_i2l (v := Int32.toInt64 r) hx hb dL_law_1157 rfl ?_
    refine W.lcmp hx hb dL_law_1158 ?_
    rw [lw_cmp0]
    refine lv_if_eq (tgt := 1164) hx hb dL_law_1159 (by decide) (fun _ => ?_) (fun q => absurd rfl q)
    refine lv_goto (tgt := 2051) hx hb dL_law_1164 (by decide) ?_
    refine W.widen (k := cells + 1) (n := slots + 6) (by omega) (by omega) ?_
    exact kk _ _ _ _ _ _ hV hI2 (lv_sub hl [2, 3, 4, 5, 6] rfl)
  · simp only [List.mem_cons, Prod.mk.injEq, List.not_mem_nil, or_false] at hc
    obtain ⟨rfl, h0⟩ := hc
    refine lv_aload_n hx hb dL_law_1099 rfl (lv_at hl 1 rfl) ?_
    refine lv_aload_n hx hb dL_law_1100 rfl (lv_at hl 0 rfl) ?_
    refine lv_iload hx hb dL_law_1101 (lv_at hl 4 rfl) ?_
    refine lv_iconst (v := 1) hx hb dL_law_1103 (by decide) ?_
    refine lv_iadd hx hb dL_law_1104 ?_
    refine va_sld hx hb hX hbl hbA hV.2.2.2.2.1 hi1 dL_law_1105 ?_
    refine lv_aload_n hx hb dL_law_1106 rfl (lv_at hl 0 rfl) ?_
    refine lv_iload hx hb dL_law_1107 (lv_at hl 4 rfl) ?_
    refine lv_iconst (v := 2) hx hb dL_law_1109 (by decide) ?_
    refine lv_iadd hx hb dL_law_1110 ?_
    refine va_sld hx hb hX hbl hbA hV.2.2.2.2.1 hi2 dL_law_1111 ?_
    refine lv_aload_n hx hb dL_law_1112 rfl (lv_at hl 3 rfl) ?_
    refine r_stW (n := 4) (As := [.ref (eA E 0), .int (xs (x4 + 1).toNatClampNeg), .int (xs (x4 + 2).toNatClampNeg), .ref o]) (wt_L_then_2 hT hx1) lw_fst mk_5_110 mk_1_0 mk_5_111 (by decide +kernel) rfl ⟨rfl, rfl⟩ cx hV hF hN mk_5_109 ⟨Nat.le_of_ble_eq_true rfl, Nat.le_of_ble_eq_true rfl⟩ hcs hl.1 rfl (Nat.le_of_ble_eq_true rfl) dL_law_1113 (fun H locs hV => ?_)
    refine lv_istore (lv' := [(5, .int 1), (0, .ref b), (1, .ref (eA E 0)), (2, .ref (eA (eW E ad) 0)), (3, .ref o), (4, .int x4)]) hx hb dL_law_1116 hl (by decide) rfl (fun ls hl => ?_)
    refine lv_aload_n hx hb dL_law_1118 rfl (lv_at hl 3 rfl) ?_
    refine lv_aload_n hx hb dL_law_1119 rfl (lv_at hl 1 rfl) ?_
    refine lv_iload hx hb dL_law_1120 (lv_at hl 5 rfl) ?_
    refine lv_iconst (v := 1) hx hb dL_law_1122 (by decide) ?_
    refine lv_iadd hx hb dL_law_1123 ?_
    refine va_sld hx hb hX hbl hbA hV.2.2.2.2.1 hi1 dL_law_1124 ?_
    refine lv_aload_n hx hb dL_law_1125 rfl (lv_at hl 1 rfl) ?_
    refine lv_iload hx hb dL_law_1126 (lv_at hl 5 rfl) ?_
    refine lv_iconst (v := 2) hx hb dL_law_1128 (by decide) ?_
    refine lv_iadd hx hb dL_law_1129 ?_
    refine va_sld hx hb hX hbl hbA hV.2.2.2.2.1 hi2 dL_law_1130 ?_
    refine k_X10_then hy1 cx (lw_toM hV) mk_8_41 ⟨Nat.le_of_ble_eq_true rfl, Nat.le_of_ble_eq_true rfl⟩ hcs hl.1 (Nat.le_of_ble_eq_true rfl) dL_law_1131 (fun H locs hV => ?_)
    have hV := lw_ofM hV
    refine lv_istore (lv' := [(6, .int r), (5, .int 1), (0, .ref b), (1, .ref (eA E 0)), (2, .ref (eA (eW E ad) 0)), (3, .ref o), (4, .int x4)]) hx hb dL_law_1134 hl (by decide) rfl (fun ls hl => ?_)
    refine lv_aload_n hx hb dL_law_1136 rfl (lv_at hl 4 rfl) ?_
    refine k_X10_thrown (rv := 1) (show x_X10_thrown _ = some 1 from congrArg some h0) cx (lw_toM hV) mk_6_75 ⟨Nat.le_of_ble_eq_true rfl, Nat.le_of_ble_eq_true rfl⟩ hcs hl.1 (Nat.le_of_ble_eq_true rfl) dL_law_1137 (fun H locs hV => ?_)
    have hV := lw_ofM hV
    refine lv_iload hx hb dL_law_1140 (lv_at hl 1 rfl) ?_
    refine lv_icmp_eq (tgt := 1147) hx hb dL_law_1142 (by decide) (fun _ => ?_) (fun q => absurd rfl q)
    refine lv_iload hx hb dL_law_1147 (lv_at hl 1 rfl) ?_
    refine lv_if_ne (tgt := 1164) hx hb dL_law_1149 (by decide) (fun _ => ?_) (fun q => absurd q (by decide))
    refine lv_goto (tgt := 2051) hx hb dL_law_1164 (by decide) ?_
    refine W.widen (k := cells + 1) (n := slots + 6) (by omega) (by omega) ?_
    exact kk _ _ _ _ _ _ hV hI2 (lv_sub hl [2, 3, 4, 5, 6] rfl)
set_option maxHeartbeats 4000000 in
set_option maxRecDepth 100000 in
theorem lc_odds {p : Program} {l : Launch} {e : Env} {s : State} {m : MethodId} {below : List Frame} {meth : Method} {c : Code} {b L : Nat} {xs : Nat → Int32} {E : EV} {ad : Nat → Nat} {σ τ : St} {o : Nat} {f : Nat → Int64} {H : Heap} {locs : List Loc} {ls : Array Slot} {x4 : Int32} {cells slots : Nat} {Q : State → Prop} (D : LwD p l s m c b L xs E ad) (hi1 : vp_in (x4 + 1) L) (hi2 : vp_in (x4 + 2) L) (hi3 : vp_in (x4 + 3) L) (hi4 : vp_in (x4 + 4) L) (hi5 : vp_in (x4 + 5) L) (hcs : cells + 1 ≤ room_1.cells ∧ slots + 6 ≤ room_1.slots) (hV : AtW E (lwW E ad σ τ o f) (lwA s) s H locs) (hI : Inv σ τ) (hl : lv_has ls 8 [(0, .ref b), (1, .ref (eA E 0)), (2, .ref (eA (eW E ad) 0)), (3, .ref o), (4, .int x4)]) (kk : LwK p l e s m below meth c b E ad o x4 cells slots Q) : W p l e room_1 s m #[Value.ref b] below meth c H locs cells slots Q (F0 m 1167 ls []) := by
  obtain ⟨cx, hX, hbl, hF, hF2, hN, hT⟩ := D
  have hx := cx.1
  have hb := cx.2.1
  have hbA : ¬ lwA s b := Nat.not_le.mpr hbl
  have hc0 : cells ≤ room_1.cells ∧ slots ≤ room_1.slots := ⟨Nat.le_trans (Nat.le_add_right _ 1) hcs.1, Nat.le_trans (Nat.le_add_right _ 6) hcs.2⟩
  rcases op_odds hI (xs (x4 + 1).toNatClampNeg) (xs (x4 + 2).toNatClampNeg) (xs (x4 + 3).toNatClampNeg) (xs (x4 + 4).toNatClampNeg) with ⟨r, σ2, τ2, hx1, hy1, h0, hI2⟩ | ⟨c9, σ2, r, τ2, hx1, hy1, hc, hI2⟩
  · refine lv_aload_n hx hb dL_law_1167 rfl (lv_at hl 1 rfl) ?_
    refine lv_aload_n hx hb dL_law_1168 rfl (lv_at hl 0 rfl) ?_
    refine lv_iload hx hb dL_law_1169 (lv_at hl 4 rfl) ?_
    refine lv_iconst (v := 1) hx hb dL_law_1171 (by decide) ?_
    refine lv_iadd hx hb dL_law_1172 ?_
    refine va_sld hx hb hX hbl hbA hV.2.2.2.2.1 hi1 dL_law_1173 ?_
    refine lv_aload_n hx hb dL_law_1174 rfl (lv_at hl 0 rfl) ?_
    refine lv_iload hx hb dL_law_1175 (lv_at hl 4 rfl) ?_
    refine lv_iconst (v := 2) hx hb dL_law_1177 (by decide) ?_
    refine lv_iadd hx hb dL_law_1178 ?_
    refine va_sld hx hb hX hbl hbA hV.2.2.2.2.1 hi2 dL_law_1179 ?_
    refine lv_aload_n hx hb dL_law_1180 rfl (lv_at hl 0 rfl) ?_
    refine lv_iload hx hb dL_law_1181 (lv_at hl 4 rfl) ?_
    refine lv_iconst (v := 3) hx hb dL_law_1183 (by decide) ?_
    refine lv_iadd hx hb dL_law_1184 ?_
    refine va_sld hx hb hX hbl hbA hV.2.2.2.2.1 hi3 dL_law_1185 ?_
    refine lv_aload_n hx hb dL_law_1186 rfl (lv_at hl 0 rfl) ?_
    refine lv_iload hx hb dL_law_1187 (lv_at hl 4 rfl) ?_
    refine lv_iconst (v := 4) hx hb dL_law_1189 (by decide) ?_
    refine lv_iadd hx hb dL_law_1190 ?_
    refine va_sld hx hb hX hbl hbA hV.2.2.2.2.1 hi4 dL_law_1191 ?_
    refine lv_aload_n hx hb dL_law_1192 rfl (lv_at hl 3 rfl) ?_
    refine r_stW (n := 6) (As := [.ref (eA E 0), .int (xs (x4 + 1).toNatClampNeg), .int (xs (x4 + 2).toNatClampNeg), .int (xs (x4 + 3).toNatClampNeg), .int (xs (x4 + 4).toNatClampNeg), .ref o]) (w_L_odds hx1) lw_fst mk_5_117 mk_1_0 mk_5_118 (by decide +kernel) rfl ⟨rfl, rfl⟩ cx hV hF hN mk_5_116 ⟨Nat.le_of_ble_eq_true rfl, Nat.le_of_ble_eq_true rfl⟩ hc0 hl.1 rfl (Nat.le_of_ble_eq_true rfl) dL_law_1193 (fun H locs hV => ?_)
    refine lv_istore (lv' := [(5, .int 0), (0, .ref b), (1, .ref (eA E 0)), (2, .ref (eA (eW E ad) 0)), (3, .ref o), (4, .int x4)]) hx hb dL_law_1196 hl (by decide) rfl (fun ls hl => ?_)
    refine lv_aload_n hx hb dL_law_1198 rfl (lv_at hl 3 rfl) ?_
    refine lv_aload_n hx hb dL_law_1199 rfl (lv_at hl 1 rfl) ?_
    refine lv_iload hx hb dL_law_1200 (lv_at hl 5 rfl) ?_
    refine lv_iconst (v := 1) hx hb dL_law_1202 (by decide) ?_
    refine lv_iadd hx hb dL_law_1203 ?_
    refine va_sld hx hb hX hbl hbA hV.2.2.2.2.1 hi1 dL_law_1204 ?_
    refine lv_aload_n hx hb dL_law_1205 rfl (lv_at hl 1 rfl) ?_
    refine lv_iload hx hb dL_law_1206 (lv_at hl 5 rfl) ?_
    refine lv_iconst (v := 2) hx hb dL_law_1208 (by decide) ?_
    refine lv_iadd hx hb dL_law_1209 ?_
    refine va_sld hx hb hX hbl hbA hV.2.2.2.2.1 hi2 dL_law_1210 ?_
    refine lv_aload_n hx hb dL_law_1211 rfl (lv_at hl 1 rfl) ?_
    refine lv_iload hx hb dL_law_1212 (lv_at hl 5 rfl) ?_
    refine lv_iconst (v := 3) hx hb dL_law_1214 (by decide) ?_
    refine lv_iadd hx hb dL_law_1215 ?_
    refine va_sld hx hb hX hbl hbA hV.2.2.2.2.1 hi3 dL_law_1216 ?_
    refine lv_aload_n hx hb dL_law_1217 rfl (lv_at hl 1 rfl) ?_
    refine lv_iload hx hb dL_law_1218 (lv_at hl 5 rfl) ?_
    refine lv_iconst (v := 4) hx hb dL_law_1220 (by decide) ?_
    refine lv_iadd hx hb dL_law_1221 ?_
    refine va_sld hx hb hX hbl hbA hV.2.2.2.2.1 hi4 dL_law_1222 ?_
    refine k_X10_odds hy1 cx (lw_toM hV) mk_8_45 ⟨Nat.le_of_ble_eq_true rfl, Nat.le_of_ble_eq_true rfl⟩ hc0 hl.1 (Nat.le_of_ble_eq_true rfl) dL_law_1223 (fun H locs hV => ?_)
    have hV := lw_ofM hV
    refine lv_lstore (lv' := [(6, .long r), (5, .int 0), (0, .ref b), (1, .ref (eA E 0)), (2, .ref (eA (eW E ad) 0)), (3, .ref o), (4, .int x4)]) hx hb dL_law_1226 hl (by decide) rfl (fun ls hl => ?_)
    refine lv_aload_n hx hb dL_law_1228 rfl (lv_at hl 4 rfl) ?_
    refine k_X10_thrown (rv := 0) (show x_X10_thrown _ = some 0 from congrArg some h0) cx (lw_toM hV) mk_6_75 ⟨Nat.le_of_ble_eq_true rfl, Nat.le_of_ble_eq_true rfl⟩ hc0 hl.1 (Nat.le_of_ble_eq_true rfl) dL_law_1229 (fun H locs hV => ?_)
    have hV := lw_ofM hV
    refine lv_iload hx hb dL_law_1232 (lv_at hl 1 rfl) ?_
    refine lv_icmp_eq (tgt := 1239) hx hb dL_law_1234 (by decide) (fun _ => ?_) (fun q => absurd rfl q)
    refine lv_iload hx hb dL_law_1239 (lv_at hl 1 rfl) ?_
    refine lv_if_ne (tgt := 1255) hx hb dL_law_1241 (by decide) (fun q => absurd rfl q) (fun _ => ?_)
    refine lv_aload_n hx hb dL_law_1244 rfl (lv_at hl 5 rfl) ?_
    refine lv_iconst (v := 0) hx hb dL_law_1245 (by decide) ?_
    refine r_lald cx hV 115 rfl (n := 1) (by unfold vp_in; decide) dL_law_1246 ?_
    rw [lw_upd0]
    refine lv_lload hx hb dL_law_1247 (lv_at hl 0 rfl) ?_
    refine W.lcmp hx hb dL_law_1249 ?_
    rw [lw_cmp0]
    refine lv_if_eq (tgt := 1255) hx hb dL_law_1250 (by decide) (fun _ => ?_) (fun q => absurd rfl q)
    refine lv_goto (tgt := 2051) hx hb dL_law_1255 (by decide) ?_
    refine W.widen (k := cells + 1) (n := slots + 6) (by omega) (by omega) ?_
    exact kk _ _ _ _ _ _ hV hI2 (lv_sub hl [2, 3, 4, 5, 6] rfl)
  · simp only [List.mem_cons, Prod.mk.injEq, List.not_mem_nil, or_false] at hc
    rcases hc with ⟨rfl, h0⟩ | ⟨rfl, h0⟩ | ⟨rfl, h0⟩ | ⟨rfl, h0⟩
    · refine lv_aload_n hx hb dL_law_1167 rfl (lv_at hl 1 rfl) ?_
      refine lv_aload_n hx hb dL_law_1168 rfl (lv_at hl 0 rfl) ?_
      refine lv_iload hx hb dL_law_1169 (lv_at hl 4 rfl) ?_
      refine lv_iconst (v := 1) hx hb dL_law_1171 (by decide) ?_
      refine lv_iadd hx hb dL_law_1172 ?_
      refine va_sld hx hb hX hbl hbA hV.2.2.2.2.1 hi1 dL_law_1173 ?_
      refine lv_aload_n hx hb dL_law_1174 rfl (lv_at hl 0 rfl) ?_
      refine lv_iload hx hb dL_law_1175 (lv_at hl 4 rfl) ?_
      refine lv_iconst (v := 2) hx hb dL_law_1177 (by decide) ?_
      refine lv_iadd hx hb dL_law_1178 ?_
      refine va_sld hx hb hX hbl hbA hV.2.2.2.2.1 hi2 dL_law_1179 ?_
      refine lv_aload_n hx hb dL_law_1180 rfl (lv_at hl 0 rfl) ?_
      refine lv_iload hx hb dL_law_1181 (lv_at hl 4 rfl) ?_
      refine lv_iconst (v := 3) hx hb dL_law_1183 (by decide) ?_
      refine lv_iadd hx hb dL_law_1184 ?_
      refine va_sld hx hb hX hbl hbA hV.2.2.2.2.1 hi3 dL_law_1185 ?_
      refine lv_aload_n hx hb dL_law_1186 rfl (lv_at hl 0 rfl) ?_
      refine lv_iload hx hb dL_law_1187 (lv_at hl 4 rfl) ?_
      refine lv_iconst (v := 4) hx hb dL_law_1189 (by decide) ?_
      refine lv_iadd hx hb dL_law_1190 ?_
      refine va_sld hx hb hX hbl hbA hV.2.2.2.2.1 hi4 dL_law_1191 ?_
      refine lv_aload_n hx hb dL_law_1192 rfl (lv_at hl 3 rfl) ?_
      refine r_stW (n := 6) (As := [.ref (eA E 0), .int (xs (x4 + 1).toNatClampNeg), .int (xs (x4 + 2).toNatClampNeg), .int (xs (x4 + 3).toNatClampNeg), .int (xs (x4 + 4).toNatClampNeg), .ref o]) (wt_L_odds_1 hT hx1) lw_fst mk_5_117 mk_1_0 mk_5_118 (by decide +kernel) rfl ⟨rfl, rfl⟩ cx hV hF hN mk_5_116 ⟨Nat.le_of_ble_eq_true rfl, Nat.le_of_ble_eq_true rfl⟩ hcs hl.1 rfl (Nat.le_of_ble_eq_true rfl) dL_law_1193 (fun H locs hV => ?_)
      refine lv_istore (lv' := [(5, .int 1), (0, .ref b), (1, .ref (eA E 0)), (2, .ref (eA (eW E ad) 0)), (3, .ref o), (4, .int x4)]) hx hb dL_law_1196 hl (by decide) rfl (fun ls hl => ?_)
      refine lv_aload_n hx hb dL_law_1198 rfl (lv_at hl 3 rfl) ?_
      refine lv_aload_n hx hb dL_law_1199 rfl (lv_at hl 1 rfl) ?_
      refine lv_iload hx hb dL_law_1200 (lv_at hl 5 rfl) ?_
      refine lv_iconst (v := 1) hx hb dL_law_1202 (by decide) ?_
      refine lv_iadd hx hb dL_law_1203 ?_
      refine va_sld hx hb hX hbl hbA hV.2.2.2.2.1 hi1 dL_law_1204 ?_
      refine lv_aload_n hx hb dL_law_1205 rfl (lv_at hl 1 rfl) ?_
      refine lv_iload hx hb dL_law_1206 (lv_at hl 5 rfl) ?_
      refine lv_iconst (v := 2) hx hb dL_law_1208 (by decide) ?_
      refine lv_iadd hx hb dL_law_1209 ?_
      refine va_sld hx hb hX hbl hbA hV.2.2.2.2.1 hi2 dL_law_1210 ?_
      refine lv_aload_n hx hb dL_law_1211 rfl (lv_at hl 1 rfl) ?_
      refine lv_iload hx hb dL_law_1212 (lv_at hl 5 rfl) ?_
      refine lv_iconst (v := 3) hx hb dL_law_1214 (by decide) ?_
      refine lv_iadd hx hb dL_law_1215 ?_
      refine va_sld hx hb hX hbl hbA hV.2.2.2.2.1 hi3 dL_law_1216 ?_
      refine lv_aload_n hx hb dL_law_1217 rfl (lv_at hl 1 rfl) ?_
      refine lv_iload hx hb dL_law_1218 (lv_at hl 5 rfl) ?_
      refine lv_iconst (v := 4) hx hb dL_law_1220 (by decide) ?_
      refine lv_iadd hx hb dL_law_1221 ?_
      refine va_sld hx hb hX hbl hbA hV.2.2.2.2.1 hi4 dL_law_1222 ?_
      refine k_X10_odds hy1 cx (lw_toM hV) mk_8_45 ⟨Nat.le_of_ble_eq_true rfl, Nat.le_of_ble_eq_true rfl⟩ hcs hl.1 (Nat.le_of_ble_eq_true rfl) dL_law_1223 (fun H locs hV => ?_)
      have hV := lw_ofM hV
      refine lv_lstore (lv' := [(6, .long r), (5, .int 1), (0, .ref b), (1, .ref (eA E 0)), (2, .ref (eA (eW E ad) 0)), (3, .ref o), (4, .int x4)]) hx hb dL_law_1226 hl (by decide) rfl (fun ls hl => ?_)
      refine lv_aload_n hx hb dL_law_1228 rfl (lv_at hl 4 rfl) ?_
      refine k_X10_thrown (rv := 1) (show x_X10_thrown _ = some 1 from congrArg some h0) cx (lw_toM hV) mk_6_75 ⟨Nat.le_of_ble_eq_true rfl, Nat.le_of_ble_eq_true rfl⟩ hcs hl.1 (Nat.le_of_ble_eq_true rfl) dL_law_1229 (fun H locs hV => ?_)
      have hV := lw_ofM hV
      refine lv_iload hx hb dL_law_1232 (lv_at hl 1 rfl) ?_
      refine lv_icmp_eq (tgt := 1239) hx hb dL_law_1234 (by decide) (fun _ => ?_) (fun q => absurd rfl q)
      refine lv_iload hx hb dL_law_1239 (lv_at hl 1 rfl) ?_
      refine lv_if_ne (tgt := 1255) hx hb dL_law_1241 (by decide) (fun _ => ?_) (fun q => absurd q (by decide))
      refine lv_goto (tgt := 2051) hx hb dL_law_1255 (by decide) ?_
      refine W.widen (k := cells + 1) (n := slots + 6) (by omega) (by omega) ?_
      exact kk _ _ _ _ _ _ hV hI2 (lv_sub hl [2, 3, 4, 5, 6] rfl)
    · refine lv_aload_n hx hb dL_law_1167 rfl (lv_at hl 1 rfl) ?_
      refine lv_aload_n hx hb dL_law_1168 rfl (lv_at hl 0 rfl) ?_
      refine lv_iload hx hb dL_law_1169 (lv_at hl 4 rfl) ?_
      refine lv_iconst (v := 1) hx hb dL_law_1171 (by decide) ?_
      refine lv_iadd hx hb dL_law_1172 ?_
      refine va_sld hx hb hX hbl hbA hV.2.2.2.2.1 hi1 dL_law_1173 ?_
      refine lv_aload_n hx hb dL_law_1174 rfl (lv_at hl 0 rfl) ?_
      refine lv_iload hx hb dL_law_1175 (lv_at hl 4 rfl) ?_
      refine lv_iconst (v := 2) hx hb dL_law_1177 (by decide) ?_
      refine lv_iadd hx hb dL_law_1178 ?_
      refine va_sld hx hb hX hbl hbA hV.2.2.2.2.1 hi2 dL_law_1179 ?_
      refine lv_aload_n hx hb dL_law_1180 rfl (lv_at hl 0 rfl) ?_
      refine lv_iload hx hb dL_law_1181 (lv_at hl 4 rfl) ?_
      refine lv_iconst (v := 3) hx hb dL_law_1183 (by decide) ?_
      refine lv_iadd hx hb dL_law_1184 ?_
      refine va_sld hx hb hX hbl hbA hV.2.2.2.2.1 hi3 dL_law_1185 ?_
      refine lv_aload_n hx hb dL_law_1186 rfl (lv_at hl 0 rfl) ?_
      refine lv_iload hx hb dL_law_1187 (lv_at hl 4 rfl) ?_
      refine lv_iconst (v := 4) hx hb dL_law_1189 (by decide) ?_
      refine lv_iadd hx hb dL_law_1190 ?_
      refine va_sld hx hb hX hbl hbA hV.2.2.2.2.1 hi4 dL_law_1191 ?_
      refine lv_aload_n hx hb dL_law_1192 rfl (lv_at hl 3 rfl) ?_
      refine r_stW (n := 6) (As := [.ref (eA E 0), .int (xs (x4 + 1).toNatClampNeg), .int (xs (x4 + 2).toNatClampNeg), .int (xs (x4 + 3).toNatClampNeg), .int (xs (x4 + 4).toNatClampNeg), .ref o]) (wt_L_odds_2 hT hx1) lw_fst mk_5_117 mk_1_0 mk_5_118 (by decide +kernel) rfl ⟨rfl, rfl⟩ cx hV hF hN mk_5_116 ⟨Nat.le_of_ble_eq_true rfl, Nat.le_of_ble_eq_true rfl⟩ hcs hl.1 rfl (Nat.le_of_ble_eq_true rfl) dL_law_1193 (fun H locs hV => ?_)
      refine lv_istore (lv' := [(5, .int 2), (0, .ref b), (1, .ref (eA E 0)), (2, .ref (eA (eW E ad) 0)), (3, .ref o), (4, .int x4)]) hx hb dL_law_1196 hl (by decide) rfl (fun ls hl => ?_)
      refine lv_aload_n hx hb dL_law_1198 rfl (lv_at hl 3 rfl) ?_
      refine lv_aload_n hx hb dL_law_1199 rfl (lv_at hl 1 rfl) ?_
      refine lv_iload hx hb dL_law_1200 (lv_at hl 5 rfl) ?_
      refine lv_iconst (v := 1) hx hb dL_law_1202 (by decide) ?_
      refine lv_iadd hx hb dL_law_1203 ?_
      refine va_sld hx hb hX hbl hbA hV.2.2.2.2.1 hi1 dL_law_1204 ?_
      refine lv_aload_n hx hb dL_law_1205 rfl (lv_at hl 1 rfl) ?_
      refine lv_iload hx hb dL_law_1206 (lv_at hl 5 rfl) ?_
      refine lv_iconst (v := 2) hx hb dL_law_1208 (by decide) ?_
      refine lv_iadd hx hb dL_law_1209 ?_
      refine va_sld hx hb hX hbl hbA hV.2.2.2.2.1 hi2 dL_law_1210 ?_
      refine lv_aload_n hx hb dL_law_1211 rfl (lv_at hl 1 rfl) ?_
      refine lv_iload hx hb dL_law_1212 (lv_at hl 5 rfl) ?_
      refine lv_iconst (v := 3) hx hb dL_law_1214 (by decide) ?_
      refine lv_iadd hx hb dL_law_1215 ?_
      refine va_sld hx hb hX hbl hbA hV.2.2.2.2.1 hi3 dL_law_1216 ?_
      refine lv_aload_n hx hb dL_law_1217 rfl (lv_at hl 1 rfl) ?_
      refine lv_iload hx hb dL_law_1218 (lv_at hl 5 rfl) ?_
      refine lv_iconst (v := 4) hx hb dL_law_1220 (by decide) ?_
      refine lv_iadd hx hb dL_law_1221 ?_
      refine va_sld hx hb hX hbl hbA hV.2.2.2.2.1 hi4 dL_law_1222 ?_
      refine k_X10_odds hy1 cx (lw_toM hV) mk_8_45 ⟨Nat.le_of_ble_eq_true rfl, Nat.le_of_ble_eq_true rfl⟩ hcs hl.1 (Nat.le_of_ble_eq_true rfl) dL_law_1223 (fun H locs hV => ?_)
      have hV := lw_ofM hV
      refine lv_lstore (lv' := [(6, .long r), (5, .int 2), (0, .ref b), (1, .ref (eA E 0)), (2, .ref (eA (eW E ad) 0)), (3, .ref o), (4, .int x4)]) hx hb dL_law_1226 hl (by decide) rfl (fun ls hl => ?_)
      refine lv_aload_n hx hb dL_law_1228 rfl (lv_at hl 4 rfl) ?_
      refine k_X10_thrown (rv := 2) (show x_X10_thrown _ = some 2 from congrArg some h0) cx (lw_toM hV) mk_6_75 ⟨Nat.le_of_ble_eq_true rfl, Nat.le_of_ble_eq_true rfl⟩ hcs hl.1 (Nat.le_of_ble_eq_true rfl) dL_law_1229 (fun H locs hV => ?_)
      have hV := lw_ofM hV
      refine lv_iload hx hb dL_law_1232 (lv_at hl 1 rfl) ?_
      refine lv_icmp_eq (tgt := 1239) hx hb dL_law_1234 (by decide) (fun _ => ?_) (fun q => absurd rfl q)
      refine lv_iload hx hb dL_law_1239 (lv_at hl 1 rfl) ?_
      refine lv_if_ne (tgt := 1255) hx hb dL_law_1241 (by decide) (fun _ => ?_) (fun q => absurd q (by decide))
      refine lv_goto (tgt := 2051) hx hb dL_law_1255 (by decide) ?_
      refine W.widen (k := cells + 1) (n := slots + 6) (by omega) (by omega) ?_
      exact kk _ _ _ _ _ _ hV hI2 (lv_sub hl [2, 3, 4, 5, 6] rfl)
    · refine lv_aload_n hx hb dL_law_1167 rfl (lv_at hl 1 rfl) ?_
      refine lv_aload_n hx hb dL_law_1168 rfl (lv_at hl 0 rfl) ?_
      refine lv_iload hx hb dL_law_1169 (lv_at hl 4 rfl) ?_
      refine lv_iconst (v := 1) hx hb dL_law_1171 (by decide) ?_
      refine lv_iadd hx hb dL_law_1172 ?_
      refine va_sld hx hb hX hbl hbA hV.2.2.2.2.1 hi1 dL_law_1173 ?_
      refine lv_aload_n hx hb dL_law_1174 rfl (lv_at hl 0 rfl) ?_
      refine lv_iload hx hb dL_law_1175 (lv_at hl 4 rfl) ?_
      refine lv_iconst (v := 2) hx hb dL_law_1177 (by decide) ?_
      refine lv_iadd hx hb dL_law_1178 ?_
      refine va_sld hx hb hX hbl hbA hV.2.2.2.2.1 hi2 dL_law_1179 ?_
      refine lv_aload_n hx hb dL_law_1180 rfl (lv_at hl 0 rfl) ?_
      refine lv_iload hx hb dL_law_1181 (lv_at hl 4 rfl) ?_
      refine lv_iconst (v := 3) hx hb dL_law_1183 (by decide) ?_
      refine lv_iadd hx hb dL_law_1184 ?_
      refine va_sld hx hb hX hbl hbA hV.2.2.2.2.1 hi3 dL_law_1185 ?_
      refine lv_aload_n hx hb dL_law_1186 rfl (lv_at hl 0 rfl) ?_
      refine lv_iload hx hb dL_law_1187 (lv_at hl 4 rfl) ?_
      refine lv_iconst (v := 4) hx hb dL_law_1189 (by decide) ?_
      refine lv_iadd hx hb dL_law_1190 ?_
      refine va_sld hx hb hX hbl hbA hV.2.2.2.2.1 hi4 dL_law_1191 ?_
      refine lv_aload_n hx hb dL_law_1192 rfl (lv_at hl 3 rfl) ?_
      refine r_stW (n := 6) (As := [.ref (eA E 0), .int (xs (x4 + 1).toNatClampNeg), .int (xs (x4 + 2).toNatClampNeg), .int (xs (x4 + 3).toNatClampNeg), .int (xs (x4 + 4).toNatClampNeg), .ref o]) (wt_L_odds_3 hT hx1) lw_fst mk_5_117 mk_1_0 mk_5_118 (by decide +kernel) rfl ⟨rfl, rfl⟩ cx hV hF hN mk_5_116 ⟨Nat.le_of_ble_eq_true rfl, Nat.le_of_ble_eq_true rfl⟩ hcs hl.1 rfl (Nat.le_of_ble_eq_true rfl) dL_law_1193 (fun H locs hV => ?_)
      refine lv_istore (lv' := [(5, .int 3), (0, .ref b), (1, .ref (eA E 0)), (2, .ref (eA (eW E ad) 0)), (3, .ref o), (4, .int x4)]) hx hb dL_law_1196 hl (by decide) rfl (fun ls hl => ?_)
      refine lv_aload_n hx hb dL_law_1198 rfl (lv_at hl 3 rfl) ?_
      refine lv_aload_n hx hb dL_law_1199 rfl (lv_at hl 1 rfl) ?_
      refine lv_iload hx hb dL_law_1200 (lv_at hl 5 rfl) ?_
      refine lv_iconst (v := 1) hx hb dL_law_1202 (by decide) ?_
      refine lv_iadd hx hb dL_law_1203 ?_
      refine va_sld hx hb hX hbl hbA hV.2.2.2.2.1 hi1 dL_law_1204 ?_
      refine lv_aload_n hx hb dL_law_1205 rfl (lv_at hl 1 rfl) ?_
      refine lv_iload hx hb dL_law_1206 (lv_at hl 5 rfl) ?_
      refine lv_iconst (v := 2) hx hb dL_law_1208 (by decide) ?_
      refine lv_iadd hx hb dL_law_1209 ?_
      refine va_sld hx hb hX hbl hbA hV.2.2.2.2.1 hi2 dL_law_1210 ?_
      refine lv_aload_n hx hb dL_law_1211 rfl (lv_at hl 1 rfl) ?_
      refine lv_iload hx hb dL_law_1212 (lv_at hl 5 rfl) ?_
      refine lv_iconst (v := 3) hx hb dL_law_1214 (by decide) ?_
      refine lv_iadd hx hb dL_law_1215 ?_
      refine va_sld hx hb hX hbl hbA hV.2.2.2.2.1 hi3 dL_law_1216 ?_
      refine lv_aload_n hx hb dL_law_1217 rfl (lv_at hl 1 rfl) ?_
      refine lv_iload hx hb dL_law_1218 (lv_at hl 5 rfl) ?_
      refine lv_iconst (v := 4) hx hb dL_law_1220 (by decide) ?_
      refine lv_iadd hx hb dL_law_1221 ?_
      refine va_sld hx hb hX hbl hbA hV.2.2.2.2.1 hi4 dL_law_1222 ?_
      refine k_X10_odds hy1 cx (lw_toM hV) mk_8_45 ⟨Nat.le_of_ble_eq_true rfl, Nat.le_of_ble_eq_true rfl⟩ hcs hl.1 (Nat.le_of_ble_eq_true rfl) dL_law_1223 (fun H locs hV => ?_)
      have hV := lw_ofM hV
      refine lv_lstore (lv' := [(6, .long r), (5, .int 3), (0, .ref b), (1, .ref (eA E 0)), (2, .ref (eA (eW E ad) 0)), (3, .ref o), (4, .int x4)]) hx hb dL_law_1226 hl (by decide) rfl (fun ls hl => ?_)
      refine lv_aload_n hx hb dL_law_1228 rfl (lv_at hl 4 rfl) ?_
      refine k_X10_thrown (rv := 3) (show x_X10_thrown _ = some 3 from congrArg some h0) cx (lw_toM hV) mk_6_75 ⟨Nat.le_of_ble_eq_true rfl, Nat.le_of_ble_eq_true rfl⟩ hcs hl.1 (Nat.le_of_ble_eq_true rfl) dL_law_1229 (fun H locs hV => ?_)
      have hV := lw_ofM hV
      refine lv_iload hx hb dL_law_1232 (lv_at hl 1 rfl) ?_
      refine lv_icmp_eq (tgt := 1239) hx hb dL_law_1234 (by decide) (fun _ => ?_) (fun q => absurd rfl q)
      refine lv_iload hx hb dL_law_1239 (lv_at hl 1 rfl) ?_
      refine lv_if_ne (tgt := 1255) hx hb dL_law_1241 (by decide) (fun _ => ?_) (fun q => absurd q (by decide))
      refine lv_goto (tgt := 2051) hx hb dL_law_1255 (by decide) ?_
      refine W.widen (k := cells + 1) (n := slots + 6) (by omega) (by omega) ?_
      exact kk _ _ _ _ _ _ hV hI2 (lv_sub hl [2, 3, 4, 5, 6] rfl)
    · refine lv_aload_n hx hb dL_law_1167 rfl (lv_at hl 1 rfl) ?_
      refine lv_aload_n hx hb dL_law_1168 rfl (lv_at hl 0 rfl) ?_
      refine lv_iload hx hb dL_law_1169 (lv_at hl 4 rfl) ?_
      refine lv_iconst (v := 1) hx hb dL_law_1171 (by decide) ?_
      refine lv_iadd hx hb dL_law_1172 ?_
      refine va_sld hx hb hX hbl hbA hV.2.2.2.2.1 hi1 dL_law_1173 ?_
      refine lv_aload_n hx hb dL_law_1174 rfl (lv_at hl 0 rfl) ?_
      refine lv_iload hx hb dL_law_1175 (lv_at hl 4 rfl) ?_
      refine lv_iconst (v := 2) hx hb dL_law_1177 (by decide) ?_
      refine lv_iadd hx hb dL_law_1178 ?_
      refine va_sld hx hb hX hbl hbA hV.2.2.2.2.1 hi2 dL_law_1179 ?_
      refine lv_aload_n hx hb dL_law_1180 rfl (lv_at hl 0 rfl) ?_
      refine lv_iload hx hb dL_law_1181 (lv_at hl 4 rfl) ?_
      refine lv_iconst (v := 3) hx hb dL_law_1183 (by decide) ?_
      refine lv_iadd hx hb dL_law_1184 ?_
      refine va_sld hx hb hX hbl hbA hV.2.2.2.2.1 hi3 dL_law_1185 ?_
      refine lv_aload_n hx hb dL_law_1186 rfl (lv_at hl 0 rfl) ?_
      refine lv_iload hx hb dL_law_1187 (lv_at hl 4 rfl) ?_
      refine lv_iconst (v := 4) hx hb dL_law_1189 (by decide) ?_
      refine lv_iadd hx hb dL_law_1190 ?_
      refine va_sld hx hb hX hbl hbA hV.2.2.2.2.1 hi4 dL_law_1191 ?_
      refine lv_aload_n hx hb dL_law_1192 rfl (lv_at hl 3 rfl) ?_
      refine r_stW (n := 6) (As := [.ref (eA E 0), .int (xs (x4 + 1).toNatClampNeg), .int (xs (x4 + 2).toNatClampNeg), .int (xs (x4 + 3).toNatClampNeg), .int (xs (x4 + 4).toNatClampNeg), .ref o]) (wt_L_odds_4 hT hx1) lw_fst mk_5_117 mk_1_0 mk_5_118 (by decide +kernel) rfl ⟨rfl, rfl⟩ cx hV hF hN mk_5_116 ⟨Nat.le_of_ble_eq_true rfl, Nat.le_of_ble_eq_true rfl⟩ hcs hl.1 rfl (Nat.le_of_ble_eq_true rfl) dL_law_1193 (fun H locs hV => ?_)
      refine lv_istore (lv' := [(5, .int 4), (0, .ref b), (1, .ref (eA E 0)), (2, .ref (eA (eW E ad) 0)), (3, .ref o), (4, .int x4)]) hx hb dL_law_1196 hl (by decide) rfl (fun ls hl => ?_)
      refine lv_aload_n hx hb dL_law_1198 rfl (lv_at hl 3 rfl) ?_
      refine lv_aload_n hx hb dL_law_1199 rfl (lv_at hl 1 rfl) ?_
      refine lv_iload hx hb dL_law_1200 (lv_at hl 5 rfl) ?_
      refine lv_iconst (v := 1) hx hb dL_law_1202 (by decide) ?_
      refine lv_iadd hx hb dL_law_1203 ?_
      refine va_sld hx hb hX hbl hbA hV.2.2.2.2.1 hi1 dL_law_1204 ?_
      refine lv_aload_n hx hb dL_law_1205 rfl (lv_at hl 1 rfl) ?_
      refine lv_iload hx hb dL_law_1206 (lv_at hl 5 rfl) ?_
      refine lv_iconst (v := 2) hx hb dL_law_1208 (by decide) ?_
      refine lv_iadd hx hb dL_law_1209 ?_
      refine va_sld hx hb hX hbl hbA hV.2.2.2.2.1 hi2 dL_law_1210 ?_
      refine lv_aload_n hx hb dL_law_1211 rfl (lv_at hl 1 rfl) ?_
      refine lv_iload hx hb dL_law_1212 (lv_at hl 5 rfl) ?_
      refine lv_iconst (v := 3) hx hb dL_law_1214 (by decide) ?_
      refine lv_iadd hx hb dL_law_1215 ?_
      refine va_sld hx hb hX hbl hbA hV.2.2.2.2.1 hi3 dL_law_1216 ?_
      refine lv_aload_n hx hb dL_law_1217 rfl (lv_at hl 1 rfl) ?_
      refine lv_iload hx hb dL_law_1218 (lv_at hl 5 rfl) ?_
      refine lv_iconst (v := 4) hx hb dL_law_1220 (by decide) ?_
      refine lv_iadd hx hb dL_law_1221 ?_
      refine va_sld hx hb hX hbl hbA hV.2.2.2.2.1 hi4 dL_law_1222 ?_
      refine k_X10_odds hy1 cx (lw_toM hV) mk_8_45 ⟨Nat.le_of_ble_eq_true rfl, Nat.le_of_ble_eq_true rfl⟩ hcs hl.1 (Nat.le_of_ble_eq_true rfl) dL_law_1223 (fun H locs hV => ?_)
      have hV := lw_ofM hV
      refine lv_lstore (lv' := [(6, .long r), (5, .int 4), (0, .ref b), (1, .ref (eA E 0)), (2, .ref (eA (eW E ad) 0)), (3, .ref o), (4, .int x4)]) hx hb dL_law_1226 hl (by decide) rfl (fun ls hl => ?_)
      refine lv_aload_n hx hb dL_law_1228 rfl (lv_at hl 4 rfl) ?_
      refine k_X10_thrown (rv := 4) (show x_X10_thrown _ = some 4 from congrArg some h0) cx (lw_toM hV) mk_6_75 ⟨Nat.le_of_ble_eq_true rfl, Nat.le_of_ble_eq_true rfl⟩ hcs hl.1 (Nat.le_of_ble_eq_true rfl) dL_law_1229 (fun H locs hV => ?_)
      have hV := lw_ofM hV
      refine lv_iload hx hb dL_law_1232 (lv_at hl 1 rfl) ?_
      refine lv_icmp_eq (tgt := 1239) hx hb dL_law_1234 (by decide) (fun _ => ?_) (fun q => absurd rfl q)
      refine lv_iload hx hb dL_law_1239 (lv_at hl 1 rfl) ?_
      refine lv_if_ne (tgt := 1255) hx hb dL_law_1241 (by decide) (fun _ => ?_) (fun q => absurd q (by decide))
      refine lv_goto (tgt := 2051) hx hb dL_law_1255 (by decide) ?_
      refine W.widen (k := cells + 1) (n := slots + 6) (by omega) (by omega) ?_
      exact kk _ _ _ _ _ _ hV hI2 (lv_sub hl [2, 3, 4, 5, 6] rfl)
set_option maxHeartbeats 4000000 in
set_option maxRecDepth 100000 in
theorem lc_hidden {p : Program} {l : Launch} {e : Env} {s : State} {m : MethodId} {below : List Frame} {meth : Method} {c : Code} {b L : Nat} {xs : Nat → Int32} {E : EV} {ad : Nat → Nat} {σ τ : St} {o : Nat} {f : Nat → Int64} {H : Heap} {locs : List Loc} {ls : Array Slot} {x4 : Int32} {cells slots : Nat} {Q : State → Prop} (D : LwD p l s m c b L xs E ad) (hi1 : vp_in (x4 + 1) L) (hi2 : vp_in (x4 + 2) L) (hi3 : vp_in (x4 + 3) L) (hi4 : vp_in (x4 + 4) L) (hi5 : vp_in (x4 + 5) L) (hcs : cells + 1 ≤ room_1.cells ∧ slots + 6 ≤ room_1.slots) (hV : AtW E (lwW E ad σ τ o f) (lwA s) s H locs) (hI : Inv σ τ) (hl : lv_has ls 8 [(0, .ref b), (1, .ref (eA E 0)), (2, .ref (eA (eW E ad) 0)), (3, .ref o), (4, .int x4)]) (kk : LwK p l e s m below meth c b E ad o x4 cells slots Q) : W p l e room_1 s m #[Value.ref b] below meth c H locs cells slots Q (F0 m 1258 ls []) := by
  obtain ⟨cx, hX, hbl, hF, hF2, hN, hT⟩ := D
  have hx := cx.1
  have hb := cx.2.1
  have hbA : ¬ lwA s b := Nat.not_le.mpr hbl
  have hc0 : cells ≤ room_1.cells ∧ slots ≤ room_1.slots := ⟨Nat.le_trans (Nat.le_add_right _ 1) hcs.1, Nat.le_trans (Nat.le_add_right _ 6) hcs.2⟩
  rcases op_hidden hI (xs (x4 + 1).toNatClampNeg) with ⟨r, σ2, τ2, hx1, hy1, h0, hI2⟩ | ⟨c9, σ2, r, τ2, hx1, hy1, hc, hI2⟩
  · refine lv_aload_n hx hb dL_law_1258 rfl (lv_at hl 1 rfl) ?_
    refine lv_aload_n hx hb dL_law_1259 rfl (lv_at hl 0 rfl) ?_
    refine lv_iload hx hb dL_law_1260 (lv_at hl 4 rfl) ?_
    refine lv_iconst (v := 1) hx hb dL_law_1262 (by decide) ?_
    refine lv_iadd hx hb dL_law_1263 ?_
    refine va_sld hx hb hX hbl hbA hV.2.2.2.2.1 hi1 dL_law_1264 ?_
    refine lv_aload_n hx hb dL_law_1265 rfl (lv_at hl 3 rfl) ?_
    refine r_stW (n := 3) (As := [.ref (eA E 0), .int (xs (x4 + 1).toNatClampNeg), .ref o]) (w_L_hidden hx1) lw_fst mk_5_164 mk_1_0 mk_5_165 (by decide +kernel) rfl ⟨rfl, rfl⟩ cx hV hF hN mk_5_163 ⟨Nat.le_of_ble_eq_true rfl, Nat.le_of_ble_eq_true rfl⟩ hc0 hl.1 rfl (Nat.le_of_ble_eq_true rfl) dL_law_1266 (fun H locs hV => ?_)
    refine lv_istore (lv' := [(5, .int 0), (0, .ref b), (1, .ref (eA E 0)), (2, .ref (eA (eW E ad) 0)), (3, .ref o), (4, .int x4)]) hx hb dL_law_1269 hl (by decide) rfl (fun ls hl => ?_)
    refine lv_aload_n hx hb dL_law_1271 rfl (lv_at hl 3 rfl) ?_
    refine lv_aload_n hx hb dL_law_1272 rfl (lv_at hl 1 rfl) ?_
    refine lv_iload hx hb dL_law_1273 (lv_at hl 5 rfl) ?_
    refine lv_iconst (v := 1) hx hb dL_law_1275 (by decide) ?_
    refine lv_iadd hx hb dL_law_1276 ?_
    refine va_sld hx hb hX hbl hbA hV.2.2.2.2.1 hi1 dL_law_1277 ?_
    refine k_X10_hidden hy1 cx (lw_toM hV) mk_8_60 ⟨Nat.le_of_ble_eq_true rfl, Nat.le_of_ble_eq_true rfl⟩ hc0 hl.1 (Nat.le_of_ble_eq_true rfl) dL_law_1278 (fun H locs hV => ?_)
    have hV := lw_ofM hV
    refine lv_istore (lv' := [(6, .int r), (5, .int 0), (0, .ref b), (1, .ref (eA E 0)), (2, .ref (eA (eW E ad) 0)), (3, .ref o), (4, .int x4)]) hx hb dL_law_1281 hl (by decide) rfl (fun ls hl => ?_)
    refine lv_aload_n hx hb dL_law_1283 rfl (lv_at hl 4 rfl) ?_
    refine k_X10_thrown (rv := 0) (show x_X10_thrown _ = some 0 from congrArg some h0) cx (lw_toM hV) mk_6_75 ⟨Nat.le_of_ble_eq_true rfl, Nat.le_of_ble_eq_true rfl⟩ hc0 hl.1 (Nat.le_of_ble_eq_true rfl) dL_law_1284 (fun H locs hV => ?_)
    have hV := lw_ofM hV
    refine lv_iload hx hb dL_law_1287 (lv_at hl 1 rfl) ?_
    refine lv_icmp_eq (tgt := 1294) hx hb dL_law_1289 (by decide) (fun _ => ?_) (fun q => absurd rfl q)
    refine lv_iload hx hb dL_law_1294 (lv_at hl 1 rfl) ?_
    refine lv_if_ne (tgt := 1311) hx hb dL_law_1296 (by decide) (fun q => absurd rfl q) (fun _ => ?_)
    refine lv_aload_n hx hb dL_law_1299 rfl (lv_at hl 5 rfl) ?_
    refine lv_iconst (v := 0) hx hb dL_law_1300 (by decide) ?_
    refine r_lald cx hV 115 rfl (n := 1) (by unfold vp_in; decide) dL_law_1301 ?_
    rw [lw_upd0]
    refine lv_iload hx hb dL_law_1302 (lv_at hl 0 rfl) ?_
    refine lv_i2l (v := Int32.toInt64 r) hx hb dL_law_1304 rfl ?_
    refine W.lcmp hx hb dL_law_1305 ?_
    rw [lw_cmp0]
    refine lv_if_eq (tgt := 1311) hx hb dL_law_1306 (by decide) (fun _ => ?_) (fun q => absurd rfl q)
    refine lv_goto (tgt := 2051) hx hb dL_law_1311 (by decide) ?_
    refine W.widen (k := cells + 1) (n := slots + 6) (by omega) (by omega) ?_
    exact kk _ _ _ _ _ _ hV hI2 (lv_sub hl [2, 3, 4, 5, 6] rfl)
  · simp only [List.mem_cons, Prod.mk.injEq, List.not_mem_nil, or_false] at hc
    obtain ⟨rfl, h0⟩ := hc
    refine lv_aload_n hx hb dL_law_1258 rfl (lv_at hl 1 rfl) ?_
    refine lv_aload_n hx hb dL_law_1259 rfl (lv_at hl 0 rfl) ?_
    refine lv_iload hx hb dL_law_1260 (lv_at hl 4 rfl) ?_
    refine lv_iconst (v := 1) hx hb dL_law_1262 (by decide) ?_
    refine lv_iadd hx hb dL_law_1263 ?_
    refine va_sld hx hb hX hbl hbA hV.2.2.2.2.1 hi1 dL_law_1264 ?_
    refine lv_aload_n hx hb dL_law_1265 rfl (lv_at hl 3 rfl) ?_
    refine r_stW (n := 3) (As := [.ref (eA E 0), .int (xs (x4 + 1).toNatClampNeg), .ref o]) (wt_L_hidden_3 hT hx1) lw_fst mk_5_164 mk_1_0 mk_5_165 (by decide +kernel) rfl ⟨rfl, rfl⟩ cx hV hF hN mk_5_163 ⟨Nat.le_of_ble_eq_true rfl, Nat.le_of_ble_eq_true rfl⟩ hcs hl.1 rfl (Nat.le_of_ble_eq_true rfl) dL_law_1266 (fun H locs hV => ?_)
    refine lv_istore (lv' := [(5, .int 1), (0, .ref b), (1, .ref (eA E 0)), (2, .ref (eA (eW E ad) 0)), (3, .ref o), (4, .int x4)]) hx hb dL_law_1269 hl (by decide) rfl (fun ls hl => ?_)
    refine lv_aload_n hx hb dL_law_1271 rfl (lv_at hl 3 rfl) ?_
    refine lv_aload_n hx hb dL_law_1272 rfl (lv_at hl 1 rfl) ?_
    refine lv_iload hx hb dL_law_1273 (lv_at hl 5 rfl) ?_
    refine lv_iconst (v := 1) hx hb dL_law_1275 (by decide) ?_
    refine lv_iadd hx hb dL_law_1276 ?_
    refine va_sld hx hb hX hbl hbA hV.2.2.2.2.1 hi1 dL_law_1277 ?_
    refine k_X10_hidden hy1 cx (lw_toM hV) mk_8_60 ⟨Nat.le_of_ble_eq_true rfl, Nat.le_of_ble_eq_true rfl⟩ hcs hl.1 (Nat.le_of_ble_eq_true rfl) dL_law_1278 (fun H locs hV => ?_)
    have hV := lw_ofM hV
    refine lv_istore (lv' := [(6, .int r), (5, .int 1), (0, .ref b), (1, .ref (eA E 0)), (2, .ref (eA (eW E ad) 0)), (3, .ref o), (4, .int x4)]) hx hb dL_law_1281 hl (by decide) rfl (fun ls hl => ?_)
    refine lv_aload_n hx hb dL_law_1283 rfl (lv_at hl 4 rfl) ?_
    refine k_X10_thrown (rv := 1) (show x_X10_thrown _ = some 1 from congrArg some h0) cx (lw_toM hV) mk_6_75 ⟨Nat.le_of_ble_eq_true rfl, Nat.le_of_ble_eq_true rfl⟩ hcs hl.1 (Nat.le_of_ble_eq_true rfl) dL_law_1284 (fun H locs hV => ?_)
    have hV := lw_ofM hV
    refine lv_iload hx hb dL_law_1287 (lv_at hl 1 rfl) ?_
    refine lv_icmp_eq (tgt := 1294) hx hb dL_law_1289 (by decide) (fun _ => ?_) (fun q => absurd rfl q)
    refine lv_iload hx hb dL_law_1294 (lv_at hl 1 rfl) ?_
    refine lv_if_ne (tgt := 1311) hx hb dL_law_1296 (by decide) (fun _ => ?_) (fun q => absurd q (by decide))
    refine lv_goto (tgt := 2051) hx hb dL_law_1311 (by decide) ?_
    refine W.widen (k := cells + 1) (n := slots + 6) (by omega) (by omega) ?_
    exact kk _ _ _ _ _ _ hV hI2 (lv_sub hl [2, 3, 4, 5, 6] rfl)
