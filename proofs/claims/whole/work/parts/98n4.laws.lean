set_option maxHeartbeats 4000000 in
set_option maxRecDepth 100000 in
theorem lc_divider {p : Program} {l : Launch} {e : Env} {s : State} {m : MethodId} {below : List Frame} {meth : Method} {c : Code} {b L : Nat} {xs : Nat → Int32} {E : EV} {ad : Nat → Nat} {σ τ : St} {o : Nat} {f : Nat → Int64} {H : Heap} {locs : List Loc} {ls : Array Slot} {x4 : Int32} {cells slots : Nat} {Q : State → Prop} (D : LwD p l s m c b L xs E ad) (hi1 : vp_in (x4 + 1) L) (hi2 : vp_in (x4 + 2) L) (hi3 : vp_in (x4 + 3) L) (hi4 : vp_in (x4 + 4) L) (hi5 : vp_in (x4 + 5) L) (hcs : cells + 1 ≤ room_1.cells ∧ slots + 6 ≤ room_1.slots) (hV : AtW E (lwW E ad σ τ o f) (lwA s) s H locs) (hI : Inv σ τ) (hl : lv_has ls 8 [(0, .ref b), (1, .ref (eA E 0)), (2, .ref (eA (eW E ad) 0)), (3, .ref o), (4, .int x4)]) (kk : LwK p l e s m below meth c b E ad o x4 cells slots Q) : W p l e room_1 s m #[Value.ref b] below meth c H locs cells slots Q (F0 m 1790 ls []) := by
  obtain ⟨cx, hX, hbl, hF, hF2, hN, hT⟩ := D
  have hx := cx.1
  have hb := cx.2.1
  have hbA : ¬ lwA s b := Nat.not_le.mpr hbl
  have hc0 : cells ≤ room_1.cells ∧ slots ≤ room_1.slots := ⟨Nat.le_trans (Nat.le_add_right _ 1) hcs.1, Nat.le_trans (Nat.le_add_right _ 6) hcs.2⟩
  obtain ⟨r, τ2, hx1, hy1, hI2⟩ := op_divider hI (xs (x4 + 1).toNatClampNeg)
  refine lv_aload_n hx hb dL_law_1790 rfl (lv_at hl 1 rfl) ?_
  refine lv_aload_n hx hb dL_law_1791 rfl (lv_at hl 0 rfl) ?_
  refine lv_iload hx hb dL_law_1792 (lv_at hl 4 rfl) ?_
  refine lv_iconst (v := 1) hx hb dL_law_1794 (by decide) ?_
  refine lv_iadd hx hb dL_law_1795 ?_
  refine va_sld hx hb hX hbl hbA hV.2.2.2.2.1 hi1 dL_law_1796 ?_
  refine k_X9_divider hx1 cx hV mk_3_141 ⟨Nat.le_of_ble_eq_true rfl, Nat.le_of_ble_eq_true rfl⟩ hc0 hl.1 (Nat.le_of_ble_eq_true rfl) dL_law_1797 (fun H locs hV => ?_)
  refine lv_aload_n hx hb dL_law_1800 rfl (lv_at hl 2 rfl) ?_
  refine lv_aload_n hx hb dL_law_1801 rfl (lv_at hl 0 rfl) ?_
  refine lv_iload hx hb dL_law_1802 (lv_at hl 4 rfl) ?_
  refine lv_iconst (v := 1) hx hb dL_law_1804 (by decide) ?_
  refine lv_iadd hx hb dL_law_1805 ?_
  refine va_sld hx hb hX hbl hbA hV.2.2.2.2.1 hi1 dL_law_1806 ?_
  refine k_X10_divider hy1 cx (lw_toM hV) mk_8_125 ⟨Nat.le_of_ble_eq_true rfl, Nat.le_of_ble_eq_true rfl⟩ hc0 hl.1 (Nat.le_of_ble_eq_true rfl) dL_law_1807 (fun H locs hV => ?_)
  have hV := lw_ofM hV
  refine lv_icmp_eq (tgt := 2051) hx hb dL_law_1810 (by decide) (fun _ => ?_) (fun q => absurd rfl q)
  refine W.widen (k := cells + 1) (n := slots + 6) (by omega) (by omega) ?_
  exact kk _ _ _ _ _ _ hV hI2 (lv_sub hl [0, 1, 2, 3, 4] rfl)
set_option maxHeartbeats 4000000 in
set_option maxRecDepth 100000 in
theorem lc_moves {p : Program} {l : Launch} {e : Env} {s : State} {m : MethodId} {below : List Frame} {meth : Method} {c : Code} {b L : Nat} {xs : Nat → Int32} {E : EV} {ad : Nat → Nat} {σ τ : St} {o : Nat} {f : Nat → Int64} {H : Heap} {locs : List Loc} {ls : Array Slot} {x4 : Int32} {cells slots : Nat} {Q : State → Prop} (D : LwD p l s m c b L xs E ad) (hi1 : vp_in (x4 + 1) L) (hi2 : vp_in (x4 + 2) L) (hi3 : vp_in (x4 + 3) L) (hi4 : vp_in (x4 + 4) L) (hi5 : vp_in (x4 + 5) L) (hcs : cells + 1 ≤ room_1.cells ∧ slots + 6 ≤ room_1.slots) (hV : AtW E (lwW E ad σ τ o f) (lwA s) s H locs) (hI : Inv σ τ) (hl : lv_has ls 8 [(0, .ref b), (1, .ref (eA E 0)), (2, .ref (eA (eW E ad) 0)), (3, .ref o), (4, .int x4)]) (kk : LwK p l e s m below meth c b E ad o x4 cells slots Q) : W p l e room_1 s m #[Value.ref b] below meth c H locs cells slots Q (F0 m 1815 ls []) := by
  obtain ⟨cx, hX, hbl, hF, hF2, hN, hT⟩ := D
  have hx := cx.1
  have hb := cx.2.1
  have hbA : ¬ lwA s b := Nat.not_le.mpr hbl
  have hc0 : cells ≤ room_1.cells ∧ slots ≤ room_1.slots := ⟨Nat.le_trans (Nat.le_add_right _ 1) hcs.1, Nat.le_trans (Nat.le_add_right _ 6) hcs.2⟩
  rcases op_moves hI (xs (x4 + 1).toNatClampNeg) with ⟨r, σ2, τ2, hx1, hy1, h0, hI2⟩ | ⟨c9, σ2, r, τ2, hx1, hy1, hc, hI2⟩
  · refine lv_aload_n hx hb dL_law_1815 rfl (lv_at hl 1 rfl) ?_
    refine lv_aload_n hx hb dL_law_1816 rfl (lv_at hl 0 rfl) ?_
    refine lv_iload hx hb dL_law_1817 (lv_at hl 4 rfl) ?_
    refine lv_iconst (v := 1) hx hb dL_law_1819 (by decide) ?_
    refine lv_iadd hx hb dL_law_1820 ?_
    refine va_sld hx hb hX hbl hbA hV.2.2.2.2.1 hi1 dL_law_1821 ?_
    refine lv_aload_n hx hb dL_law_1822 rfl (lv_at hl 3 rfl) ?_
    refine r_stW (n := 3) (As := [.ref (eA E 0), .int (xs (x4 + 1).toNatClampNeg), .ref o]) (w_L_moves hx1) lw_fst mk_6_21 mk_1_0 mk_6_22 (by decide +kernel) rfl ⟨rfl, rfl⟩ cx hV hF hN mk_6_20 ⟨Nat.le_of_ble_eq_true rfl, Nat.le_of_ble_eq_true rfl⟩ hc0 hl.1 rfl (Nat.le_of_ble_eq_true rfl) dL_law_1823 (fun H locs hV => ?_)
    refine lv_istore (lv' := [(5, .int 0), (0, .ref b), (1, .ref (eA E 0)), (2, .ref (eA (eW E ad) 0)), (3, .ref o), (4, .int x4)]) hx hb dL_law_1826 hl (by decide) rfl (fun ls hl => ?_)
    refine lv_aload_n hx hb dL_law_1828 rfl (lv_at hl 3 rfl) ?_
    refine lv_aload_n hx hb dL_law_1829 rfl (lv_at hl 1 rfl) ?_
    refine lv_iload hx hb dL_law_1830 (lv_at hl 5 rfl) ?_
    refine lv_iconst (v := 1) hx hb dL_law_1832 (by decide) ?_
    refine lv_iadd hx hb dL_law_1833 ?_
    refine va_sld hx hb hX hbl hbA hV.2.2.2.2.1 hi1 dL_law_1834 ?_
    refine k_X10_moves hy1 cx (lw_toM hV) mk_8_129 ⟨Nat.le_of_ble_eq_true rfl, Nat.le_of_ble_eq_true rfl⟩ hc0 hl.1 (Nat.le_of_ble_eq_true rfl) dL_law_1835 (fun H locs hV => ?_)
    have hV := lw_ofM hV
    refine lv_istore (lv' := [(6, .int r), (5, .int 0), (0, .ref b), (1, .ref (eA E 0)), (2, .ref (eA (eW E ad) 0)), (3, .ref o), (4, .int x4)]) hx hb dL_law_1838 hl (by decide) rfl (fun ls hl => ?_)
    refine lv_aload_n hx hb dL_law_1840 rfl (lv_at hl 4 rfl) ?_
    refine k_X10_thrown (rv := 0) (show x_X10_thrown _ = some 0 from congrArg some h0) cx (lw_toM hV) mk_6_75 ⟨Nat.le_of_ble_eq_true rfl, Nat.le_of_ble_eq_true rfl⟩ hc0 hl.1 (Nat.le_of_ble_eq_true rfl) dL_law_1841 (fun H locs hV => ?_)
    have hV := lw_ofM hV
    refine lv_iload hx hb dL_law_1844 (lv_at hl 1 rfl) ?_
    refine lv_icmp_eq (tgt := 1851) hx hb dL_law_1846 (by decide) (fun _ => ?_) (fun q => absurd rfl q)
    refine lv_iload hx hb dL_law_1851 (lv_at hl 1 rfl) ?_
    refine lv_if_ne (tgt := 1868) hx hb dL_law_1853 (by decide) (fun q => absurd rfl q) (fun _ => ?_)
    refine lv_aload_n hx hb dL_law_1856 rfl (lv_at hl 5 rfl) ?_
    refine lv_iconst (v := 0) hx hb dL_law_1857 (by decide) ?_
    refine r_lald cx hV 115 rfl (n := 1) (by unfold vp_in; decide) dL_law_1858 ?_
    rw [lw_upd0]
    refine lv_iload hx hb dL_law_1859 (lv_at hl 0 rfl) ?_
    refine lv_i2l (v := Int32.toInt64 r) hx hb dL_law_1861 rfl ?_
    refine W.lcmp hx hb dL_law_1862 ?_
    rw [lw_cmp0]
    refine lv_if_eq (tgt := 1868) hx hb dL_law_1863 (by decide) (fun _ => ?_) (fun q => absurd rfl q)
    refine lv_goto (tgt := 2051) hx hb dL_law_1868 (by decide) ?_
    refine W.widen (k := cells + 1) (n := slots + 6) (by omega) (by omega) ?_
    exact kk _ _ _ _ _ _ hV hI2 (lv_sub hl [2, 3, 4, 5, 6] rfl)
  · simp only [List.mem_cons, Prod.mk.injEq, List.not_mem_nil, or_false] at hc
    obtain ⟨rfl, h0⟩ := hc
    refine lv_aload_n hx hb dL_law_1815 rfl (lv_at hl 1 rfl) ?_
    refine lv_aload_n hx hb dL_law_1816 rfl (lv_at hl 0 rfl) ?_
    refine lv_iload hx hb dL_law_1817 (lv_at hl 4 rfl) ?_
    refine lv_iconst (v := 1) hx hb dL_law_1819 (by decide) ?_
    refine lv_iadd hx hb dL_law_1820 ?_
    refine va_sld hx hb hX hbl hbA hV.2.2.2.2.1 hi1 dL_law_1821 ?_
    refine lv_aload_n hx hb dL_law_1822 rfl (lv_at hl 3 rfl) ?_
    refine r_stW (n := 3) (As := [.ref (eA E 0), .int (xs (x4 + 1).toNatClampNeg), .ref o]) (wt_L_moves_3 hT hx1) lw_fst mk_6_21 mk_1_0 mk_6_22 (by decide +kernel) rfl ⟨rfl, rfl⟩ cx hV hF hN mk_6_20 ⟨Nat.le_of_ble_eq_true rfl, Nat.le_of_ble_eq_true rfl⟩ hcs hl.1 rfl (Nat.le_of_ble_eq_true rfl) dL_law_1823 (fun H locs hV => ?_)
    refine lv_istore (lv' := [(5, .int 1), (0, .ref b), (1, .ref (eA E 0)), (2, .ref (eA (eW E ad) 0)), (3, .ref o), (4, .int x4)]) hx hb dL_law_1826 hl (by decide) rfl (fun ls hl => ?_)
    refine lv_aload_n hx hb dL_law_1828 rfl (lv_at hl 3 rfl) ?_
    refine lv_aload_n hx hb dL_law_1829 rfl (lv_at hl 1 rfl) ?_
    refine lv_iload hx hb dL_law_1830 (lv_at hl 5 rfl) ?_
    refine lv_iconst (v := 1) hx hb dL_law_1832 (by decide) ?_
    refine lv_iadd hx hb dL_law_1833 ?_
    refine va_sld hx hb hX hbl hbA hV.2.2.2.2.1 hi1 dL_law_1834 ?_
    refine k_X10_moves hy1 cx (lw_toM hV) mk_8_129 ⟨Nat.le_of_ble_eq_true rfl, Nat.le_of_ble_eq_true rfl⟩ hcs hl.1 (Nat.le_of_ble_eq_true rfl) dL_law_1835 (fun H locs hV => ?_)
    have hV := lw_ofM hV
    refine lv_istore (lv' := [(6, .int r), (5, .int 1), (0, .ref b), (1, .ref (eA E 0)), (2, .ref (eA (eW E ad) 0)), (3, .ref o), (4, .int x4)]) hx hb dL_law_1838 hl (by decide) rfl (fun ls hl => ?_)
    refine lv_aload_n hx hb dL_law_1840 rfl (lv_at hl 4 rfl) ?_
    refine k_X10_thrown (rv := 1) (show x_X10_thrown _ = some 1 from congrArg some h0) cx (lw_toM hV) mk_6_75 ⟨Nat.le_of_ble_eq_true rfl, Nat.le_of_ble_eq_true rfl⟩ hcs hl.1 (Nat.le_of_ble_eq_true rfl) dL_law_1841 (fun H locs hV => ?_)
    have hV := lw_ofM hV
    refine lv_iload hx hb dL_law_1844 (lv_at hl 1 rfl) ?_
    refine lv_icmp_eq (tgt := 1851) hx hb dL_law_1846 (by decide) (fun _ => ?_) (fun q => absurd rfl q)
    refine lv_iload hx hb dL_law_1851 (lv_at hl 1 rfl) ?_
    refine lv_if_ne (tgt := 1868) hx hb dL_law_1853 (by decide) (fun _ => ?_) (fun q => absurd q (by decide))
    refine lv_goto (tgt := 2051) hx hb dL_law_1868 (by decide) ?_
    refine W.widen (k := cells + 1) (n := slots + 6) (by omega) (by omega) ?_
    exact kk _ _ _ _ _ _ hV hI2 (lv_sub hl [2, 3, 4, 5, 6] rfl)
set_option maxHeartbeats 4000000 in
set_option maxRecDepth 100000 in
theorem lc_rests {p : Program} {l : Launch} {e : Env} {s : State} {m : MethodId} {below : List Frame} {meth : Method} {c : Code} {b L : Nat} {xs : Nat → Int32} {E : EV} {ad : Nat → Nat} {σ τ : St} {o : Nat} {f : Nat → Int64} {H : Heap} {locs : List Loc} {ls : Array Slot} {x4 : Int32} {cells slots : Nat} {Q : State → Prop} (D : LwD p l s m c b L xs E ad) (hi1 : vp_in (x4 + 1) L) (hi2 : vp_in (x4 + 2) L) (hi3 : vp_in (x4 + 3) L) (hi4 : vp_in (x4 + 4) L) (hi5 : vp_in (x4 + 5) L) (hcs : cells + 1 ≤ room_1.cells ∧ slots + 6 ≤ room_1.slots) (hV : AtW E (lwW E ad σ τ o f) (lwA s) s H locs) (hI : Inv σ τ) (hl : lv_has ls 8 [(0, .ref b), (1, .ref (eA E 0)), (2, .ref (eA (eW E ad) 0)), (3, .ref o), (4, .int x4)]) (kk : LwK p l e s m below meth c b E ad o x4 cells slots Q) : W p l e room_1 s m #[Value.ref b] below meth c H locs cells slots Q (F0 m 1871 ls []) := by
  obtain ⟨cx, hX, hbl, hF, hF2, hN, hT⟩ := D
  have hx := cx.1
  have hb := cx.2.1
  have hbA : ¬ lwA s b := Nat.not_le.mpr hbl
  have hc0 : cells ≤ room_1.cells ∧ slots ≤ room_1.slots := ⟨Nat.le_trans (Nat.le_add_right _ 1) hcs.1, Nat.le_trans (Nat.le_add_right _ 6) hcs.2⟩
  rcases op_rests hI (xs (x4 + 1).toNatClampNeg) (xs (x4 + 2).toNatClampNeg) (xs (x4 + 3).toNatClampNeg) (xs (x4 + 4).toNatClampNeg) (xs (x4 + 5).toNatClampNeg) with ⟨r, σ2, τ2, hx1, hy1, h0, hI2⟩ | ⟨c9, σ2, r, τ2, hx1, hy1, hc, hI2⟩
  · refine lv_aload_n hx hb dL_law_1871 rfl (lv_at hl 1 rfl) ?_
    refine lv_aload_n hx hb dL_law_1872 rfl (lv_at hl 0 rfl) ?_
    refine lv_iload hx hb dL_law_1873 (lv_at hl 4 rfl) ?_
    refine lv_iconst (v := 1) hx hb dL_law_1875 (by decide) ?_
    refine lv_iadd hx hb dL_law_1876 ?_
    refine va_sld hx hb hX hbl hbA hV.2.2.2.2.1 hi1 dL_law_1877 ?_
    refine lv_aload_n hx hb dL_law_1878 rfl (lv_at hl 0 rfl) ?_
    refine lv_iload hx hb dL_law_1879 (lv_at hl 4 rfl) ?_
    refine lv_iconst (v := 2) hx hb dL_law_1881 (by decide) ?_
    refine lv_iadd hx hb dL_law_1882 ?_
    refine va_sld hx hb hX hbl hbA hV.2.2.2.2.1 hi2 dL_law_1883 ?_
    refine lv_aload_n hx hb dL_law_1884 rfl (lv_at hl 0 rfl) ?_
    refine lv_iload hx hb dL_law_1885 (lv_at hl 4 rfl) ?_
    refine lv_iconst (v := 3) hx hb dL_law_1887 (by decide) ?_
    refine lv_iadd hx hb dL_law_1888 ?_
    refine va_sld hx hb hX hbl hbA hV.2.2.2.2.1 hi3 dL_law_1889 ?_
    refine lv_aload_n hx hb dL_law_1890 rfl (lv_at hl 0 rfl) ?_
    refine lv_iload hx hb dL_law_1891 (lv_at hl 4 rfl) ?_
    refine lv_iconst (v := 4) hx hb dL_law_1893 (by decide) ?_
    refine lv_iadd hx hb dL_law_1894 ?_
    refine va_sld hx hb hX hbl hbA hV.2.2.2.2.1 hi4 dL_law_1895 ?_
    refine lv_aload_n hx hb dL_law_1896 rfl (lv_at hl 0 rfl) ?_
    refine lv_iload hx hb dL_law_1897 (lv_at hl 4 rfl) ?_
    refine lv_iconst (v := 5) hx hb dL_law_1899 (by decide) ?_
    refine lv_iadd hx hb dL_law_1900 ?_
    refine va_sld hx hb hX hbl hbA hV.2.2.2.2.1 hi5 dL_law_1901 ?_
    refine lv_aload_n hx hb dL_law_1902 rfl (lv_at hl 3 rfl) ?_
    refine r_stW (n := 7) (As := [.ref (eA E 0), .int (xs (x4 + 1).toNatClampNeg), .int (xs (x4 + 2).toNatClampNeg), .int (xs (x4 + 3).toNatClampNeg), .int (xs (x4 + 4).toNatClampNeg), .int (xs (x4 + 5).toNatClampNeg), .ref o]) (w_L_rests hx1) lw_fst mk_6_39 mk_1_0 mk_6_40 (by decide +kernel) rfl ⟨rfl, rfl⟩ cx hV hF hN mk_6_38 ⟨Nat.le_of_ble_eq_true rfl, Nat.le_of_ble_eq_true rfl⟩ hc0 hl.1 rfl (Nat.le_of_ble_eq_true rfl) dL_law_1903 (fun H locs hV => ?_)
    refine lv_istore (lv' := [(5, .int 0), (0, .ref b), (1, .ref (eA E 0)), (2, .ref (eA (eW E ad) 0)), (3, .ref o), (4, .int x4)]) hx hb dL_law_1906 hl (by decide) rfl (fun ls hl => ?_)
    refine lv_aload_n hx hb dL_law_1908 rfl (lv_at hl 3 rfl) ?_
    refine lv_aload_n hx hb dL_law_1909 rfl (lv_at hl 1 rfl) ?_
    refine lv_iload hx hb dL_law_1910 (lv_at hl 5 rfl) ?_
    refine lv_iconst (v := 1) hx hb dL_law_1912 (by decide) ?_
    refine lv_iadd hx hb dL_law_1913 ?_
    refine va_sld hx hb hX hbl hbA hV.2.2.2.2.1 hi1 dL_law_1914 ?_
    refine lv_aload_n hx hb dL_law_1915 rfl (lv_at hl 1 rfl) ?_
    refine lv_iload hx hb dL_law_1916 (lv_at hl 5 rfl) ?_
    refine lv_iconst (v := 2) hx hb dL_law_1918 (by decide) ?_
    refine lv_iadd hx hb dL_law_1919 ?_
    refine va_sld hx hb hX hbl hbA hV.2.2.2.2.1 hi2 dL_law_1920 ?_
    refine lv_aload_n hx hb dL_law_1921 rfl (lv_at hl 1 rfl) ?_
    refine lv_iload hx hb dL_law_1922 (lv_at hl 5 rfl) ?_
    refine lv_iconst (v := 3) hx hb dL_law_1924 (by decide) ?_
    refine lv_iadd hx hb dL_law_1925 ?_
    refine va_sld hx hb hX hbl hbA hV.2.2.2.2.1 hi3 dL_law_1926 ?_
    refine lv_aload_n hx hb dL_law_1927 rfl (lv_at hl 1 rfl) ?_
    refine lv_iload hx hb dL_law_1928 (lv_at hl 5 rfl) ?_
    refine lv_iconst (v := 4) hx hb dL_law_1930 (by decide) ?_
    refine lv_iadd hx hb dL_law_1931 ?_
    refine va_sld hx hb hX hbl hbA hV.2.2.2.2.1 hi4 dL_law_1932 ?_
    refine lv_aload_n hx hb dL_law_1933 rfl (lv_at hl 1 rfl) ?_
    refine lv_iload hx hb dL_law_1934 (lv_at hl 5 rfl) ?_
    refine lv_iconst (v := 5) hx hb dL_law_1936 (by decide) ?_
    refine lv_iadd hx hb dL_law_1937 ?_
    refine va_sld hx hb hX hbl hbA hV.2.2.2.2.1 hi5 dL_law_1938 ?_
    refine k_X10_rests hy1 cx (lw_toM hV) mk_8_140 ⟨Nat.le_of_ble_eq_true rfl, Nat.le_of_ble_eq_true rfl⟩ hc0 hl.1 (Nat.le_of_ble_eq_true rfl) dL_law_1939 (fun H locs hV => ?_)
    have hV := lw_ofM hV
    refine lv_istore (lv' := [(6, .int r), (5, .int 0), (0, .ref b), (1, .ref (eA E 0)), (2, .ref (eA (eW E ad) 0)), (3, .ref o), (4, .int x4)]) hx hb dL_law_1942 hl (by decide) rfl (fun ls hl => ?_)
    refine lv_aload_n hx hb dL_law_1944 rfl (lv_at hl 4 rfl) ?_
    refine k_X10_thrown (rv := 0) (show x_X10_thrown _ = some 0 from congrArg some h0) cx (lw_toM hV) mk_6_75 ⟨Nat.le_of_ble_eq_true rfl, Nat.le_of_ble_eq_true rfl⟩ hc0 hl.1 (Nat.le_of_ble_eq_true rfl) dL_law_1945 (fun H locs hV => ?_)
    have hV := lw_ofM hV
    refine lv_iload hx hb dL_law_1948 (lv_at hl 1 rfl) ?_
    refine lv_icmp_eq (tgt := 1955) hx hb dL_law_1950 (by decide) (fun _ => ?_) (fun q => absurd rfl q)
    refine lv_iload hx hb dL_law_1955 (lv_at hl 1 rfl) ?_
    refine lv_if_ne (tgt := 1972) hx hb dL_law_1957 (by decide) (fun q => absurd rfl q) (fun _ => ?_)
    refine lv_aload_n hx hb dL_law_1960 rfl (lv_at hl 5 rfl) ?_
    refine lv_iconst (v := 0) hx hb dL_law_1961 (by decide) ?_
    refine r_lald cx hV 115 rfl (n := 1) (by unfold vp_in; decide) dL_law_1962 ?_
    rw [lw_upd0]
    refine lv_iload hx hb dL_law_1963 (lv_at hl 0 rfl) ?_
    refine lv_i2l (v := Int32.toInt64 r) hx hb dL_law_1965 rfl ?_
    refine W.lcmp hx hb dL_law_1966 ?_
    rw [lw_cmp0]
    refine lv_if_eq (tgt := 1972) hx hb dL_law_1967 (by decide) (fun _ => ?_) (fun q => absurd rfl q)
    refine lv_goto (tgt := 2051) hx hb dL_law_1972 (by decide) ?_
    refine W.widen (k := cells + 1) (n := slots + 6) (by omega) (by omega) ?_
    exact kk _ _ _ _ _ _ hV hI2 (lv_sub hl [2, 3, 4, 5, 6] rfl)
  · simp only [List.mem_cons, Prod.mk.injEq, List.not_mem_nil, or_false] at hc
    obtain ⟨rfl, h0⟩ := hc
    refine lv_aload_n hx hb dL_law_1871 rfl (lv_at hl 1 rfl) ?_
    refine lv_aload_n hx hb dL_law_1872 rfl (lv_at hl 0 rfl) ?_
    refine lv_iload hx hb dL_law_1873 (lv_at hl 4 rfl) ?_
    refine lv_iconst (v := 1) hx hb dL_law_1875 (by decide) ?_
    refine lv_iadd hx hb dL_law_1876 ?_
    refine va_sld hx hb hX hbl hbA hV.2.2.2.2.1 hi1 dL_law_1877 ?_
    refine lv_aload_n hx hb dL_law_1878 rfl (lv_at hl 0 rfl) ?_
    refine lv_iload hx hb dL_law_1879 (lv_at hl 4 rfl) ?_
    refine lv_iconst (v := 2) hx hb dL_law_1881 (by decide) ?_
    refine lv_iadd hx hb dL_law_1882 ?_
    refine va_sld hx hb hX hbl hbA hV.2.2.2.2.1 hi2 dL_law_1883 ?_
    refine lv_aload_n hx hb dL_law_1884 rfl (lv_at hl 0 rfl) ?_
    refine lv_iload hx hb dL_law_1885 (lv_at hl 4 rfl) ?_
    refine lv_iconst (v := 3) hx hb dL_law_1887 (by decide) ?_
    refine lv_iadd hx hb dL_law_1888 ?_
    refine va_sld hx hb hX hbl hbA hV.2.2.2.2.1 hi3 dL_law_1889 ?_
    refine lv_aload_n hx hb dL_law_1890 rfl (lv_at hl 0 rfl) ?_
    refine lv_iload hx hb dL_law_1891 (lv_at hl 4 rfl) ?_
    refine lv_iconst (v := 4) hx hb dL_law_1893 (by decide) ?_
    refine lv_iadd hx hb dL_law_1894 ?_
    refine va_sld hx hb hX hbl hbA hV.2.2.2.2.1 hi4 dL_law_1895 ?_
    refine lv_aload_n hx hb dL_law_1896 rfl (lv_at hl 0 rfl) ?_
    refine lv_iload hx hb dL_law_1897 (lv_at hl 4 rfl) ?_
    refine lv_iconst (v := 5) hx hb dL_law_1899 (by decide) ?_
    refine lv_iadd hx hb dL_law_1900 ?_
    refine va_sld hx hb hX hbl hbA hV.2.2.2.2.1 hi5 dL_law_1901 ?_
    refine lv_aload_n hx hb dL_law_1902 rfl (lv_at hl 3 rfl) ?_
    refine r_stW (n := 7) (As := [.ref (eA E 0), .int (xs (x4 + 1).toNatClampNeg), .int (xs (x4 + 2).toNatClampNeg), .int (xs (x4 + 3).toNatClampNeg), .int (xs (x4 + 4).toNatClampNeg), .int (xs (x4 + 5).toNatClampNeg), .ref o]) (wt_L_rests_3 hT hx1) lw_fst mk_6_39 mk_1_0 mk_6_40 (by decide +kernel) rfl ⟨rfl, rfl⟩ cx hV hF hN mk_6_38 ⟨Nat.le_of_ble_eq_true rfl, Nat.le_of_ble_eq_true rfl⟩ hcs hl.1 rfl (Nat.le_of_ble_eq_true rfl) dL_law_1903 (fun H locs hV => ?_)
    refine lv_istore (lv' := [(5, .int 1), (0, .ref b), (1, .ref (eA E 0)), (2, .ref (eA (eW E ad) 0)), (3, .ref o), (4, .int x4)]) hx hb dL_law_1906 hl (by decide) rfl (fun ls hl => ?_)
    refine lv_aload_n hx hb dL_law_1908 rfl (lv_at hl 3 rfl) ?_
    refine lv_aload_n hx hb dL_law_1909 rfl (lv_at hl 1 rfl) ?_
    refine lv_iload hx hb dL_law_1910 (lv_at hl 5 rfl) ?_
    refine lv_iconst (v := 1) hx hb dL_law_1912 (by decide) ?_
    refine lv_iadd hx hb dL_law_1913 ?_
    refine va_sld hx hb hX hbl hbA hV.2.2.2.2.1 hi1 dL_law_1914 ?_
    refine lv_aload_n hx hb dL_law_1915 rfl (lv_at hl 1 rfl) ?_
    refine lv_iload hx hb dL_law_1916 (lv_at hl 5 rfl) ?_
    refine lv_iconst (v := 2) hx hb dL_law_1918 (by decide) ?_
    refine lv_iadd hx hb dL_law_1919 ?_
    refine va_sld hx hb hX hbl hbA hV.2.2.2.2.1 hi2 dL_law_1920 ?_
    refine lv_aload_n hx hb dL_law_1921 rfl (lv_at hl 1 rfl) ?_
    refine lv_iload hx hb dL_law_1922 (lv_at hl 5 rfl) ?_
    refine lv_iconst (v := 3) hx hb dL_law_1924 (by decide) ?_
    refine lv_iadd hx hb dL_law_1925 ?_
    refine va_sld hx hb hX hbl hbA hV.2.2.2.2.1 hi3 dL_law_1926 ?_
    refine lv_aload_n hx hb dL_law_1927 rfl (lv_at hl 1 rfl) ?_
    refine lv_iload hx hb dL_law_1928 (lv_at hl 5 rfl) ?_
    refine lv_iconst (v := 4) hx hb dL_law_1930 (by decide) ?_
    refine lv_iadd hx hb dL_law_1931 ?_
    refine va_sld hx hb hX hbl hbA hV.2.2.2.2.1 hi4 dL_law_1932 ?_
    refine lv_aload_n hx hb dL_law_1933 rfl (lv_at hl 1 rfl) ?_
    refine lv_iload hx hb dL_law_1934 (lv_at hl 5 rfl) ?_
    refine lv_iconst (v := 5) hx hb dL_law_1936 (by decide) ?_
    refine lv_iadd hx hb dL_law_1937 ?_
    refine va_sld hx hb hX hbl hbA hV.2.2.2.2.1 hi5 dL_law_1938 ?_
    refine k_X10_rests hy1 cx (lw_toM hV) mk_8_140 ⟨Nat.le_of_ble_eq_true rfl, Nat.le_of_ble_eq_true rfl⟩ hcs hl.1 (Nat.le_of_ble_eq_true rfl) dL_law_1939 (fun H locs hV => ?_)
    have hV := lw_ofM hV
    refine lv_istore (lv' := [(6, .int r), (5, .int 1), (0, .ref b), (1, .ref (eA E 0)), (2, .ref (eA (eW E ad) 0)), (3, .ref o), (4, .int x4)]) hx hb dL_law_1942 hl (by decide) rfl (fun ls hl => ?_)
    refine lv_aload_n hx hb dL_law_1944 rfl (lv_at hl 4 rfl) ?_
    refine k_X10_thrown (rv := 1) (show x_X10_thrown _ = some 1 from congrArg some h0) cx (lw_toM hV) mk_6_75 ⟨Nat.le_of_ble_eq_true rfl, Nat.le_of_ble_eq_true rfl⟩ hcs hl.1 (Nat.le_of_ble_eq_true rfl) dL_law_1945 (fun H locs hV => ?_)
    have hV := lw_ofM hV
    refine lv_iload hx hb dL_law_1948 (lv_at hl 1 rfl) ?_
    refine lv_icmp_eq (tgt := 1955) hx hb dL_law_1950 (by decide) (fun _ => ?_) (fun q => absurd rfl q)
    refine lv_iload hx hb dL_law_1955 (lv_at hl 1 rfl) ?_
    refine lv_if_ne (tgt := 1972) hx hb dL_law_1957 (by decide) (fun _ => ?_) (fun q => absurd q (by decide))
    refine lv_goto (tgt := 2051) hx hb dL_law_1972 (by decide) ?_
    refine W.widen (k := cells + 1) (n := slots + 6) (by omega) (by omega) ?_
    exact kk _ _ _ _ _ _ hV hI2 (lv_sub hl [2, 3, 4, 5, 6] rfl)
set_option maxHeartbeats 4000000 in
set_option maxRecDepth 100000 in
theorem lc_image {p : Program} {l : Launch} {e : Env} {s : State} {m : MethodId} {below : List Frame} {meth : Method} {c : Code} {b L : Nat} {xs : Nat → Int32} {E : EV} {ad : Nat → Nat} {σ τ : St} {o : Nat} {f : Nat → Int64} {H : Heap} {locs : List Loc} {ls : Array Slot} {x4 : Int32} {cells slots : Nat} {Q : State → Prop} (D : LwD p l s m c b L xs E ad) (hi1 : vp_in (x4 + 1) L) (hi2 : vp_in (x4 + 2) L) (hi3 : vp_in (x4 + 3) L) (hi4 : vp_in (x4 + 4) L) (hi5 : vp_in (x4 + 5) L) (hcs : cells + 1 ≤ room_1.cells ∧ slots + 6 ≤ room_1.slots) (hV : AtW E (lwW E ad σ τ o f) (lwA s) s H locs) (hI : Inv σ τ) (hl : lv_has ls 8 [(0, .ref b), (1, .ref (eA E 0)), (2, .ref (eA (eW E ad) 0)), (3, .ref o), (4, .int x4)]) (kk : LwK p l e s m below meth c b E ad o x4 cells slots Q) : W p l e room_1 s m #[Value.ref b] below meth c H locs cells slots Q (F0 m 1975 ls []) := by
  obtain ⟨cx, hX, hbl, hF, hF2, hN, hT⟩ := D
  have hx := cx.1
  have hb := cx.2.1
  have hbA : ¬ lwA s b := Nat.not_le.mpr hbl
  have hc0 : cells ≤ room_1.cells ∧ slots ≤ room_1.slots := ⟨Nat.le_trans (Nat.le_add_right _ 1) hcs.1, Nat.le_trans (Nat.le_add_right _ 6) hcs.2⟩
  obtain ⟨r, σ2, τ2, hx1, hy1, hI2⟩ := op_image hI
  refine lv_aload_n hx hb dL_law_1975 rfl (lv_at hl 1 rfl) ?_
  refine k_X9_image hx1 cx hV mk_3_146 ⟨Nat.le_of_ble_eq_true rfl, Nat.le_of_ble_eq_true rfl⟩ hc0 hl.1 (Nat.le_of_ble_eq_true rfl) dL_law_1976 (fun H locs hV => ?_)
  refine lv_aload_n hx hb dL_law_1979 rfl (lv_at hl 2 rfl) ?_
  refine k_X10_image hy1 cx (lw_toM hV) mk_8_152 ⟨Nat.le_of_ble_eq_true rfl, Nat.le_of_ble_eq_true rfl⟩ hc0 hl.1 (Nat.le_of_ble_eq_true rfl) dL_law_1980 (fun H locs hV => ?_)
  have hV := lw_ofM hV
  refine lv_icmp_eq (tgt := 2051) hx hb dL_law_1983 (by decide) (fun _ => ?_) (fun q => absurd rfl q)
  refine W.widen (k := cells + 1) (n := slots + 6) (by omega) (by omega) ?_
  exact kk _ _ _ _ _ _ hV hI2 (lv_sub hl [0, 1, 2, 3, 4] rfl)
set_option maxHeartbeats 4000000 in
set_option maxRecDepth 100000 in
theorem lc_restore {p : Program} {l : Launch} {e : Env} {s : State} {m : MethodId} {below : List Frame} {meth : Method} {c : Code} {b L : Nat} {xs : Nat → Int32} {E : EV} {ad : Nat → Nat} {σ τ : St} {o : Nat} {f : Nat → Int64} {H : Heap} {locs : List Loc} {ls : Array Slot} {x4 : Int32} {cells slots : Nat} {Q : State → Prop} (D : LwD p l s m c b L xs E ad) (hi1 : vp_in (x4 + 1) L) (hi2 : vp_in (x4 + 2) L) (hi3 : vp_in (x4 + 3) L) (hi4 : vp_in (x4 + 4) L) (hi5 : vp_in (x4 + 5) L) (hcs : cells + 1 ≤ room_1.cells ∧ slots + 6 ≤ room_1.slots) (hV : AtW E (lwW E ad σ τ o f) (lwA s) s H locs) (hI : Inv σ τ) (hl : lv_has ls 8 [(0, .ref b), (1, .ref (eA E 0)), (2, .ref (eA (eW E ad) 0)), (3, .ref o), (4, .int x4)]) (kk : LwK p l e s m below meth c b E ad o x4 cells slots Q) : W p l e room_1 s m #[Value.ref b] below meth c H locs cells slots Q (F0 m 1988 ls []) := by
  obtain ⟨cx, hX, hbl, hF, hF2, hN, hT⟩ := D
  have hx := cx.1
  have hb := cx.2.1
  have hbA : ¬ lwA s b := Nat.not_le.mpr hbl
  have hc0 : cells ≤ room_1.cells ∧ slots ≤ room_1.slots := ⟨Nat.le_trans (Nat.le_add_right _ 1) hcs.1, Nat.le_trans (Nat.le_add_right _ 6) hcs.2⟩
  obtain ⟨r, σ2, τ2, hx1, hy1, hI2⟩ := op_restore hI
  refine lv_aload_n hx hb dL_law_1988 rfl (lv_at hl 1 rfl) ?_
  refine k_X9_restore hx1 cx hV mk_3_154 ⟨Nat.le_of_ble_eq_true rfl, Nat.le_of_ble_eq_true rfl⟩ hc0 hl.1 (Nat.le_of_ble_eq_true rfl) dL_law_1989 (fun H locs hV => ?_)
  refine lv_aload_n hx hb dL_law_1992 rfl (lv_at hl 2 rfl) ?_
  refine k_X10_restore hy1 cx (lw_toM hV) mk_8_164 ⟨Nat.le_of_ble_eq_true rfl, Nat.le_of_ble_eq_true rfl⟩ hc0 hl.1 (Nat.le_of_ble_eq_true rfl) dL_law_1993 (fun H locs hV => ?_)
  have hV := lw_ofM hV
  refine lv_icmp_eq (tgt := 2051) hx hb dL_law_1996 (by decide) (fun _ => ?_) (fun q => absurd rfl q)
  refine W.widen (k := cells + 1) (n := slots + 6) (by omega) (by omega) ?_
  exact kk _ _ _ _ _ _ hV hI2 (lv_sub hl [0, 1, 2, 3, 4] rfl)
set_option maxHeartbeats 4000000 in
set_option maxRecDepth 100000 in
theorem lc_status {p : Program} {l : Launch} {e : Env} {s : State} {m : MethodId} {below : List Frame} {meth : Method} {c : Code} {b L : Nat} {xs : Nat → Int32} {E : EV} {ad : Nat → Nat} {σ τ : St} {o : Nat} {f : Nat → Int64} {H : Heap} {locs : List Loc} {ls : Array Slot} {x4 : Int32} {cells slots : Nat} {Q : State → Prop} (D : LwD p l s m c b L xs E ad) (hi1 : vp_in (x4 + 1) L) (hi2 : vp_in (x4 + 2) L) (hi3 : vp_in (x4 + 3) L) (hi4 : vp_in (x4 + 4) L) (hi5 : vp_in (x4 + 5) L) (hcs : cells + 1 ≤ room_1.cells ∧ slots + 6 ≤ room_1.slots) (hV : AtW E (lwW E ad σ τ o f) (lwA s) s H locs) (hI : Inv σ τ) (hl : lv_has ls 8 [(0, .ref b), (1, .ref (eA E 0)), (2, .ref (eA (eW E ad) 0)), (3, .ref o), (4, .int x4)]) (kk : LwK p l e s m below meth c b E ad o x4 cells slots Q) : W p l e room_1 s m #[Value.ref b] below meth c H locs cells slots Q (F0 m 2001 ls []) := by
  obtain ⟨cx, hX, hbl, hF, hF2, hN, hT⟩ := D
  have hx := cx.1
  have hb := cx.2.1
  have hbA : ¬ lwA s b := Nat.not_le.mpr hbl
  have hc0 : cells ≤ room_1.cells ∧ slots ≤ room_1.slots := ⟨Nat.le_trans (Nat.le_add_right _ 1) hcs.1, Nat.le_trans (Nat.le_add_right _ 6) hcs.2⟩
  obtain ⟨r, τ2, hx1, hy1, hI2⟩ := op_status hI (xs (x4 + 1).toNatClampNeg)
  refine lv_aload_n hx hb dL_law_2001 rfl (lv_at hl 1 rfl) ?_
  refine lv_aload_n hx hb dL_law_2002 rfl (lv_at hl 0 rfl) ?_
  refine lv_iload hx hb dL_law_2003 (lv_at hl 4 rfl) ?_
  refine lv_iconst (v := 1) hx hb dL_law_2005 (by decide) ?_
  refine lv_iadd hx hb dL_law_2006 ?_
  refine va_sld hx hb hX hbl hbA hV.2.2.2.2.1 hi1 dL_law_2007 ?_
  refine k_X9_status hx1 cx hV mk_3_158 ⟨Nat.le_of_ble_eq_true rfl, Nat.le_of_ble_eq_true rfl⟩ hc0 hl.1 (Nat.le_of_ble_eq_true rfl) dL_law_2008 (fun H locs hV => ?_)
  refine lv_aload_n hx hb dL_law_2011 rfl (lv_at hl 2 rfl) ?_
  refine lv_aload_n hx hb dL_law_2012 rfl (lv_at hl 0 rfl) ?_
  refine lv_iload hx hb dL_law_2013 (lv_at hl 4 rfl) ?_
  refine lv_iconst (v := 1) hx hb dL_law_2015 (by decide) ?_
  refine lv_iadd hx hb dL_law_2016 ?_
  refine va_sld hx hb hX hbl hbA hV.2.2.2.2.1 hi1 dL_law_2017 ?_
  refine k_X10_status hy1 cx (lw_toM hV) mk_8_168 ⟨Nat.le_of_ble_eq_true rfl, Nat.le_of_ble_eq_true rfl⟩ hc0 hl.1 (Nat.le_of_ble_eq_true rfl) dL_law_2018 (fun H locs hV => ?_)
  have hV := lw_ofM hV
  refine lv_icmp_eq (tgt := 2051) hx hb dL_law_2021 (by decide) (fun _ => ?_) (fun q => absurd rfl q)
  refine W.widen (k := cells + 1) (n := slots + 6) (by omega) (by omega) ?_
  exact kk _ _ _ _ _ _ hV hI2 (lv_sub hl [0, 1, 2, 3, 4] rfl)
set_option maxHeartbeats 4000000 in
set_option maxRecDepth 100000 in
theorem lc_count {p : Program} {l : Launch} {e : Env} {s : State} {m : MethodId} {below : List Frame} {meth : Method} {c : Code} {b L : Nat} {xs : Nat → Int32} {E : EV} {ad : Nat → Nat} {σ τ : St} {o : Nat} {f : Nat → Int64} {H : Heap} {locs : List Loc} {ls : Array Slot} {x4 : Int32} {cells slots : Nat} {Q : State → Prop} (D : LwD p l s m c b L xs E ad) (hi1 : vp_in (x4 + 1) L) (hi2 : vp_in (x4 + 2) L) (hi3 : vp_in (x4 + 3) L) (hi4 : vp_in (x4 + 4) L) (hi5 : vp_in (x4 + 5) L) (hcs : cells + 1 ≤ room_1.cells ∧ slots + 6 ≤ room_1.slots) (hV : AtW E (lwW E ad σ τ o f) (lwA s) s H locs) (hI : Inv σ τ) (hl : lv_has ls 8 [(0, .ref b), (1, .ref (eA E 0)), (2, .ref (eA (eW E ad) 0)), (3, .ref o), (4, .int x4)]) (kk : LwK p l e s m below meth c b E ad o x4 cells slots Q) : W p l e room_1 s m #[Value.ref b] below meth c H locs cells slots Q (F0 m 2026 ls []) := by
  obtain ⟨cx, hX, hbl, hF, hF2, hN, hT⟩ := D
  have hx := cx.1
  have hb := cx.2.1
  have hbA : ¬ lwA s b := Nat.not_le.mpr hbl
  have hc0 : cells ≤ room_1.cells ∧ slots ≤ room_1.slots := ⟨Nat.le_trans (Nat.le_add_right _ 1) hcs.1, Nat.le_trans (Nat.le_add_right _ 6) hcs.2⟩
  obtain ⟨r, τ2, hx1, hy1, hI2⟩ := op_count hI (xs (x4 + 1).toNatClampNeg)
  refine lv_aload_n hx hb dL_law_2026 rfl (lv_at hl 1 rfl) ?_
  refine lv_aload_n hx hb dL_law_2027 rfl (lv_at hl 0 rfl) ?_
  refine lv_iload hx hb dL_law_2028 (lv_at hl 4 rfl) ?_
  refine lv_iconst (v := 1) hx hb dL_law_2030 (by decide) ?_
  refine lv_iadd hx hb dL_law_2031 ?_
  refine va_sld hx hb hX hbl hbA hV.2.2.2.2.1 hi1 dL_law_2032 ?_
  refine k_X9_count hx1 cx hV mk_3_162 ⟨Nat.le_of_ble_eq_true rfl, Nat.le_of_ble_eq_true rfl⟩ hc0 hl.1 (Nat.le_of_ble_eq_true rfl) dL_law_2033 (fun H locs hV => ?_)
  refine lv_aload_n hx hb dL_law_2036 rfl (lv_at hl 2 rfl) ?_
  refine lv_aload_n hx hb dL_law_2037 rfl (lv_at hl 0 rfl) ?_
  refine lv_iload hx hb dL_law_2038 (lv_at hl 4 rfl) ?_
  refine lv_iconst (v := 1) hx hb dL_law_2040 (by decide) ?_
  refine lv_iadd hx hb dL_law_2041 ?_
  refine va_sld hx hb hX hbl hbA hV.2.2.2.2.1 hi1 dL_law_2042 ?_
  refine k_X10_count hy1 cx (lw_toM hV) mk_8_172 ⟨Nat.le_of_ble_eq_true rfl, Nat.le_of_ble_eq_true rfl⟩ hc0 hl.1 (Nat.le_of_ble_eq_true rfl) dL_law_2043 (fun H locs hV => ?_)
  have hV := lw_ofM hV
  refine lv_icmp_eq (tgt := 2051) hx hb dL_law_2046 (by decide) (fun _ => ?_) (fun q => absurd rfl q)
  refine W.widen (k := cells + 1) (n := slots + 6) (by omega) (by omega) ?_
  exact kk _ _ _ _ _ _ hV hI2 (lv_sub hl [0, 1, 2, 3, 4] rfl)
