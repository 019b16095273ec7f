/-! the law's loop -/
theorem nI_p1 (n : Nat) : nI n + 1 = nI (n + 1) := by rw [iI_nat, iI_nat, qa1]; rfl
theorem nI_p2 (n : Nat) : nI n + 2 = nI (n + 2) := by rw [iI_nat, iI_nat, qa2]; rfl
theorem nI_p3 (n : Nat) : nI n + 3 = nI (n + 3) := by rw [iI_nat, iI_nat, qa3]; rfl
theorem nI_p4 (n : Nat) : nI n + 4 = nI (n + 4) := by rw [iI_nat, iI_nat, qa4]; rfl
theorem nI_p5 (n : Nat) : nI n + 5 = nI (n + 5) := by rw [iI_nat, iI_nat, qa5]; rfl
theorem nI_p6 (n : Nat) : nI n + 6 = nI (n + 6) := by rw [iI_nat, iI_nat, qa6]; rfl
set_option maxHeartbeats 4000000 in
set_option maxRecDepth 100000 in
theorem law_loop {p : Program} {l : Launch} {e : Env} {s : State} {m : MethodId} {below : List Frame} {meth : Method} {c : Code} {b L : Nat} {xs : Nat → Int32} {E : EV} {ad : Nat → Nat} {o : Nat} (hL : L ≤ 3072) (D : LwD p l s m c b L xs E ad) (hr : meth.sig.returnType = ret) (hlk : meth.locks = false) :
    ∀ (n t : Nat), t + n = 513 → 6 * t ≤ L → ∀ (σ τ : St) (f : Nat → Int64) (H : Heap) (locs : List Loc) (ls : Array Slot), AtW E (lwW E ad σ τ o f) (lwA s) s H locs → Inv σ τ → lv_has ls 8 [(0, .ref b), (1, .ref (eA E 0)), (2, .ref (eA (eW E ad) 0)), (3, .ref o), (4, .int (nI (6 * t)))] →
      W p l e room_1 s m #[Value.ref b] below meth c H locs (156 + t) (7066 + 6 * t) (lw_Z below #[Value.ref b] s) (F0 m 23 ls []) := by
  have DD := D
  obtain ⟨cx, hX, hbl, hF, hF2, hN, hT⟩ := D
  have hx := cx.1
  have hb := cx.2.1
  have hbA : ¬ lwA s b := Nat.not_le.mpr hbl
  intro n
  induction n with
  | zero => intro t h1 h2; exact absurd h2 (by omega)
  | succ n ih =>
    intro t h1 h2 σ τ f H locs ls hV hI hl
    refine lv_iload hx hb dL_law_23 (lv_at hl 4 rfl) ?_
    refine lv_aload_n hx hb dL_law_25 rfl (lv_at hl 0 rfl) ?_
    refine va_slen hx hb hX hbl hbA hV.2.2.2.2.1 dL_law_26 ?_
    refine lv_bipush (v := 6) hx hb dL_law_27 (by decide) ?_
    refine lv_isub hx hb dL_law_29 ?_
    refine lv_icmp_gt (tgt := 2057) hx hb dL_law_30 (by decide) (fun _ => ?_) (fun cg => ?_)
    · refine lv_iconst (v := 1) hx hb dL_law_2057 (by decide) ?_
      refine va_forget (fun q hq => hV.2.2.2.2.1.2.2 q hq) ?_
      refine W.widen (k := 1185) (n := 11762) (by omega) (by omega) ?_
      exact lw_ret hx hb hr hlk dL_law_2058
    · have hlt : 6 * (t + 1) ≤ L := by
        rw [show Int32.ofNat L = iI L from iI_nat L, iI_nat, qs6, iI_ltD (by omega) (by omega) (by omega) (by omega)] at cg
        omega
      have kk : LwK p l e s m below meth c b E ad o (nI (6 * t)) (156 + t) (7066 + 6 * t) (lw_Z below #[Value.ref b] s) := by
        intro σ2 τ2 f2 H2 locs2 ls2 hV2 hI2 hl2
        have k := ih (t + 1) (by omega) hlt
        refine lv_iinc (v := nI (6 * (t + 1))) (lv' := [(4, .int (nI (6 * (t + 1)))), (0, .ref b), (1, .ref (eA E 0)), (2, .ref (eA (eW E ad) 0)), (3, .ref o)]) hx hb dL_law_2051 hl2 (k := 4) rfl (nI_p6 (6 * t)) (by decide) rfl (fun ls hl => ?_)
        refine lv_goto (tgt := 23) hx hb dL_law_2054 (by decide) ?_
        have k2 := k σ2 τ2 f2 H2 locs2 ls hV2 hI2 (lv_sub hl [1, 2, 3, 4, 0] rfl)
        rw [show 156 + (t + 1) = 156 + t + 1 from by omega, show 7066 + 6 * (t + 1) = 7066 + 6 * t + 6 from by omega] at k2
        exact k2
      have hi0 : vp_in (nI (6 * t)) L := vp_in_nI (by omega) (by omega)
      have hi1 : vp_in (nI (6 * t) + 1) L := by rw [nI_p1]; exact vp_in_nI (by omega) (by omega)
      have hi2 : vp_in (nI (6 * t) + 2) L := by rw [nI_p2]; exact vp_in_nI (by omega) (by omega)
      have hi3 : vp_in (nI (6 * t) + 3) L := by rw [nI_p3]; exact vp_in_nI (by omega) (by omega)
      have hi4 : vp_in (nI (6 * t) + 4) L := by rw [nI_p4]; exact vp_in_nI (by omega) (by omega)
      have hi5 : vp_in (nI (6 * t) + 5) L := by rw [nI_p5]; exact vp_in_nI (by omega) (by omega)
      have hcs : 156 + t + 1 ≤ room_1.cells ∧ 7066 + 6 * t + 6 ≤ room_1.slots := by
        constructor
        · show 156 + t + 1 ≤ 1185
          omega
        · show 7066 + 6 * t + 6 ≤ 11762
          omega
      refine lv_aload_n hx hb dL_law_33 rfl (lv_at hl 0 rfl) ?_
      refine lv_iload hx hb dL_law_34 (lv_at hl 4 rfl) ?_
      refine va_sld hx hb hX hbl hbA hV.2.2.2.2.1 hi0 dL_law_36 ?_
      refine lv_bipush (v := 63) hx hb dL_law_37 (by decide) ?_
      refine lv_iand hx hb dL_law_39 ?_
      generalize xs (nI (6 * t)).toNatClampNeg &&& 63 = z
      by_cases hz : 0 ≤ z.toInt ∧ z.toInt ≤ 34
      · have hzz : z.toInt = 0 ∨ z.toInt = 1 ∨ z.toInt = 2 ∨ z.toInt = 3 ∨ z.toInt = 4 ∨ z.toInt = 5 ∨ z.toInt = 6 ∨ z.toInt = 7 ∨ z.toInt = 8 ∨ z.toInt = 9 ∨ z.toInt = 10 ∨ z.toInt = 11 ∨ z.toInt = 12 ∨ z.toInt = 13 ∨ z.toInt = 14 ∨ z.toInt = 15 ∨ z.toInt = 16 ∨ z.toInt = 17 ∨ z.toInt = 18 ∨ z.toInt = 19 ∨ z.toInt = 20 ∨ z.toInt = 21 ∨ z.toInt = 22 ∨ z.toInt = 23 ∨ z.toInt = 24 ∨ z.toInt = 25 ∨ z.toInt = 26 ∨ z.toInt = 27 ∨ z.toInt = 28 ∨ z.toInt = 29 ∨ z.toInt = 30 ∨ z.toInt = 31 ∨ z.toInt = 32 ∨ z.toInt = 33 ∨ z.toInt = 34 := by omega
        rcases hzz with hj | hj | hj | hj | hj | hj | hj | hj | hj | hj | hj | hj | hj | hj | hj | hj | hj | hj | hj | hj | hj | hj | hj | hj | hj | hj | hj | hj | hj | hj | hj | hj | hj | hj | hj
        · refine lv_tableIn (off := 156) (tgt := 196) hx hb dL_law_40 (by rw [hj]; decide) (by rw [hj]; decide) (by rw [hj]; rfl) (by decide) ?_
          exact lc_feed DD hi1 hi2 hi3 hi4 hi5 hcs hV hI hl kk
        · refine lv_tableIn (off := 229) (tgt := 269) hx hb dL_law_40 (by rw [hj]; decide) (by rw [hj]; decide) (by rw [hj]; rfl) (by decide) ?_
          exact lc_shop DD hi1 hi2 hi3 hi4 hi5 hcs hV hI hl kk
        · refine lv_tableIn (off := 285) (tgt := 325) hx hb dL_law_40 (by rw [hj]; decide) (by rw [hj]; decide) (by rw [hj]; rfl) (by decide) ?_
          exact lc_fault DD hi1 hi2 hi3 hi4 hi5 hcs hV hI hl kk
        · refine lv_tableIn (off := 298) (tgt := 338) hx hb dL_law_40 (by rw [hj]; decide) (by rw [hj]; decide) (by rw [hj]; rfl) (by decide) ?_
          exact lc_told DD hi1 hi2 hi3 hi4 hi5 hcs hV hI hl kk
        · refine lv_tableIn (off := 354) (tgt := 394) hx hb dL_law_40 (by rw [hj]; decide) (by rw [hj]; decide) (by rw [hj]; rfl) (by decide) ?_
          exact lc_crate DD hi1 hi2 hi3 hi4 hi5 hcs hV hI hl kk
        · refine lv_tableIn (off := 422) (tgt := 462) hx hb dL_law_40 (by rw [hj]; decide) (by rw [hj]; decide) (by rw [hj]; rfl) (by decide) ?_
          exact lc_row DD hi1 hi2 hi3 hi4 hi5 hcs hV hI hl kk
        · refine lv_tableIn (off := 490) (tgt := 530) hx hb dL_law_40 (by rw [hj]; decide) (by rw [hj]; decide) (by rw [hj]; rfl) (by decide) ?_
          exact lc_sleeve DD hi1 hi2 hi3 hi4 hi5 hcs hV hI hl kk
        · refine lv_tableIn (off := 558) (tgt := 598) hx hb dL_law_40 (by rw [hj]; decide) (by rw [hj]; decide) (by rw [hj]; rfl) (by decide) ?_
          exact lc_looker DD hi1 hi2 hi3 hi4 hi5 hcs hV hI hl kk
        · refine lv_tableIn (off := 626) (tgt := 666) hx hb dL_law_40 (by rw [hj]; decide) (by rw [hj]; decide) (by rw [hj]; rfl) (by decide) ?_
          exact lc_missed DD hi1 hi2 hi3 hi4 hi5 hcs hV hI hl kk
        · refine lv_tableIn (off := 682) (tgt := 722) hx hb dL_law_40 (by rw [hj]; decide) (by rw [hj]; decide) (by rw [hj]; rfl) (by decide) ?_
          exact lc_lay DD hi1 hi2 hi3 hi4 hi5 hcs hV hI hl kk
        · refine lv_tableIn (off := 750) (tgt := 790) hx hb dL_law_40 (by rw [hj]; decide) (by rw [hj]; decide) (by rw [hj]; rfl) (by decide) ?_
          exact lc_change DD hi1 hi2 hi3 hi4 hi5 hcs hV hI hl kk
        · refine lv_tableIn (off := 818) (tgt := 858) hx hb dL_law_40 (by rw [hj]; decide) (by rw [hj]; decide) (by rw [hj]; rfl) (by decide) ?_
          exact lc_wander DD hi1 hi2 hi3 hi4 hi5 hcs hV hI hl kk
        · refine lv_tableIn (off := 886) (tgt := 926) hx hb dL_law_40 (by rw [hj]; decide) (by rw [hj]; decide) (by rw [hj]; rfl) (by decide) ?_
          exact lc_day DD hi1 hi2 hi3 hi4 hi5 hcs hV hI hl kk
        · refine lv_tableIn (off := 911) (tgt := 951) hx hb dL_law_40 (by rw [hj]; decide) (by rw [hj]; decide) (by rw [hj]; rfl) (by decide) ?_
          exact lc_would DD hi1 hi2 hi3 hi4 hi5 hcs hV hI hl kk
        · refine lv_tableIn (off := 979) (tgt := 1019) hx hb dL_law_40 (by rw [hj]; decide) (by rw [hj]; decide) (by rw [hj]; rfl) (by decide) ?_
          exact lc_buys DD hi1 hi2 hi3 hi4 hi5 hcs hV hI hl kk
        · refine lv_tableIn (off := 1059) (tgt := 1099) hx hb dL_law_40 (by rw [hj]; decide) (by rw [hj]; decide) (by rw [hj]; rfl) (by decide) ?_
          exact lc_then DD hi1 hi2 hi3 hi4 hi5 hcs hV hI hl kk
        · refine lv_tableIn (off := 1127) (tgt := 1167) hx hb dL_law_40 (by rw [hj]; decide) (by rw [hj]; decide) (by rw [hj]; rfl) (by decide) ?_
          exact lc_odds DD hi1 hi2 hi3 hi4 hi5 hcs hV hI hl kk
        · refine lv_tableIn (off := 1218) (tgt := 1258) hx hb dL_law_40 (by rw [hj]; decide) (by rw [hj]; decide) (by rw [hj]; rfl) (by decide) ?_
          exact lc_hidden DD hi1 hi2 hi3 hi4 hi5 hcs hV hI hl kk
        · refine lv_tableIn (off := 1274) (tgt := 1314) hx hb dL_law_40 (by rw [hj]; decide) (by rw [hj]; decide) (by rw [hj]; rfl) (by decide) ?_
          exact lc_order DD hi1 hi2 hi3 hi4 hi5 hcs hV hI hl kk
        · refine lv_tableIn (off := 1366) (tgt := 1406) hx hb dL_law_40 (by rw [hj]; decide) (by rw [hj]; decide) (by rw [hj]; rfl) (by decide) ?_
          exact lc_mean DD hi1 hi2 hi3 hi4 hi5 hcs hV hI hl kk
        · refine lv_tableIn (off := 1457) (tgt := 1497) hx hb dL_law_40 (by rw [hj]; decide) (by rw [hj]; decide) (by rw [hj]; rfl) (by decide) ?_
          exact lc_pace DD hi1 hi2 hi3 hi4 hi5 hcs hV hI hl kk
        · refine lv_tableIn (off := 1470) (tgt := 1510) hx hb dL_law_40 (by rw [hj]; decide) (by rw [hj]; decide) (by rw [hj]; rfl) (by decide) ?_
          exact lc_round DD hi1 hi2 hi3 hi4 hi5 hcs hV hI hl kk
        · refine lv_tableIn (off := 1526) (tgt := 1566) hx hb dL_law_40 (by rw [hj]; decide) (by rw [hj]; decide) (by rw [hj]; rfl) (by decide) ?_
          exact lc_basket DD hi1 hi2 hi3 hi4 hi5 hcs hV hI hl kk
        · refine lv_tableIn (off := 1594) (tgt := 1634) hx hb dL_law_40 (by rw [hj]; decide) (by rw [hj]; decide) (by rw [hj]; rfl) (by decide) ?_
          exact lc_sort DD hi1 hi2 hi3 hi4 hi5 hcs hV hI hl kk
        · refine lv_tableIn (off := 1607) (tgt := 1647) hx hb dL_law_40 (by rw [hj]; decide) (by rw [hj]; decide) (by rw [hj]; rfl) (by decide) ?_
          exact lc_off DD hi1 hi2 hi3 hi4 hi5 hcs hV hI hl kk
        · refine lv_tableIn (off := 1620) (tgt := 1660) hx hb dL_law_40 (by rw [hj]; decide) (by rw [hj]; decide) (by rw [hj]; rfl) (by decide) ?_
          exact lc_often DD hi1 hi2 hi3 hi4 hi5 hcs hV hI hl kk
        · refine lv_tableIn (off := 1712) (tgt := 1752) hx hb dL_law_40 (by rw [hj]; decide) (by rw [hj]; decide) (by rw [hj]; rfl) (by decide) ?_
          exact lc_changes DD hi1 hi2 hi3 hi4 hi5 hcs hV hI hl kk
        · refine lv_tableIn (off := 1725) (tgt := 1765) hx hb dL_law_40 (by rw [hj]; decide) (by rw [hj]; decide) (by rw [hj]; rfl) (by decide) ?_
          exact lc_changed DD hi1 hi2 hi3 hi4 hi5 hcs hV hI hl kk
        · refine lv_tableIn (off := 1750) (tgt := 1790) hx hb dL_law_40 (by rw [hj]; decide) (by rw [hj]; decide) (by rw [hj]; rfl) (by decide) ?_
          exact lc_divider DD hi1 hi2 hi3 hi4 hi5 hcs hV hI hl kk
        · refine lv_tableIn (off := 1775) (tgt := 1815) hx hb dL_law_40 (by rw [hj]; decide) (by rw [hj]; decide) (by rw [hj]; rfl) (by decide) ?_
          exact lc_moves DD hi1 hi2 hi3 hi4 hi5 hcs hV hI hl kk
        · refine lv_tableIn (off := 1831) (tgt := 1871) hx hb dL_law_40 (by rw [hj]; decide) (by rw [hj]; decide) (by rw [hj]; rfl) (by decide) ?_
          exact lc_rests DD hi1 hi2 hi3 hi4 hi5 hcs hV hI hl kk
        · refine lv_tableIn (off := 1935) (tgt := 1975) hx hb dL_law_40 (by rw [hj]; decide) (by rw [hj]; decide) (by rw [hj]; rfl) (by decide) ?_
          exact lc_image DD hi1 hi2 hi3 hi4 hi5 hcs hV hI hl kk
        · refine lv_tableIn (off := 1948) (tgt := 1988) hx hb dL_law_40 (by rw [hj]; decide) (by rw [hj]; decide) (by rw [hj]; rfl) (by decide) ?_
          exact lc_restore DD hi1 hi2 hi3 hi4 hi5 hcs hV hI hl kk
        · refine lv_tableIn (off := 1961) (tgt := 2001) hx hb dL_law_40 (by rw [hj]; decide) (by rw [hj]; decide) (by rw [hj]; rfl) (by decide) ?_
          exact lc_status DD hi1 hi2 hi3 hi4 hi5 hcs hV hI hl kk
        · refine lv_tableIn (off := 1986) (tgt := 2026) hx hb dL_law_40 (by rw [hj]; decide) (by rw [hj]; decide) (by rw [hj]; rfl) (by decide) ?_
          exact lc_count DD hi1 hi2 hi3 hi4 hi5 hcs hV hI hl kk
      · refine lv_tableOut (tgt := 2051) hx hb dL_law_40 (by omega) (by decide) ?_
        refine W.widen (k := 156 + t + 1) (n := 7066 + 6 * t + 6) (by omega) (by omega) ?_
        exact kk _ _ _ _ _ _ hV hI hl
