/-! imageAt: a Stock of the album, or null -/
def bq {δ : Type} (o : Option (Option Nat)) (x : Option δ) (f : Nat → Option δ) : Option δ := match o with
  | none => none
  | some none => x
  | some (some t) => f t
theorem bq_e {δ : Type} {o : Option (Option Nat)} {x : Option δ} {f : Nat → Option δ} {r : δ} {G : Prop} (h : bq o x f = some r) (k0 : o = some none → x = some r → G) (k1 : ∀ t, o = some (some t) → f t = some r → G) : G := by
  rcases o with _ | _ | t
  · cases h
  · exact k0 rfl h
  · exact k1 t rfl h
def x_X9_imageAt (p1 : Int32) : Option (Option Nat) := if p1 < 0 then some none else if 3 ≤ p1 then some none else some (some (p1.toNatClampNeg + 1))
theorem img_in {p1 : Int32} (h0 : ¬ p1 < 0) (h3 : ¬ 3 ≤ p1) : vp_in p1 3 ∧ p1.toNatClampNeg < 3 ∧ ¬ nI 3 ≤ p1 := by
  have a1 : (0 : Int) ≤ p1.toInt := by
    have := Int32.not_lt.mp h0
    simpa using Int32.le_iff_toInt_le.mp this
  have a2 : p1.toInt < 3 := by
    have := Int32.lt_iff_toInt_lt.mp (Int32.not_le.mp h3)
    simpa using this
  have a3 : p1.toNatClampNeg < 3 := by show p1.toInt.toNat < 3; omega
  exact ⟨fun q => q.elim h0 (fun q => by omega), a3, h3⟩
theorem imageAt_lt {p1 : Int32} {t : Nat} (h : x_X9_imageAt p1 = some (some t)) : t < 5 := by
  unfold x_X9_imageAt at h
  by_cases h0 : p1 < 0
  · rw [if_pos h0] at h; cases h
  · rw [if_neg h0] at h
    by_cases h3 : 3 ≤ p1
    · rw [if_pos h3] at h; cases h
    · rw [if_neg h3] at h
      have := (img_in h0 h3).2.1
      have h := Option.some.inj (Option.some.inj h)
      omega
set_option maxHeartbeats 4000000 in
set_option maxRecDepth 100000 in
theorem c_X9_imageAt {l : Launch} {E : EV} {X : va_W} {σ : St} {p1 : Int32} {r : Option Nat} (h : x_X9_imageAt p1 = some r) : CM l yX9_imageAt cX9_imageAt 2 (some (.object "FlickedCrates$Stock")) { frames := 0, cells := 0, slots := 0, locals := 0 } [.ref (eA E 0), .int p1] E (wC E σ ++ X) (wC E σ ++ X) (qQ (r.map (fun t => eA E (pS t)))) := by
  refine CM.start (by decide) (Nat.le_of_ble_eq_true rfl) (fun p e s m a below meth c A ls cx hr hlk hV hl => ?_)
  have cx : CallFix p m c cX9_imageAt 2 s a TBL RX9 := cx
  have hx := cx.1
  have hb := cx.2.1
  have hl : lv_has ls 2 [(0, .ref (eA E 0)), (1, .int p1)] := hl
  unfold x_X9_imageAt at h
  refine lv_iload_n hx hb dX9_imageAt_0 rfl (lv_at hl 1 rfl) ?_
  refine lv_if_lt (tgt := 27) hx hb dX9_imageAt_1 (by decide) (fun h0 => ?_) (fun h0 => ?_)
  · rw [if_pos h0] at h
    have h := Option.some.inj h
    subst h
    refine lv_null hx hb dX9_imageAt_27 ?_
    exact r_aretq (r := none) cx hr hlk hV dX9_imageAt_28
  · rw [if_neg h0] at h
    refine lv_iload_n hx hb dX9_imageAt_4 rfl (lv_at hl 1 rfl) ?_
    refine lv_iconst (v := 3) hx hb dX9_imageAt_5 (by decide) ?_
    refine lv_icmp_ge (tgt := 27) hx hb dX9_imageAt_6 (by decide) (fun h3 => ?_) (fun h3 => ?_)
    · rw [if_pos h3] at h
      have h := Option.some.inj h
      subst h
      refine lv_null hx hb dX9_imageAt_27 ?_
      exact r_aretq (r := none) cx hr hlk hV dX9_imageAt_28
    · rw [if_neg h3] at h
      have h := Option.some.inj h
      subst h
      obtain ⟨hin, hlt, h3'⟩ := img_in h0 h3
      refine lv_iload_n hx hb dX9_imageAt_9 rfl (lv_at hl 1 rfl) ?_
      refine lv_aload_n hx hb dX9_imageAt_10 rfl (lv_at hl 0 rfl) ?_
      refine G_X9_album cx hV mk_2_143 dX9_imageAt_11 ?_
      refine va_alen hx hb hV.1 hV.2.2.2.1 27 2 (cA := eO E) rfl (ty := .object "FlickedCrates$Stock") rfl (v := nI 3) rfl dX9_imageAt_14 ?_
      refine lv_icmp_ge (tgt := 27) hx hb dX9_imageAt_15 (by decide) (fun hc => absurd hc h3') (fun _ => ?_)
      refine lv_aload_n hx hb dX9_imageAt_18 rfl (lv_at hl 0 rfl) ?_
      refine G_X9_album cx hV mk_2_143 dX9_imageAt_19 ?_
      refine lv_iload_n hx hb dX9_imageAt_22 rfl (lv_at hl 1 rfl) ?_
      refine va_aldq hx hb hV.1 hV.2.2.2.1 27 2 (cA := eO E) (C := "FlickedCrates$Stock") (f := fun i => if i < 3 then some (eA E (pS (i + 1))) else none) rfl rfl hin dX9_imageAt_23 ?_
      rw [if_pos hlt]
      refine lv_goto (tgt := 28) hx hb dX9_imageAt_24 (by decide) ?_
      exact r_aretq (r := some (eA E (pS (p1.toNatClampNeg + 1)))) cx hr hlk hV dX9_imageAt_28
section IMGR
variable {p : Program} {l : Launch} {e : Env} {R : Room} {s : State} {m : MethodId} {a : Array Value} {below : List Frame} {meth : Method} {c : Code} {H : Heap} {locs : List Loc} {cells slots : Nat} {Q : State → Prop}
variable {cc : ByteArray} {own : String} {nL pc : Nat} {ls : Array Slot} {rest st : List Value} {E : EV} {X : va_W} {σ : St} {A : Nat → Prop}
theorem k_X9_imageAt0 {p1 : Int32} (h : x_X9_imageAt p1 = some none) (cx : CallFix p m c cc nL s a TBL own) (hV : AtW E (wC E σ ++ X) A s H locs) {idx : Nat} (w1 : Cond.methodLink own idx yX9_imageAt ∈ TBL) (hR : 0 + 1 ≤ R.frames ∧ 8 + (2 + 11) + 0 ≤ R.locals) (hcs : cells ≤ R.cells ∧ slots ≤ R.slots) (hls : ls.size = nL) (hcat : (rest.map fun v => v.category).sum ≤ 8) (d : decode cc pc = .ok (.invokevirtual idx, 3))
    (kk : ∀ (H1 : Heap) (locs1 : List Loc), AtW E (wC E σ ++ X) A s H1 locs1 → W p l e R s m a below meth c H1 locs1 cells slots Q (F0 m (pc + 3) ls (.null :: rest))) : W p l e R s m a below meth c H locs cells slots Q (F0 m pc ls (.int p1 :: .ref (eA E 0) :: rest)) :=
  r_anyq (n := 1) (As := [.int p1]) (C := RX9) (c_X9_imageAt h) rfl (va_recv hV.1 hV.2.2.2.1 (ci := 9) (q0 := 0) rfl rfl) mk_3_152 mk_P_14 mk_1_1 mk_3_153 (by decide +kernel) rfl ⟨rfl, rfl⟩ cx hV w1 hR hcs hls rfl hcat d kk
theorem k_X9_imageAt1 {p1 : Int32} {t : Nat} (h : x_X9_imageAt p1 = some (some t)) (cx : CallFix p m c cc nL s a TBL own) (hV : AtW E (wC E σ ++ X) A s H locs) {idx : Nat} (w1 : Cond.methodLink own idx yX9_imageAt ∈ TBL) (hR : 0 + 1 ≤ R.frames ∧ 8 + (2 + 11) + 0 ≤ R.locals) (hcs : cells ≤ R.cells ∧ slots ≤ R.slots) (hls : ls.size = nL) (hcat : (rest.map fun v => v.category).sum ≤ 8) (d : decode cc pc = .ok (.invokevirtual idx, 3))
    (kk : ∀ (H1 : Heap) (locs1 : List Loc), AtW E (wC E σ ++ X) A s H1 locs1 → W p l e R s m a below meth c H1 locs1 cells slots Q (F0 m (pc + 3) ls (.ref (eA E (pS t)) :: rest))) : W p l e R s m a below meth c H locs cells slots Q (F0 m pc ls (.int p1 :: .ref (eA E 0) :: rest)) :=
  r_anyq (n := 1) (As := [.int p1]) (C := RX9) (c_X9_imageAt h) rfl (va_recv hV.1 hV.2.2.2.1 (ci := 9) (q0 := 0) rfl rfl) mk_3_152 mk_P_14 mk_1_1 mk_3_153 (by decide +kernel) rfl ⟨rfl, rfl⟩ cx hV w1 hR hcs hls rfl hcat d kk
end IMGR
