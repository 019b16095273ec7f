/-! the law's world: the class's, the law's own row, the reference's; either first -/
theorem va_P_comm {D : va_G} {cl : List vw_C} {V W9 : va_W} {H : Heap} (h : va_P D cl (V ++ W9) H) : va_P D cl (W9 ++ V) H := by
  intro k q hq
  have hm : q ∈ V ++ W9 := by
    rcases List.mem_append.mp (List.mem_of_getElem? hq) with h | h
    · exact List.mem_append_right _ h
    · exact List.mem_append_left _ h
  obtain ⟨j, hj⟩ := List.getElem?_of_mem hm
  exact h j q hj
theorem va_D_comm {A : Nat → Prop} {V W9 : va_W} (h : va_D A (V ++ W9)) : va_D A (W9 ++ V) := by
  have key : ∀ (i : Nat) (p : Nat × va_E), (W9 ++ V)[i]? = some p → (V ++ W9)[if i < W9.length then V.length + i else i - W9.length]? = some p := by
    intro i p hp
    by_cases hi : i < W9.length
    · rw [if_pos hi]
      rw [List.getElem?_append_left hi] at hp
      rw [List.getElem?_append_right (by omega), Nat.add_sub_cancel_left]
      exact hp
    · rw [if_neg hi]
      rw [List.getElem?_append_right (by omega)] at hp
      have hl := (List.getElem?_eq_some_iff.mp hp).1
      rw [List.getElem?_append_left hl]
      exact hp
  refine ⟨fun i j p q hp hq e => ?_, fun k q hq => h.2 _ q (key k q hq)⟩
  have h1 := h.1 _ _ p q (key i p hp) (key j q hq) e
  have li := (List.getElem?_eq_some_iff.mp hp).1
  have lj := (List.getElem?_eq_some_iff.mp hq).1
  rw [List.length_append] at li lj
  by_cases hi : i < W9.length <;> by_cases hj : j < W9.length <;> simp only [hi, hj, if_true, if_false] at h1 <;> omega
theorem AtW.comm {E : EV} {V W9 : va_W} {A : Nat → Prop} {s : State} {H : Heap} {locs : List Loc} (h : AtW E (V ++ W9) A s H locs) : AtW E (W9 ++ V) A s H locs := ⟨h.1, h.2.1, va_D_comm h.2.2.1, va_P_comm h.2.2.2.1, h.2.2.2.2.1, h.2.2.2.2.2⟩
theorem tb_gW {own : String} {idx : Nat} {y : MethodName} {cc : ByteArray} {n : Nat} {rt : Option FieldType} {hh : List (Nat × Nat × Nat × Nat)} (w1 : Cond.methodLink own idx y ∈ TBL) (w2 : Cond.static y ∈ TBL) (w4 : Cond.initialized y.cls ∈ TBL) (w5 : Cond.codeWith y cc n rt hh ∈ TBL) : GoodIn TBL (va_wsS own idx y (.codeWith y cc n rt hh :: TBL)) := by
  intro w hw
  refine tb_gd ?_
  simp only [va_wsS, List.mem_append, List.mem_cons, List.not_mem_nil, or_false] at hw
  rcases hw with (rfl | rfl | rfl) | rfl | h
  · exact w1
  · exact w2
  · exact w4
  · exact w5
  · exact h
section LAW1
variable {p : Program} {l : Launch} {e : Env} {R : Room} {s : State} {m : MethodId} {a : Array Value} {below : List Frame} {meth : Method} {c : Code} {H : Heap} {locs : List Loc} {cells slots : Nat} {Q : State → Prop}
variable {cc : ByteArray} {own : String} {nL pc : Nat} {ls : Array Slot} {rest st : List Value} {E : EV} {V V' : va_W} {A : Nat → Prop}
theorem r_stW {y : MethodName} {bytes : ByteArray} {maxL idx n mc ms : Nat} {rt : Option FieldType} {hh : List (Nat × Nat × Nat × Nat)} {rm : Room} {As : List Value} {rv : Int32}
    (hM : CW l y bytes maxL rt hh rm As E V V' (qI rv) mc ms) (hadr : V'.map Prod.fst = V.map Prod.fst)
    (w2 : Cond.static y ∈ TBL) (w4 : Cond.initialized y.cls ∈ TBL) (w5 : Cond.codeWith y bytes maxL rt hh ∈ TBL)
    (hd : y.cls ≠ "java/lang/invoke/MethodHandle" ∧ y.cls ≠ "java/lang/invoke/VarHandle" ∧ (parseMethodDescriptor y.desc).map (fun d => d.parameters.length) = some n) (hn : As.length = n) (hrm : rm.cells = mc ∧ rm.slots = ms)
    (cx : CallFix p m c cc nL s a TBL own) (hV : AtW E V A s H locs) (hF : FZ E A s s.heap) (hN : NCs s) (w1 : Cond.methodLink own idx y ∈ TBL) (hR : rm.frames + 1 ≤ R.frames ∧ 8 + (maxL + 11) + rm.locals ≤ R.locals) (hcs : cells + mc ≤ R.cells ∧ slots + ms ≤ R.slots)
    (hls : ls.size = nL) (hst : st = As.reverse ++ rest) (hcat : (rest.map fun v => v.category).sum ≤ 8) (hdg : decode cc pc = .ok (.invokestatic idx, 3))
    (kk : ∀ (H1 : Heap) (locs1 : List Loc), AtW E V' A s H1 locs1 → W p l e R s m a below meth c H1 locs1 (cells + mc) (slots + ms) Q (F0 m (pc + 3) ls (.int rv :: rest))) : W p l e R s m a below meth c H locs cells slots Q (F0 m pc ls st) := by
  refine va_calli (vx_runSW (As := As) (rest := rest) cx (hM H.size) (vx_cwSW n cx.2.2.2.2 (tb_gW w1 w2 w4 w5) rfl hrm.1 hrm.2 hd hR) ⟨PreL.blind, fun U hU hW => ?_⟩ rfl hn hls hst (lv_room hcat) hdg hcs) hV.2.2.2.2.1 (fun q _ h => hV.free q h) hV.free (fun r u t H1 locs1 ht hvm hw hB hz1 hk1 hS => ?_)
  · obtain ⟨h1, h2⟩ := r_preF hV hF (args := As) U hU hW
    exact ⟨h1, h2, fun i j hi hj hn => va_Nc.moved hW.alike (hN i j hi hj hn)⟩
  · cases hw
    exact kk H1 locs1 ⟨hV.1, hV.2.1, va_D_fst hadr hV.2.2.1, by rw [← ht]; exact hB, hS, hV.2.2.2.2.2⟩
end LAW1
