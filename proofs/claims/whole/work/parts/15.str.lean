theorem dJ0_length_8abf5_0 : decode cJ0_length_8abf5 0 = .ok (.aload_n 0, 1) := by decide +kernel
theorem dJ0_length_8abf5_1 : decode cJ0_length_8abf5 1 = .ok (.getfield 9, 3) := by decide +kernel
theorem dJ0_length_8abf5_4 : decode cJ0_length_8abf5 4 = .ok (.arraylength, 1) := by decide +kernel
theorem dJ0_length_8abf5_5 : decode cJ0_length_8abf5 5 = .ok (.aload_n 0, 1) := by decide +kernel
theorem dJ0_length_8abf5_6 : decode cJ0_length_8abf5 6 = .ok (.invokevirtual 335, 3) := by decide +kernel
theorem dJ0_length_8abf5_9 : decode cJ0_length_8abf5 9 = .ok (.ishr, 1) := by decide +kernel
theorem dJ0_length_8abf5_10 : decode cJ0_length_8abf5 10 = .ok (.ireturn, 1) := by decide +kernel
theorem dJ0_charAt_5068e_0 : decode cJ0_charAt_5068e 0 = .ok (.aload_n 0, 1) := by decide +kernel
theorem dJ0_charAt_5068e_1 : decode cJ0_charAt_5068e 1 = .ok (.invokevirtual 492, 3) := by decide +kernel
theorem dJ0_charAt_5068e_4 : decode cJ0_charAt_5068e 4 = .ok (.ifCond .eq 12, 3) := by decide +kernel
theorem dJ0_charAt_5068e_7 : decode cJ0_charAt_5068e 7 = .ok (.aload_n 0, 1) := by decide +kernel
theorem dJ0_charAt_5068e_8 : decode cJ0_charAt_5068e 8 = .ok (.getfield 9, 3) := by decide +kernel
theorem dJ0_charAt_5068e_11 : decode cJ0_charAt_5068e 11 = .ok (.iload_n 1, 1) := by decide +kernel
theorem dJ0_charAt_5068e_12 : decode cJ0_charAt_5068e 12 = .ok (.invokestatic 495, 3) := by decide +kernel
theorem dJ0_charAt_5068e_15 : decode cJ0_charAt_5068e 15 = .ok (.ireturn, 1) := by decide +kernel
theorem dJ0_charAt_5068e_16 : decode cJ0_charAt_5068e 16 = .ok (.aload_n 0, 1) := by decide +kernel
theorem dJ0_charAt_5068e_17 : decode cJ0_charAt_5068e 17 = .ok (.getfield 9, 3) := by decide +kernel
theorem dJ0_charAt_5068e_20 : decode cJ0_charAt_5068e 20 = .ok (.iload_n 1, 1) := by decide +kernel
theorem dJ0_charAt_5068e_21 : decode cJ0_charAt_5068e 21 = .ok (.invokestatic 498, 3) := by decide +kernel
theorem dJ0_charAt_5068e_24 : decode cJ0_charAt_5068e 24 = .ok (.ireturn, 1) := by decide +kernel
theorem dJ0_coder_7d493_0 : decode cJ0_coder_7d493 0 = .ok (.getstatic 38, 3) := by decide +kernel
theorem dJ0_coder_7d493_3 : decode cJ0_coder_7d493 3 = .ok (.ifCond .eq 10, 3) := by decide +kernel
theorem dJ0_coder_7d493_6 : decode cJ0_coder_7d493 6 = .ok (.aload_n 0, 1) := by decide +kernel
theorem dJ0_coder_7d493_7 : decode cJ0_coder_7d493 7 = .ok (.getfield 15, 3) := by decide +kernel
theorem dJ0_coder_7d493_10 : decode cJ0_coder_7d493 10 = .ok (.goto 4, 3) := by decide +kernel
theorem dJ0_coder_7d493_13 : decode cJ0_coder_7d493 13 = .ok (.iconst 1, 1) := by decide +kernel
theorem dJ0_coder_7d493_14 : decode cJ0_coder_7d493 14 = .ok (.ireturn, 1) := by decide +kernel
theorem dJ0_isLatin1_aae02_0 : decode cJ0_isLatin1_aae02 0 = .ok (.getstatic 38, 3) := by decide +kernel
theorem dJ0_isLatin1_aae02_3 : decode cJ0_isLatin1_aae02 3 = .ok (.ifCond .eq 14, 3) := by decide +kernel
theorem dJ0_isLatin1_aae02_6 : decode cJ0_isLatin1_aae02 6 = .ok (.aload_n 0, 1) := by decide +kernel
theorem dJ0_isLatin1_aae02_7 : decode cJ0_isLatin1_aae02 7 = .ok (.getfield 15, 3) := by decide +kernel
theorem dJ0_isLatin1_aae02_10 : decode cJ0_isLatin1_aae02 10 = .ok (.ifCond .ne 7, 3) := by decide +kernel
theorem dJ0_isLatin1_aae02_13 : decode cJ0_isLatin1_aae02 13 = .ok (.iconst 1, 1) := by decide +kernel
theorem dJ0_isLatin1_aae02_14 : decode cJ0_isLatin1_aae02 14 = .ok (.goto 4, 3) := by decide +kernel
theorem dJ0_isLatin1_aae02_17 : decode cJ0_isLatin1_aae02 17 = .ok (.iconst 0, 1) := by decide +kernel
theorem dJ0_isLatin1_aae02_18 : decode cJ0_isLatin1_aae02 18 = .ok (.ireturn, 1) := by decide +kernel
theorem dJ1_charAt_3b067_0 : decode cJ1_charAt_3b067 0 = .ok (.iload_n 1, 1) := by decide +kernel
theorem dJ1_charAt_3b067_1 : decode cJ1_charAt_3b067 1 = .ok (.aload_n 0, 1) := by decide +kernel
theorem dJ1_charAt_3b067_2 : decode cJ1_charAt_3b067 2 = .ok (.arraylength, 1) := by decide +kernel
theorem dJ1_charAt_3b067_3 : decode cJ1_charAt_3b067 3 = .ok (.invokestatic 9, 3) := by decide +kernel
theorem dJ1_charAt_3b067_6 : decode cJ1_charAt_3b067 6 = .ok (.aload_n 0, 1) := by decide +kernel
theorem dJ1_charAt_3b067_7 : decode cJ1_charAt_3b067 7 = .ok (.iload_n 1, 1) := by decide +kernel
theorem dJ1_charAt_3b067_8 : decode cJ1_charAt_3b067 8 = .ok (.baload, 1) := by decide +kernel
theorem dJ1_charAt_3b067_9 : decode cJ1_charAt_3b067 9 = .ok (.sipush 255, 3) := by decide +kernel
theorem dJ1_charAt_3b067_12 : decode cJ1_charAt_3b067 12 = .ok (.iand, 1) := by decide +kernel
theorem dJ1_charAt_3b067_13 : decode cJ1_charAt_3b067 13 = .ok (.i2c, 1) := by decide +kernel
theorem dJ1_charAt_3b067_14 : decode cJ1_charAt_3b067 14 = .ok (.ireturn, 1) := by decide +kernel
theorem dJ0_checkIndex_df160_0 : decode cJ0_checkIndex_df160 0 = .ok (.iload_n 0, 1) := by decide +kernel
theorem dJ0_checkIndex_df160_1 : decode cJ0_checkIndex_df160 1 = .ok (.iload_n 1, 1) := by decide +kernel
theorem dJ0_checkIndex_df160_2 : decode cJ0_checkIndex_df160 2 = .ok (.getstatic 1053, 3) := by decide +kernel
theorem dJ0_checkIndex_df160_5 : decode cJ0_checkIndex_df160 5 = .ok (.invokestatic 1059, 3) := by decide +kernel
theorem dJ0_checkIndex_df160_8 : decode cJ0_checkIndex_df160 8 = .ok (.pop, 1) := by decide +kernel
theorem dJ0_checkIndex_df160_9 : decode cJ0_checkIndex_df160 9 = .ok (.return_, 1) := by decide +kernel
theorem dJ3_checkIndex_8e157_0 : decode cJ3_checkIndex_8e157 0 = .ok (.iload_n 0, 1) := by decide +kernel
theorem dJ3_checkIndex_8e157_1 : decode cJ3_checkIndex_8e157 1 = .ok (.ifCond .lt 8, 3) := by decide +kernel
theorem dJ3_checkIndex_8e157_4 : decode cJ3_checkIndex_8e157 4 = .ok (.iload_n 0, 1) := by decide +kernel
theorem dJ3_checkIndex_8e157_5 : decode cJ3_checkIndex_8e157 5 = .ok (.iload_n 1, 1) := by decide +kernel
theorem dJ3_checkIndex_8e157_6 : decode cJ3_checkIndex_8e157 6 = .ok (.if_icmp .lt 10, 3) := by decide +kernel
theorem dJ3_checkIndex_8e157_9 : decode cJ3_checkIndex_8e157 9 = .ok (.aload_n 2, 1) := by decide +kernel
theorem dJ3_checkIndex_8e157_10 : decode cJ3_checkIndex_8e157 10 = .ok (.iload_n 0, 1) := by decide +kernel
theorem dJ3_checkIndex_8e157_11 : decode cJ3_checkIndex_8e157 11 = .ok (.iload_n 1, 1) := by decide +kernel
theorem dJ3_checkIndex_8e157_12 : decode cJ3_checkIndex_8e157 12 = .ok (.invokestatic 95, 3) := by decide +kernel
theorem dJ3_checkIndex_8e157_15 : decode cJ3_checkIndex_8e157 15 = .ok (.athrow, 1) := by decide +kernel
theorem dJ3_checkIndex_8e157_16 : decode cJ3_checkIndex_8e157 16 = .ok (.iload_n 0, 1) := by decide +kernel
theorem dJ3_checkIndex_8e157_17 : decode cJ3_checkIndex_8e157 17 = .ok (.ireturn, 1) := by decide +kernel
/-! the String constants' own methods, as far as they are asked: length, charAt -/
def chS (i k : Nat) : Int32 := (bytS.getD i []).getD k 0
theorem chS_ok : ∀ i, i < 9 → ∀ k, k < lenS.getD i 0 → ((chS i k &&& 255).toUInt32 % 65536).toInt32 = chS i k ∧ narrow .char (.int (chS i k)) = .int (chS i k) := by decide +kernel
theorem lenS_ok : ∀ i, i < 9 → nI (lenS.getD i 0) >>> ((0 : Int32) &&& 31) = nI (lenS.getD i 0) := by decide +kernel
theorem lenS_sm : ∀ i, i < 9 → lenS.getD i 0 < 7 := by decide +kernel
def qQ (r : Option Nat) : qT := fun B A => va_Qq (fun (r' : Option Nat) (_ : Unit) => r' = r) (fun _ t => B t) A
def x_J0_length_8abf5 (i : Nat) : Option Int32 := some (nI (lenS.getD i 0))
def x_J0_charAt_5068e (i : Nat) (k : Int32) : Option Int32 := if k < 0 ∨ lenS.getD i 0 ≤ k.toNatClampNeg then none else some (chS i k.toNatClampNeg)
theorem x_charAt_e {i : Nat} {k v : Int32} (h : x_J0_charAt_5068e i k = some v) : vp_in k (lenS.getD i 0) ∧ v = chS i k.toNatClampNeg := by
  unfold x_J0_charAt_5068e at h
  by_cases hc : k < 0 ∨ lenS.getD i 0 ≤ k.toNatClampNeg
  · rw [if_pos hc] at h; cases h
  · rw [if_neg hc] at h; cases h; exact ⟨hc, rfl⟩
theorem vp_lt {k : Int32} {n : Nat} (h : vp_in k n) (hn : n < 2 ^ 31) : k < nI n := by
  have h1 : ¬ k < 0 := fun q => h (Or.inl q)
  have h2 : k.toNatClampNeg < n := Nat.not_le.mp fun q => h (Or.inr q)
  have h3 : (0 : Int) ≤ k.toInt := by
    have := Int32.not_lt.mp h1
    simpa using Int32.le_iff_toInt_le.mp this
  have h4 : k.toInt = ((k.toInt.toNat : Nat) : Int) := by omega
  have h5 : k.toInt.toNat < n := h2
  rw [Int32.lt_iff_toInt_lt, nI_toInt hn]
  omega
section STRR
variable {p : Program} {l : Launch} {e : Env} {R : Room} {s : State} {m : MethodId} {a : Array Value} {below : List Frame} {meth : Method} {c : Code} {H : Heap} {locs : List Loc} {cells slots : Nat} {Q : State → Prop}
variable {cc : ByteArray} {own : String} {nL pc : Nat} {ls : Array Slot} {rest st : List Value} {E : EV} {V V' : va_W} {A : Nat → Prop}
theorem r_aretq (cx : CallFix p m c cc nL s a TBL own) {n : String} (hr : meth.sig.returnType = some (.object n)) (hlk : meth.locks = false) (hV : AtW E V A s H locs) {r : Option Nat} (d : decode cc pc = .ok (.areturn, 1)) : W p l e R s m a below meth c H locs 0 0 (EQ E V (qQ r) A s a below) (F0 m pc ls [va_rf r]) :=
  W.aret cx.1 cx.2.1 hr (Or.inl ⟨n, rfl⟩) (va_rf_or r) (fun t ht hWm => ⟨⟨r, (), rfl, rfl, by show va_P _ _ _ _; rw [ht]; exact hV.2.2.2.1⟩, hV.2.2.2.2.1.F ht⟩) hV.2.2.2.2.1.2.2 d hlk
theorem r_nret (cx : CallFix p m c cc nL s a TBL own) {ty : FieldType} (hr : meth.sig.returnType = some ty) (hlk : meth.locks = false) (hV : AtW E V A s H locs) {rv : Int32} (hn : narrow ty (.int rv) = .int rv) (d : decode cc pc = .ok (.ireturn, 1)) : W p l e R s m a below meth c H locs 0 0 (EQ E V (qI rv) A s a below) (F0 m pc ls [.int rv]) :=
  W.zret cx.1 cx.2.1 hr hn (fun t ht hWm => ⟨⟨rv, (), rfl, rfl, by show va_P _ _ _ _; rw [ht]; exact hV.2.2.2.1⟩, hV.2.2.2.2.1.F ht⟩) hV.2.2.2.2.1.2.2 d hlk
theorem r_anyi {y : MethodName} {bytes : ByteArray} {maxL idx n : Nat} {a0 : Nat} {C : String} {rt : Option FieldType} {rm : Room} {As : List Value} {rv : Int32}
    (hM : CM l y bytes maxL rt rm (.ref a0 :: As) E V V' (qI rv)) (hadr : V'.map Prod.fst = V.map Prod.fst) (hq : ∃ cellB : Cell, H[a0]? = some cellB ∧ cellB.vm.isStatics = false ∧ s.vm.findClass C = some cellB.cls)
    (w2 : Cond.instanceMethod y ∈ TBL) (w3 : Cond.selects C y y ∈ TBL) (w4 : Cond.initialized C ∈ TBL) (w5 : Cond.code y bytes maxL rt ∈ TBL)
    (hd : y.cls = C ∧ y.cls ≠ "java/lang/invoke/MethodHandle" ∧ y.cls ≠ "java/lang/invoke/VarHandle" ∧ (parseMethodDescriptor y.desc).map (fun d => d.parameters.length) = some n) (hn : As.length = n) (hrm : rm.cells = 0 ∧ rm.slots = 0)
    (cx : CallFix p m c cc nL s a TBL own) (hV : AtW E V A s H locs) (w1 : Cond.methodLink own idx y ∈ TBL) (hR : rm.frames + 1 ≤ R.frames ∧ 8 + (maxL + 11) + rm.locals ≤ R.locals) (hcs : cells ≤ R.cells ∧ slots ≤ R.slots)
    (hls : ls.size = nL) (hst : st = As.reverse ++ .ref a0 :: rest) (hcat : (rest.map fun v => v.category).sum ≤ 8) (hdg : decode cc pc = .ok (.invokevirtual idx, 3))
    (kk : ∀ (H1 : Heap) (locs1 : List Loc), AtW E V' A s H1 locs1 → W p l e R s m a below meth c H1 locs1 cells slots Q (F0 m (pc + 3) ls (.int rv :: rest))) : W p l e R s m a below meth c H locs cells slots Q (F0 m pc ls st) := by
  refine va_calli (va_runV (As := As) (rest := rest) cx (hM H.size) (cwV n cx.2.2.2.2 (tb_gV w1 w2 w3 w4 w5) rfl hrm.1 hrm.2 hd hR) ⟨PreW.blind, hq, r_pre hV⟩ rfl hn hls hst (lv_room hcat) hdg hcs) hV.2.2.2.2.1 (fun q _ h => hV.free q h) hV.free (fun r u t H1 locs1 ht hvm hw hB hz1 hk1 hS => ?_)
  cases hw
  exact kk H1 locs1 ⟨hV.1, hV.2.1, va_D_fst hadr hV.2.2.1, by rw [← ht]; exact hB, hS, hV.2.2.2.2.2⟩
theorem r_stFi {y : MethodName} {bytes : ByteArray} {maxL idx n : Nat} {rt : Option FieldType} {rm : Room} {As : List Value} {rv : Int32}
    (hM : CMF l y bytes maxL rt rm As E V V' (qI rv)) (hadr : V'.map Prod.fst = V.map Prod.fst)
    (w2 : Cond.static y ∈ TBL) (w4 : Cond.initialized y.cls ∈ TBL) (w5 : Cond.code y bytes maxL rt ∈ TBL)
    (hd : y.cls ≠ "java/lang/invoke/MethodHandle" ∧ y.cls ≠ "java/lang/invoke/VarHandle" ∧ (parseMethodDescriptor y.desc).map (fun d => d.parameters.length) = some n) (hn : As.length = n) (hrm : rm.cells = 0 ∧ rm.slots = 0)
    (cx : CallFix p m c cc nL s a TBL own) (hV : AtW E V A s H locs) (hF : FZ E A s s.heap) (w1 : Cond.methodLink own idx y ∈ TBL) (hR : rm.frames + 1 ≤ R.frames ∧ 8 + (maxL + 11) + rm.locals ≤ R.locals) (hcs : cells ≤ R.cells ∧ slots ≤ R.slots)
    (hls : ls.size = nL) (hst : st = As.reverse ++ rest) (hcat : (rest.map fun v => v.category).sum ≤ 8) (hdg : decode cc pc = .ok (.invokestatic idx, 3))
    (kk : ∀ (H1 : Heap) (locs1 : List Loc), AtW E V' A s H1 locs1 → W p l e R s m a below meth c H1 locs1 cells slots Q (F0 m (pc + 3) ls (.int rv :: rest))) : W p l e R s m a below meth c H locs cells slots Q (F0 m pc ls st) := by
  refine va_calli (va_runS (As := As) (rest := rest) cx (hM H.size) (va_cwS n cx.2.2.2.2 (tb_gT w1 w2 w4 w5) rfl hrm.1 hrm.2 hd hR) ⟨PreF.blind, r_preF hV hF⟩ rfl hn hls hst (lv_room hcat) hdg hcs) hV.2.2.2.2.1 (fun q _ h => hV.free q h) hV.free (fun r u t H1 locs1 ht hvm hw hB hz1 hk1 hS => ?_)
  cases hw
  exact kk H1 locs1 ⟨hV.1, hV.2.1, va_D_fst hadr hV.2.2.1, by rw [← ht]; exact hB, hS, hV.2.2.2.2.2⟩
theorem r_anyFi {y : MethodName} {bytes : ByteArray} {maxL idx n : Nat} {a0 : Nat} {C : String} {rt : Option FieldType} {rm : Room} {As : List Value} {rv : Int32}
    (hM : CMF l y bytes maxL rt rm (.ref a0 :: As) E V V' (qI rv)) (hadr : V'.map Prod.fst = V.map Prod.fst) (hq : ∃ cellB : Cell, H[a0]? = some cellB ∧ cellB.vm.isStatics = false ∧ s.vm.findClass C = some cellB.cls)
    (w2 : Cond.instanceMethod y ∈ TBL) (w3 : Cond.selects C y y ∈ TBL) (w4 : Cond.initialized C ∈ TBL) (w5 : Cond.code y bytes maxL rt ∈ TBL)
    (hd : y.cls = C ∧ y.cls ≠ "java/lang/invoke/MethodHandle" ∧ y.cls ≠ "java/lang/invoke/VarHandle" ∧ (parseMethodDescriptor y.desc).map (fun d => d.parameters.length) = some n) (hn : As.length = n) (hrm : rm.cells = 0 ∧ rm.slots = 0)
    (cx : CallFix p m c cc nL s a TBL own) (hV : AtW E V A s H locs) (hF : FZ E A s s.heap) (w1 : Cond.methodLink own idx y ∈ TBL) (hR : rm.frames + 1 ≤ R.frames ∧ 8 + (maxL + 11) + rm.locals ≤ R.locals) (hcs : cells ≤ R.cells ∧ slots ≤ R.slots)
    (hls : ls.size = nL) (hst : st = As.reverse ++ .ref a0 :: rest) (hcat : (rest.map fun v => v.category).sum ≤ 8) (hdg : decode cc pc = .ok (.invokevirtual idx, 3))
    (kk : ∀ (H1 : Heap) (locs1 : List Loc), AtW E V' A s H1 locs1 → W p l e R s m a below meth c H1 locs1 cells slots Q (F0 m (pc + 3) ls (.int rv :: rest))) : W p l e R s m a below meth c H locs cells slots Q (F0 m pc ls st) := by
  refine va_calli (va_runV (As := As) (rest := rest) cx (hM H.size) (cwV n cx.2.2.2.2 (tb_gV w1 w2 w3 w4 w5) rfl hrm.1 hrm.2 hd hR) ⟨PreF.blind, hq, r_preF hV hF⟩ rfl hn hls hst (lv_room hcat) hdg hcs) hV.2.2.2.2.1 (fun q _ h => hV.free q h) hV.free (fun r u t H1 locs1 ht hvm hw hB hz1 hk1 hS => ?_)
  cases hw
  exact kk H1 locs1 ⟨hV.1, hV.2.1, va_D_fst hadr hV.2.2.1, by rw [← ht]; exact hB, hS, hV.2.2.2.2.2⟩
theorem r_stv {y : MethodName} {bytes : ByteArray} {maxL idx n : Nat} {rt : Option FieldType} {rm : Room} {As : List Value}
    (hM : CM l y bytes maxL rt rm As E V V' qV) (hadr : V'.map Prod.fst = V.map Prod.fst)
    (w2 : Cond.static y ∈ TBL) (w4 : Cond.initialized y.cls ∈ TBL) (w5 : Cond.code y bytes maxL rt ∈ TBL)
    (hd : y.cls ≠ "java/lang/invoke/MethodHandle" ∧ y.cls ≠ "java/lang/invoke/VarHandle" ∧ (parseMethodDescriptor y.desc).map (fun d => d.parameters.length) = some n) (hn : As.length = n) (hrm : rm.cells = 0 ∧ rm.slots = 0)
    (cx : CallFix p m c cc nL s a TBL own) (hV : AtW E V A s H locs) (w1 : Cond.methodLink own idx y ∈ TBL) (hR : rm.frames + 1 ≤ R.frames ∧ 8 + (maxL + 11) + rm.locals ≤ R.locals) (hcs : cells ≤ R.cells ∧ slots ≤ R.slots)
    (hls : ls.size = nL) (hst : st = As.reverse ++ rest) (hcat : (rest.map fun v => v.category).sum ≤ 8) (hdg : decode cc pc = .ok (.invokestatic idx, 3))
    (kk : ∀ (H1 : Heap) (locs1 : List Loc), AtW E V' A s H1 locs1 → W p l e R s m a below meth c H1 locs1 cells slots Q (F0 m (pc + 3) ls (rest))) : W p l e R s m a below meth c H locs cells slots Q (F0 m pc ls st) := by
  refine va_callv (va_runS (As := As) (rest := rest) cx (hM H.size) (va_cwS n cx.2.2.2.2 (tb_gT w1 w2 w4 w5) rfl hrm.1 hrm.2 hd hR) ⟨PreW.blind, r_pre hV⟩ rfl hn hls hst (lv_room hcat) hdg hcs) hV.2.2.2.2.1 (fun q _ h => hV.free q h) hV.free (fun u t H1 locs1 ht hvm hw hB hz1 hk1 hS => ?_)
  exact kk H1 locs1 ⟨hV.1, hV.2.1, va_D_fst hadr hV.2.2.1, by rw [← ht]; exact hB, hS, hV.2.2.2.2.2⟩
theorem r_anyv {y : MethodName} {bytes : ByteArray} {maxL idx n : Nat} {a0 : Nat} {C : String} {rt : Option FieldType} {rm : Room} {As : List Value}
    (hM : CM l y bytes maxL rt rm (.ref a0 :: As) E V V' qV) (hadr : V'.map Prod.fst = V.map Prod.fst) (hq : ∃ cellB : Cell, H[a0]? = some cellB ∧ cellB.vm.isStatics = false ∧ s.vm.findClass C = some cellB.cls)
    (w2 : Cond.instanceMethod y ∈ TBL) (w3 : Cond.selects C y y ∈ TBL) (w4 : Cond.initialized C ∈ TBL) (w5 : Cond.code y bytes maxL rt ∈ TBL)
    (hd : y.cls = C ∧ y.cls ≠ "java/lang/invoke/MethodHandle" ∧ y.cls ≠ "java/lang/invoke/VarHandle" ∧ (parseMethodDescriptor y.desc).map (fun d => d.parameters.length) = some n) (hn : As.length = n) (hrm : rm.cells = 0 ∧ rm.slots = 0)
    (cx : CallFix p m c cc nL s a TBL own) (hV : AtW E V A s H locs) (w1 : Cond.methodLink own idx y ∈ TBL) (hR : rm.frames + 1 ≤ R.frames ∧ 8 + (maxL + 11) + rm.locals ≤ R.locals) (hcs : cells ≤ R.cells ∧ slots ≤ R.slots)
    (hls : ls.size = nL) (hst : st = As.reverse ++ .ref a0 :: rest) (hcat : (rest.map fun v => v.category).sum ≤ 8) (hdg : decode cc pc = .ok (.invokevirtual idx, 3))
    (kk : ∀ (H1 : Heap) (locs1 : List Loc), AtW E V' A s H1 locs1 → W p l e R s m a below meth c H1 locs1 cells slots Q (F0 m (pc + 3) ls (rest))) : W p l e R s m a below meth c H locs cells slots Q (F0 m pc ls st) := by
  refine va_callv (va_runV (As := As) (rest := rest) cx (hM H.size) (cwV n cx.2.2.2.2 (tb_gV w1 w2 w3 w4 w5) rfl hrm.1 hrm.2 hd hR) ⟨PreW.blind, hq, r_pre hV⟩ rfl hn hls hst (lv_room hcat) hdg hcs) hV.2.2.2.2.1 (fun q _ h => hV.free q h) hV.free (fun u t H1 locs1 ht hvm hw hB hz1 hk1 hS => ?_)
  exact kk H1 locs1 ⟨hV.1, hV.2.1, va_D_fst hadr hV.2.2.1, by rw [← ht]; exact hB, hS, hV.2.2.2.2.2⟩
theorem r_stFv {y : MethodName} {bytes : ByteArray} {maxL idx n : Nat} {rt : Option FieldType} {rm : Room} {As : List Value}
    (hM : CMF l y bytes maxL rt rm As E V V' qV) (hadr : V'.map Prod.fst = V.map Prod.fst)
    (w2 : Cond.static y ∈ TBL) (w4 : Cond.initialized y.cls ∈ TBL) (w5 : Cond.code y bytes maxL rt ∈ TBL)
    (hd : y.cls ≠ "java/lang/invoke/MethodHandle" ∧ y.cls ≠ "java/lang/invoke/VarHandle" ∧ (parseMethodDescriptor y.desc).map (fun d => d.parameters.length) = some n) (hn : As.length = n) (hrm : rm.cells = 0 ∧ rm.slots = 0)
    (cx : CallFix p m c cc nL s a TBL own) (hV : AtW E V A s H locs) (hF : FZ E A s s.heap) (w1 : Cond.methodLink own idx y ∈ TBL) (hR : rm.frames + 1 ≤ R.frames ∧ 8 + (maxL + 11) + rm.locals ≤ R.locals) (hcs : cells ≤ R.cells ∧ slots ≤ R.slots)
    (hls : ls.size = nL) (hst : st = As.reverse ++ rest) (hcat : (rest.map fun v => v.category).sum ≤ 8) (hdg : decode cc pc = .ok (.invokestatic idx, 3))
    (kk : ∀ (H1 : Heap) (locs1 : List Loc), AtW E V' A s H1 locs1 → W p l e R s m a below meth c H1 locs1 cells slots Q (F0 m (pc + 3) ls (rest))) : W p l e R s m a below meth c H locs cells slots Q (F0 m pc ls st) := by
  refine va_callv (va_runS (As := As) (rest := rest) cx (hM H.size) (va_cwS n cx.2.2.2.2 (tb_gT w1 w2 w4 w5) rfl hrm.1 hrm.2 hd hR) ⟨PreF.blind, r_preF hV hF⟩ rfl hn hls hst (lv_room hcat) hdg hcs) hV.2.2.2.2.1 (fun q _ h => hV.free q h) hV.free (fun u t H1 locs1 ht hvm hw hB hz1 hk1 hS => ?_)
  exact kk H1 locs1 ⟨hV.1, hV.2.1, va_D_fst hadr hV.2.2.1, by rw [← ht]; exact hB, hS, hV.2.2.2.2.2⟩
theorem r_anyFv {y : MethodName} {bytes : ByteArray} {maxL idx n : Nat} {a0 : Nat} {C : String} {rt : Option FieldType} {rm : Room} {As : List Value}
    (hM : CMF l y bytes maxL rt rm (.ref a0 :: As) E V V' qV) (hadr : V'.map Prod.fst = V.map Prod.fst) (hq : ∃ cellB : Cell, H[a0]? = some cellB ∧ cellB.vm.isStatics = false ∧ s.vm.findClass C = some cellB.cls)
    (w2 : Cond.instanceMethod y ∈ TBL) (w3 : Cond.selects C y y ∈ TBL) (w4 : Cond.initialized C ∈ TBL) (w5 : Cond.code y bytes maxL rt ∈ TBL)
    (hd : y.cls = C ∧ y.cls ≠ "java/lang/invoke/MethodHandle" ∧ y.cls ≠ "java/lang/invoke/VarHandle" ∧ (parseMethodDescriptor y.desc).map (fun d => d.parameters.length) = some n) (hn : As.length = n) (hrm : rm.cells = 0 ∧ rm.slots = 0)
    (cx : CallFix p m c cc nL s a TBL own) (hV : AtW E V A s H locs) (hF : FZ E A s s.heap) (w1 : Cond.methodLink own idx y ∈ TBL) (hR : rm.frames + 1 ≤ R.frames ∧ 8 + (maxL + 11) + rm.locals ≤ R.locals) (hcs : cells ≤ R.cells ∧ slots ≤ R.slots)
    (hls : ls.size = nL) (hst : st = As.reverse ++ .ref a0 :: rest) (hcat : (rest.map fun v => v.category).sum ≤ 8) (hdg : decode cc pc = .ok (.invokevirtual idx, 3))
    (kk : ∀ (H1 : Heap) (locs1 : List Loc), AtW E V' A s H1 locs1 → W p l e R s m a below meth c H1 locs1 cells slots Q (F0 m (pc + 3) ls (rest))) : W p l e R s m a below meth c H locs cells slots Q (F0 m pc ls st) := by
  refine va_callv (va_runV (As := As) (rest := rest) cx (hM H.size) (cwV n cx.2.2.2.2 (tb_gV w1 w2 w3 w4 w5) rfl hrm.1 hrm.2 hd hR) ⟨PreF.blind, hq, r_preF hV hF⟩ rfl hn hls hst (lv_room hcat) hdg hcs) hV.2.2.2.2.1 (fun q _ h => hV.free q h) hV.free (fun u t H1 locs1 ht hvm hw hB hz1 hk1 hS => ?_)
  exact kk H1 locs1 ⟨hV.1, hV.2.1, va_D_fst hadr hV.2.2.1, by rw [← ht]; exact hB, hS, hV.2.2.2.2.2⟩
theorem r_stq {y : MethodName} {bytes : ByteArray} {maxL idx n : Nat} {rt : Option FieldType} {rm : Room} {As : List Value} {r : Option Nat}
    (hM : CM l y bytes maxL rt rm As E V V' (qQ r)) (hadr : V'.map Prod.fst = V.map Prod.fst)
    (w2 : Cond.static y ∈ TBL) (w4 : Cond.initialized y.cls ∈ TBL) (w5 : Cond.code y bytes maxL rt ∈ TBL)
    (hd : y.cls ≠ "java/lang/invoke/MethodHandle" ∧ y.cls ≠ "java/lang/invoke/VarHandle" ∧ (parseMethodDescriptor y.desc).map (fun d => d.parameters.length) = some n) (hn : As.length = n) (hrm : rm.cells = 0 ∧ rm.slots = 0)
    (cx : CallFix p m c cc nL s a TBL own) (hV : AtW E V A s H locs) (w1 : Cond.methodLink own idx y ∈ TBL) (hR : rm.frames + 1 ≤ R.frames ∧ 8 + (maxL + 11) + rm.locals ≤ R.locals) (hcs : cells ≤ R.cells ∧ slots ≤ R.slots)
    (hls : ls.size = nL) (hst : st = As.reverse ++ rest) (hcat : (rest.map fun v => v.category).sum ≤ 8) (hdg : decode cc pc = .ok (.invokestatic idx, 3))
    (kk : ∀ (H1 : Heap) (locs1 : List Loc), AtW E V' A s H1 locs1 → W p l e R s m a below meth c H1 locs1 cells slots Q (F0 m (pc + 3) ls (va_rf r :: rest))) : W p l e R s m a below meth c H locs cells slots Q (F0 m pc ls st) := by
  refine va_callq (va_runS (As := As) (rest := rest) cx (hM H.size) (va_cwS n cx.2.2.2.2 (tb_gT w1 w2 w4 w5) rfl hrm.1 hrm.2 hd hR) ⟨PreW.blind, r_pre hV⟩ rfl hn hls hst (lv_room hcat) hdg hcs) hV.2.2.2.2.1 (fun q _ h => hV.free q h) hV.free (fun r u t H1 locs1 ht hvm hw hB hz1 hk1 hS => ?_)
  cases hw
  exact kk H1 locs1 ⟨hV.1, hV.2.1, va_D_fst hadr hV.2.2.1, by rw [← ht]; exact hB, hS, hV.2.2.2.2.2⟩
theorem r_anyq {y : MethodName} {bytes : ByteArray} {maxL idx n : Nat} {a0 : Nat} {C : String} {rt : Option FieldType} {rm : Room} {As : List Value} {r : Option Nat}
    (hM : CM l y bytes maxL rt rm (.ref a0 :: As) E V V' (qQ r)) (hadr : V'.map Prod.fst = V.map Prod.fst) (hq : ∃ cellB : Cell, H[a0]? = some cellB ∧ cellB.vm.isStatics = false ∧ s.vm.findClass C = some cellB.cls)
    (w2 : Cond.instanceMethod y ∈ TBL) (w3 : Cond.selects C y y ∈ TBL) (w4 : Cond.initialized C ∈ TBL) (w5 : Cond.code y bytes maxL rt ∈ TBL)
    (hd : y.cls = C ∧ y.cls ≠ "java/lang/invoke/MethodHandle" ∧ y.cls ≠ "java/lang/invoke/VarHandle" ∧ (parseMethodDescriptor y.desc).map (fun d => d.parameters.length) = some n) (hn : As.length = n) (hrm : rm.cells = 0 ∧ rm.slots = 0)
    (cx : CallFix p m c cc nL s a TBL own) (hV : AtW E V A s H locs) (w1 : Cond.methodLink own idx y ∈ TBL) (hR : rm.frames + 1 ≤ R.frames ∧ 8 + (maxL + 11) + rm.locals ≤ R.locals) (hcs : cells ≤ R.cells ∧ slots ≤ R.slots)
    (hls : ls.size = nL) (hst : st = As.reverse ++ .ref a0 :: rest) (hcat : (rest.map fun v => v.category).sum ≤ 8) (hdg : decode cc pc = .ok (.invokevirtual idx, 3))
    (kk : ∀ (H1 : Heap) (locs1 : List Loc), AtW E V' A s H1 locs1 → W p l e R s m a below meth c H1 locs1 cells slots Q (F0 m (pc + 3) ls (va_rf r :: rest))) : W p l e R s m a below meth c H locs cells slots Q (F0 m pc ls st) := by
  refine va_callq (va_runV (As := As) (rest := rest) cx (hM H.size) (cwV n cx.2.2.2.2 (tb_gV w1 w2 w3 w4 w5) rfl hrm.1 hrm.2 hd hR) ⟨PreW.blind, hq, r_pre hV⟩ rfl hn hls hst (lv_room hcat) hdg hcs) hV.2.2.2.2.1 (fun q _ h => hV.free q h) hV.free (fun r u t H1 locs1 ht hvm hw hB hz1 hk1 hS => ?_)
  cases hw
  exact kk H1 locs1 ⟨hV.1, hV.2.1, va_D_fst hadr hV.2.2.1, by rw [← ht]; exact hB, hS, hV.2.2.2.2.2⟩
theorem r_stFq {y : MethodName} {bytes : ByteArray} {maxL idx n : Nat} {rt : Option FieldType} {rm : Room} {As : List Value} {r : Option Nat}
    (hM : CMF l y bytes maxL rt rm As E V V' (qQ r)) (hadr : V'.map Prod.fst = V.map Prod.fst)
    (w2 : Cond.static y ∈ TBL) (w4 : Cond.initialized y.cls ∈ TBL) (w5 : Cond.code y bytes maxL rt ∈ TBL)
    (hd : y.cls ≠ "java/lang/invoke/MethodHandle" ∧ y.cls ≠ "java/lang/invoke/VarHandle" ∧ (parseMethodDescriptor y.desc).map (fun d => d.parameters.length) = some n) (hn : As.length = n) (hrm : rm.cells = 0 ∧ rm.slots = 0)
    (cx : CallFix p m c cc nL s a TBL own) (hV : AtW E V A s H locs) (hF : FZ E A s s.heap) (w1 : Cond.methodLink own idx y ∈ TBL) (hR : rm.frames + 1 ≤ R.frames ∧ 8 + (maxL + 11) + rm.locals ≤ R.locals) (hcs : cells ≤ R.cells ∧ slots ≤ R.slots)
    (hls : ls.size = nL) (hst : st = As.reverse ++ rest) (hcat : (rest.map fun v => v.category).sum ≤ 8) (hdg : decode cc pc = .ok (.invokestatic idx, 3))
    (kk : ∀ (H1 : Heap) (locs1 : List Loc), AtW E V' A s H1 locs1 → W p l e R s m a below meth c H1 locs1 cells slots Q (F0 m (pc + 3) ls (va_rf r :: rest))) : W p l e R s m a below meth c H locs cells slots Q (F0 m pc ls st) := by
  refine va_callq (va_runS (As := As) (rest := rest) cx (hM H.size) (va_cwS n cx.2.2.2.2 (tb_gT w1 w2 w4 w5) rfl hrm.1 hrm.2 hd hR) ⟨PreF.blind, r_preF hV hF⟩ rfl hn hls hst (lv_room hcat) hdg hcs) hV.2.2.2.2.1 (fun q _ h => hV.free q h) hV.free (fun r u t H1 locs1 ht hvm hw hB hz1 hk1 hS => ?_)
  cases hw
  exact kk H1 locs1 ⟨hV.1, hV.2.1, va_D_fst hadr hV.2.2.1, by rw [← ht]; exact hB, hS, hV.2.2.2.2.2⟩
theorem r_anyFq {y : MethodName} {bytes : ByteArray} {maxL idx n : Nat} {a0 : Nat} {C : String} {rt : Option FieldType} {rm : Room} {As : List Value} {r : Option Nat}
    (hM : CMF l y bytes maxL rt rm (.ref a0 :: As) E V V' (qQ r)) (hadr : V'.map Prod.fst = V.map Prod.fst) (hq : ∃ cellB : Cell, H[a0]? = some cellB ∧ cellB.vm.isStatics = false ∧ s.vm.findClass C = some cellB.cls)
    (w2 : Cond.instanceMethod y ∈ TBL) (w3 : Cond.selects C y y ∈ TBL) (w4 : Cond.initialized C ∈ TBL) (w5 : Cond.code y bytes maxL rt ∈ TBL)
    (hd : y.cls = C ∧ y.cls ≠ "java/lang/invoke/MethodHandle" ∧ y.cls ≠ "java/lang/invoke/VarHandle" ∧ (parseMethodDescriptor y.desc).map (fun d => d.parameters.length) = some n) (hn : As.length = n) (hrm : rm.cells = 0 ∧ rm.slots = 0)
    (cx : CallFix p m c cc nL s a TBL own) (hV : AtW E V A s H locs) (hF : FZ E A s s.heap) (w1 : Cond.methodLink own idx y ∈ TBL) (hR : rm.frames + 1 ≤ R.frames ∧ 8 + (maxL + 11) + rm.locals ≤ R.locals) (hcs : cells ≤ R.cells ∧ slots ≤ R.slots)
    (hls : ls.size = nL) (hst : st = As.reverse ++ .ref a0 :: rest) (hcat : (rest.map fun v => v.category).sum ≤ 8) (hdg : decode cc pc = .ok (.invokevirtual idx, 3))
    (kk : ∀ (H1 : Heap) (locs1 : List Loc), AtW E V' A s H1 locs1 → W p l e R s m a below meth c H1 locs1 cells slots Q (F0 m (pc + 3) ls (va_rf r :: rest))) : W p l e R s m a below meth c H locs cells slots Q (F0 m pc ls st) := by
  refine va_callq (va_runV (As := As) (rest := rest) cx (hM H.size) (cwV n cx.2.2.2.2 (tb_gV w1 w2 w3 w4 w5) rfl hrm.1 hrm.2 hd hR) ⟨PreF.blind, hq, r_preF hV hF⟩ rfl hn hls hst (lv_room hcat) hdg hcs) hV.2.2.2.2.1 (fun q _ h => hV.free q h) hV.free (fun r u t H1 locs1 ht hvm hw hB hz1 hk1 hS => ?_)
  cases hw
  exact kk H1 locs1 ⟨hV.1, hV.2.1, va_D_fst hadr hV.2.2.1, by rw [← ht]; exact hB, hS, hV.2.2.2.2.2⟩
end STRR
abbrev rm_J3_checkIndex_8e157 : Room := { frames := 0, cells := 0, slots := 0, locals := 0 }
set_option maxHeartbeats 4000000 in
set_option maxRecDepth 100000 in
theorem c_J3_checkIndex_8e157 {l : Launch} {E : EV} {V : va_W} {i n : Int32} {r : Option Nat} (h0 : ¬ i < 0) (h1 : i < n) : CM l yJ3_checkIndex_8e157 cJ3_checkIndex_8e157 3 (some .int) rm_J3_checkIndex_8e157 [.int i, .int n, va_rf r] E V V (qI i) := by
  cases r
  · refine CM.start (by decide) (Nat.le_of_ble_eq_true rfl) (fun p e s m a below meth c A ls cx hr hlk hV hl => ?_)
    have cx : CallFix p m c cJ3_checkIndex_8e157 3 s a TBL RJ3 := cx
    have hx := cx.1
    have hb := cx.2.1
    have hl : lv_has ls 3 [(0, .int i), (1, .int n), (2, .null)] := hl
    refine lv_iload_n hx hb dJ3_checkIndex_8e157_0 rfl (lv_at hl 0 rfl) ?_
    refine lv_if_lt (tgt := 9) hx hb dJ3_checkIndex_8e157_1 (by decide) (fun hc => absurd hc h0) (fun _ => ?_)
    refine lv_iload_n hx hb dJ3_checkIndex_8e157_4 rfl (lv_at hl 0 rfl) ?_
    refine lv_iload_n hx hb dJ3_checkIndex_8e157_5 rfl (lv_at hl 1 rfl) ?_
    refine lv_icmp_lt (tgt := 16) hx hb dJ3_checkIndex_8e157_6 (by decide) (fun _ => ?_) (fun hc => absurd h1 hc)
    refine lv_iload_n hx hb dJ3_checkIndex_8e157_16 rfl (lv_at hl 0 rfl) ?_
    exact r_ireti cx hr hlk hV dJ3_checkIndex_8e157_17
  · refine CM.start (by decide) (Nat.le_of_ble_eq_true rfl) (fun p e s m a below meth c A ls cx hr hlk hV hl => ?_)
    have cx : CallFix p m c cJ3_checkIndex_8e157 3 s a TBL RJ3 := cx
    have hx := cx.1
    have hb := cx.2.1
    have hl : lv_has ls 3 [(0, .int i), (1, .int n), (2, .ref _)] := hl
    refine lv_iload_n hx hb dJ3_checkIndex_8e157_0 rfl (lv_at hl 0 rfl) ?_
    refine lv_if_lt (tgt := 9) hx hb dJ3_checkIndex_8e157_1 (by decide) (fun hc => absurd hc h0) (fun _ => ?_)
    refine lv_iload_n hx hb dJ3_checkIndex_8e157_4 rfl (lv_at hl 0 rfl) ?_
    refine lv_iload_n hx hb dJ3_checkIndex_8e157_5 rfl (lv_at hl 1 rfl) ?_
    refine lv_icmp_lt (tgt := 16) hx hb dJ3_checkIndex_8e157_6 (by decide) (fun _ => ?_) (fun hc => absurd h1 hc)
    refine lv_iload_n hx hb dJ3_checkIndex_8e157_16 rfl (lv_at hl 0 rfl) ?_
    exact r_ireti cx hr hlk hV dJ3_checkIndex_8e157_17
theorem Zq_get {p : Program} {l : Launch} {e : Env} {R : Room} {s : State} {m : MethodId} {a : Array Value} {below : List Frame} {meth : Method} {c : Code} {H : Heap} {locs : List Loc} {cells slots : Nat} {Q : State → Prop} {cc : ByteArray} {own : String} {nL pc : Nat} {ls : Array Slot} {rest : List Value} {A : Nat → Prop} {C n d : String} {index : Nat} (cx : CallFix p m c cc nL s a TBL own) (hZ : va_Zq C n d A s s.heap) (hS : va_S A s.heap H locs) (hl : Cond.fieldLink own index C n d ∈ TBL) (hdg : decode cc pc = .ok (.getstatic index, 3))
    (kk : ∀ r : Option Nat, W p l e R s m a below meth c H locs cells slots Q (F0 m (pc + 3) ls (va_rf r :: rest))) : W p l e R s m a below meth c H locs cells slots Q (F0 m pc ls rest) := by
  rcases hZ with hZ | ⟨t, hZ⟩
  · exact va_gets cx.1 cx.2.1 hZ hS cx.2.2.2.1 (cx.2.2.2.2 _ hl) (fun _ h => h) hdg (kk none)
  · exact va_gets cx.1 cx.2.1 hZ hS cx.2.2.2.1 (cx.2.2.2.2 _ hl) (fun _ h => h) hdg (kk (some t))
abbrev rm_J0_checkIndex_df160 : Room := { frames := 1, cells := 0, slots := 0, locals := 22 }
set_option maxHeartbeats 4000000 in
set_option maxRecDepth 100000 in
theorem c_J0_checkIndex_df160 {l : Launch} {E : EV} {V : va_W} {i n : Int32} (h0 : ¬ i < 0) (h1 : i < n) : CMF l yJ0_checkIndex_df160 cJ0_checkIndex_df160 2 none rm_J0_checkIndex_df160 [.int i, .int n] E V V qV := by
  refine CMF.start (by decide) (Nat.le_of_ble_eq_true rfl) (fun p e s m a below meth c A ls cx hr hlk hV hF hl => ?_)
  have cx : CallFix p m c cJ0_checkIndex_df160 2 s a TBL RJ0 := cx
  have hx := cx.1
  have hb := cx.2.1
  have hl : lv_has ls 2 [(0, .int i), (1, .int n)] := hl
  refine lv_iload_n hx hb dJ0_checkIndex_df160_0 rfl (lv_at hl 0 rfl) ?_
  refine lv_iload_n hx hb dJ0_checkIndex_df160_1 rfl (lv_at hl 1 rfl) ?_
  refine Zq_get cx hF.2.2.2.2.2.2.2.2.2.2.2.2 hV.2.2.2.2.1 mk_4_70 dJ0_checkIndex_df160_2 (fun r => ?_)
  refine r_sti (n := 3) (As := [.int i, .int n, va_rf r]) (c_J3_checkIndex_8e157 h0 h1) rfl mk_4_73 mk_1_18 mk_4_74 (by decide +kernel) rfl ⟨rfl, rfl⟩ cx hV mk_4_72 ⟨Nat.le_of_ble_eq_true rfl, Nat.le_of_ble_eq_true rfl⟩ ⟨Nat.zero_le _, Nat.zero_le _⟩ hl.1 rfl (Nat.le_of_ble_eq_true rfl) dJ0_checkIndex_df160_5 (fun H locs hV => ?_)
  refine lv_pop hx hb dJ0_checkIndex_df160_8 rfl ?_
  exact r_vret cx hr hlk hV dJ0_checkIndex_df160_9
abbrev rm_J1_charAt_3b067 : Room := { frames := 2, cells := 0, slots := 0, locals := 43 }
set_option maxHeartbeats 4000000 in
set_option maxRecDepth 100000 in
theorem c_J1_charAt_3b067 {l : Launch} {E : EV} {V : va_W} {i : Nat} {k : Int32} (hi : i < 9) (hk : vp_in k (lenS.getD i 0)) : CMF l yJ1_charAt_3b067 cJ1_charAt_3b067 2 (some .char) rm_J1_charAt_3b067 [.ref (adB E i), .int k] E V V (qI (chS i k.toNatClampNeg)) := by
  refine CMF.start (by decide) (Nat.le_of_ble_eq_true rfl) (fun p e s m a below meth c A ls cx hr hlk hV hF hl => ?_)
  have cx : CallFix p m c cJ1_charAt_3b067 2 s a TBL RJ1 := cx
  have hx := cx.1
  have hb := cx.2.1
  have hl : lv_has ls 2 [(0, .ref (adB E i)), (1, .int k)] := hl
  have hk2 : k.toNatClampNeg < lenS.getD i 0 := Nat.not_le.mp fun q => hk (Or.inr q)
  have hsm := lenS_sm i hi
  refine lv_iload_n hx hb dJ1_charAt_3b067_0 rfl (lv_at hl 1 rfl) ?_
  refine lv_aload_n hx hb dJ1_charAt_3b067_1 rfl (lv_at hl 0 rfl) ?_
  refine va_tlen hx hb (hF.2.2.2.1.1 i hi).2.2.2 hV.2.2.2.2.1 (v := nI (lenS.getD i 0)) rfl dJ1_charAt_3b067_2 ?_
  refine r_stFv (n := 2) (As := [.int k, .int (nI (lenS.getD i 0))]) (c_J0_checkIndex_df160 (fun q => hk (Or.inl q)) (vp_lt hk (by omega))) rfl mk_4_68 mk_1_16 mk_4_69 (by decide +kernel) rfl ⟨rfl, rfl⟩ cx hV hF mk_4_67 ⟨Nat.le_of_ble_eq_true rfl, Nat.le_of_ble_eq_true rfl⟩ ⟨Nat.zero_le _, Nat.zero_le _⟩ hl.1 rfl (Nat.le_of_ble_eq_true rfl) dJ1_charAt_3b067_3 (fun H locs hV => ?_)
  refine lv_aload_n hx hb dJ1_charAt_3b067_6 rfl (lv_at hl 0 rfl) ?_
  refine lv_iload_n hx hb dJ1_charAt_3b067_7 rfl (lv_at hl 1 rfl) ?_
  refine va_tb hx hb (hF.2.2.2.1.1 i hi).2.2.2 hV.2.2.2.2.1 hk (v := .int (chS i k.toNatClampNeg)) rfl dJ1_charAt_3b067_8 ?_
  refine lv_sipush (v := 255) hx hb dJ1_charAt_3b067_9 (by decide) ?_
  refine lv_iand hx hb dJ1_charAt_3b067_12 ?_
  refine lv_i2c (v := chS i k.toNatClampNeg) hx hb dJ1_charAt_3b067_13 (chS_ok i hi _ hk2).1 ?_
  exact r_nret cx hr hlk hV (chS_ok i hi _ hk2).2 dJ1_charAt_3b067_14
abbrev rm_J0_isLatin1_aae02 : Room := { frames := 0, cells := 0, slots := 0, locals := 0 }
set_option maxHeartbeats 4000000 in
set_option maxRecDepth 100000 in
theorem c_J0_isLatin1_aae02 {l : Launch} {E : EV} {V : va_W} {i : Nat} (hi : i < 9) : CMF l yJ0_isLatin1_aae02 cJ0_isLatin1_aae02 1 (some .boolean) rm_J0_isLatin1_aae02 [.ref (adS E i)] E V V (qI 1) := by
  refine CMF.start (by decide) (Nat.le_of_ble_eq_true rfl) (fun p e s m a below meth c A ls cx hr hlk hV hF hl => ?_)
  have cx : CallFix p m c cJ0_isLatin1_aae02 1 s a TBL RJ0 := cx
  have hx := cx.1
  have hb := cx.2.1
  have hl : lv_has ls 1 [(0, .ref (adS E i))] := hl
  refine va_gets hx hb hF.2.2.2.2.2.2.2.2.2.2.2.1 hV.2.2.2.2.1 cx.2.2.2.1 (cx.2.2.2.2 _ mk_4_54) (fun _ h => h) dJ0_isLatin1_aae02_0 ?_
  refine lv_if_eq (tgt := 17) hx hb dJ0_isLatin1_aae02_3 (by decide) (fun hc => absurd hc (by decide)) (fun _ => ?_)
  refine lv_aload_n hx hb dJ0_isLatin1_aae02_6 rfl (lv_at hl 0 rfl) ?_
  refine vk_getf hx hb (hF.2.2.2.1.1 i hi).2.1 hV.2.2.2.2.1 cx.2.2.2.1 (cx.2.2.2.2 _ mk_8_195) (fun _ h => h) dJ0_isLatin1_aae02_7 ?_
  refine lv_if_ne (tgt := 17) hx hb dJ0_isLatin1_aae02_10 (by decide) (fun hc => absurd rfl hc) (fun _ => ?_)
  refine lv_iconst (v := 1) hx hb dJ0_isLatin1_aae02_13 (by decide) ?_
  refine lv_goto (tgt := 18) hx hb dJ0_isLatin1_aae02_14 (by decide) ?_
  exact r_zreti cx hr hlk hV (Or.inr rfl) dJ0_isLatin1_aae02_18
abbrev rm_J0_coder_7d493 : Room := { frames := 0, cells := 0, slots := 0, locals := 0 }
set_option maxHeartbeats 4000000 in
set_option maxRecDepth 100000 in
theorem c_J0_coder_7d493 {l : Launch} {E : EV} {V : va_W} {i : Nat} (hi : i < 9) : CMF l yJ0_coder_7d493 cJ0_coder_7d493 1 (some .byte) rm_J0_coder_7d493 [.ref (adS E i)] E V V (qI 0) := by
  refine CMF.start (by decide) (Nat.le_of_ble_eq_true rfl) (fun p e s m a below meth c A ls cx hr hlk hV hF hl => ?_)
  have cx : CallFix p m c cJ0_coder_7d493 1 s a TBL RJ0 := cx
  have hx := cx.1
  have hb := cx.2.1
  have hl : lv_has ls 1 [(0, .ref (adS E i))] := hl
  refine va_gets hx hb hF.2.2.2.2.2.2.2.2.2.2.2.1 hV.2.2.2.2.1 cx.2.2.2.1 (cx.2.2.2.2 _ mk_4_54) (fun _ h => h) dJ0_coder_7d493_0 ?_
  refine lv_if_eq (tgt := 13) hx hb dJ0_coder_7d493_3 (by decide) (fun hc => absurd hc (by decide)) (fun _ => ?_)
  refine lv_aload_n hx hb dJ0_coder_7d493_6 rfl (lv_at hl 0 rfl) ?_
  refine vk_getf hx hb (hF.2.2.2.1.1 i hi).2.1 hV.2.2.2.2.1 cx.2.2.2.1 (cx.2.2.2.2 _ mk_8_195) (fun _ h => h) dJ0_coder_7d493_7 ?_
  refine lv_goto (tgt := 14) hx hb dJ0_coder_7d493_10 (by decide) ?_
  exact r_nret cx hr hlk hV rfl dJ0_coder_7d493_14
abbrev rm_J0_length_8abf5 : Room := { frames := 1, cells := 0, slots := 0, locals := 20 }
set_option maxHeartbeats 4000000 in
set_option maxRecDepth 100000 in
theorem c_J0_length_8abf5 {l : Launch} {E : EV} {V : va_W} {i : Nat} {rv : Int32} (hi : i < 9) (h : x_J0_length_8abf5 i = some rv) : CMF l yJ0_length_8abf5 cJ0_length_8abf5 1 (some .int) rm_J0_length_8abf5 [.ref (adS E i)] E V V (qI rv) := by
  refine CMF.start (by decide) (Nat.le_of_ble_eq_true rfl) (fun p e s m a below meth c A ls cx hr hlk hV hF hl => ?_)
  have cx : CallFix p m c cJ0_length_8abf5 1 s a TBL RJ0 := cx
  have hx := cx.1
  have hb := cx.2.1
  have hl : lv_has ls 1 [(0, .ref (adS E i))] := hl
  have h := Option.some.inj h
  subst h
  refine lv_aload_n hx hb dJ0_length_8abf5_0 rfl (lv_at hl 0 rfl) ?_
  refine vk_getf hx hb (hF.2.2.2.1.1 i hi).2.2.1 hV.2.2.2.2.1 cx.2.2.2.1 (cx.2.2.2.2 _ mk_8_194) (fun _ h => h) dJ0_length_8abf5_1 ?_
  refine va_tlen hx hb (hF.2.2.2.1.1 i hi).2.2.2 hV.2.2.2.2.1 (v := nI (lenS.getD i 0)) rfl dJ0_length_8abf5_4 ?_
  refine lv_aload_n hx hb dJ0_length_8abf5_5 rfl (lv_at hl 0 rfl) ?_
  refine r_anyFi (n := 0) (As := []) (C := RJ0) (c_J0_coder_7d493 hi) rfl (vk_recv hF.2.2.2.1 hi hV.2.2.2.2.1) mk_4_51 mk_4_52 mk_1_16 mk_4_53 (by decide +kernel) rfl ⟨rfl, rfl⟩ cx hV hF mk_4_50 ⟨Nat.le_of_ble_eq_true rfl, Nat.le_of_ble_eq_true rfl⟩ ⟨Nat.zero_le _, Nat.zero_le _⟩ hl.1 rfl (Nat.le_of_ble_eq_true rfl) dJ0_length_8abf5_6 (fun H locs hV => ?_)
  refine lv_ishr hx hb dJ0_length_8abf5_9 ?_
  rw [lenS_ok i hi]
  exact r_ireti cx hr hlk hV dJ0_length_8abf5_10
abbrev rm_J0_charAt_5068e : Room := { frames := 3, cells := 0, slots := 0, locals := 64 }
set_option maxHeartbeats 4000000 in
set_option maxRecDepth 100000 in
theorem c_J0_charAt_5068e {l : Launch} {E : EV} {V : va_W} {i : Nat} {k rv : Int32} (hi : i < 9) (h : x_J0_charAt_5068e i k = some rv) : CMF l yJ0_charAt_5068e cJ0_charAt_5068e 2 (some .char) rm_J0_charAt_5068e [.ref (adS E i), .int k] E V V (qI rv) := by
  refine CMF.start (by decide) (Nat.le_of_ble_eq_true rfl) (fun p e s m a below meth c A ls cx hr hlk hV hF hl => ?_)
  have cx : CallFix p m c cJ0_charAt_5068e 2 s a TBL RJ0 := cx
  have hx := cx.1
  have hb := cx.2.1
  have hl : lv_has ls 2 [(0, .ref (adS E i)), (1, .int k)] := hl
  obtain ⟨hk, he⟩ := x_charAt_e h
  subst he
  have hk2 : k.toNatClampNeg < lenS.getD i 0 := Nat.not_le.mp fun q => hk (Or.inr q)
  refine lv_aload_n hx hb dJ0_charAt_5068e_0 rfl (lv_at hl 0 rfl) ?_
  refine r_anyFi (n := 0) (As := []) (C := RJ0) (c_J0_isLatin1_aae02 hi) rfl (vk_recv hF.2.2.2.1 hi hV.2.2.2.2.1) mk_4_61 mk_4_62 mk_1_16 mk_4_63 (by decide +kernel) rfl ⟨rfl, rfl⟩ cx hV hF mk_4_60 ⟨Nat.le_of_ble_eq_true rfl, Nat.le_of_ble_eq_true rfl⟩ ⟨Nat.zero_le _, Nat.zero_le _⟩ hl.1 rfl (Nat.le_of_ble_eq_true rfl) dJ0_charAt_5068e_1 (fun H locs hV => ?_)
  refine lv_if_eq (tgt := 16) hx hb dJ0_charAt_5068e_4 (by decide) (fun hc => absurd hc (by decide)) (fun _ => ?_)
  refine lv_aload_n hx hb dJ0_charAt_5068e_7 rfl (lv_at hl 0 rfl) ?_
  refine vk_getf hx hb (hF.2.2.2.1.1 i hi).2.2.1 hV.2.2.2.2.1 cx.2.2.2.1 (cx.2.2.2.2 _ mk_8_194) (fun _ h => h) dJ0_charAt_5068e_8 ?_
  refine lv_iload_n hx hb dJ0_charAt_5068e_11 rfl (lv_at hl 1 rfl) ?_
  refine r_stFi (n := 2) (As := [.ref (adB E i), .int k]) (c_J1_charAt_3b067 hi hk) rfl mk_4_65 mk_1_17 mk_4_66 (by decide +kernel) rfl ⟨rfl, rfl⟩ cx hV hF mk_4_64 ⟨Nat.le_of_ble_eq_true rfl, Nat.le_of_ble_eq_true rfl⟩ ⟨Nat.zero_le _, Nat.zero_le _⟩ hl.1 rfl (Nat.le_of_ble_eq_true rfl) dJ0_charAt_5068e_12 (fun H locs hV => ?_)
  exact r_nret cx hr hlk hV (chS_ok i hi _ hk2).2 dJ0_charAt_5068e_15
theorem k_J0_length_8abf5 {p : Program} {l : Launch} {e : Env} {R : Room} {s : State} {m : MethodId} {a : Array Value} {below : List Frame} {meth : Method} {c : Code} {H : Heap} {locs : List Loc} {cells slots : Nat} {Q : State → Prop} {cc : ByteArray} {own : String} {nL pc : Nat} {ls : Array Slot} {rest : List Value} {A : Nat → Prop} {E : EV} {V : va_W} {i : Nat} {rv : Int32} (hi : i < 9) (h : x_J0_length_8abf5 i = some rv) (cx : CallFix p m c cc nL s a TBL own) (hV : AtW E V A s H locs) (hF : FZ E A s s.heap) {idx : Nat} (w1 : Cond.methodLink own idx yJ0_length_8abf5 ∈ TBL) (hR : (rm_J0_length_8abf5).frames + 1 ≤ R.frames ∧ 8 + (1 + 11) + (rm_J0_length_8abf5).locals ≤ R.locals) (hcs : cells ≤ R.cells ∧ slots ≤ R.slots) (hls : ls.size = nL) (hcat : (rest.map fun v => v.category).sum ≤ 8) (d : decode cc pc = .ok (.invokevirtual idx, 3)) (kk : ∀ (H1 : Heap) (locs1 : List Loc), AtW E V A s H1 locs1 → W p l e R s m a below meth c H1 locs1 cells slots Q (F0 m (pc + 3) ls (.int rv :: rest))) : W p l e R s m a below meth c H locs cells slots Q (F0 m pc ls (.ref (adS E i) :: rest)) :=
  r_anyFi (n := 0) (As := []) (C := RJ0) (c_J0_length_8abf5 hi h) rfl (vk_recv hF.2.2.2.1 hi hV.2.2.2.2.1) mk_4_47 mk_4_48 mk_1_16 mk_4_49 (by decide +kernel) rfl ⟨rfl, rfl⟩ cx hV hF w1 hR hcs hls rfl hcat d kk
theorem k_J0_charAt_5068e {p : Program} {l : Launch} {e : Env} {R : Room} {s : State} {m : MethodId} {a : Array Value} {below : List Frame} {meth : Method} {c : Code} {H : Heap} {locs : List Loc} {cells slots : Nat} {Q : State → Prop} {cc : ByteArray} {own : String} {nL pc : Nat} {ls : Array Slot} {rest : List Value} {A : Nat → Prop} {E : EV} {V : va_W} {i : Nat} {k rv : Int32} (hi : i < 9) (h : x_J0_charAt_5068e i k = some rv) (cx : CallFix p m c cc nL s a TBL own) (hV : AtW E V A s H locs) (hF : FZ E A s s.heap) {idx : Nat} (w1 : Cond.methodLink own idx yJ0_charAt_5068e ∈ TBL) (hR : (rm_J0_charAt_5068e).frames + 1 ≤ R.frames ∧ 8 + (2 + 11) + (rm_J0_charAt_5068e).locals ≤ R.locals) (hcs : cells ≤ R.cells ∧ slots ≤ R.slots) (hls : ls.size = nL) (hcat : (rest.map fun v => v.category).sum ≤ 8) (d : decode cc pc = .ok (.invokevirtual idx, 3)) (kk : ∀ (H1 : Heap) (locs1 : List Loc), AtW E V A s H1 locs1 → W p l e R s m a below meth c H1 locs1 cells slots Q (F0 m (pc + 3) ls (.int rv :: rest))) : W p l e R s m a below meth c H locs cells slots Q (F0 m pc ls (.int k :: .ref (adS E i) :: rest)) :=
  r_anyFi (n := 1) (As := [.int k]) (C := RJ0) (c_J0_charAt_5068e hi h) rfl (vk_recv hF.2.2.2.1 hi hV.2.2.2.2.1) mk_4_57 mk_4_58 mk_1_16 mk_4_59 (by decide +kernel) rfl ⟨rfl, rfl⟩ cx hV hF w1 hR hcs hls rfl hcat d kk
