/-! the law's own wrappers: methods with a table, called by the law; a case that returns, a case that catches -/
def NCs (U : State) : Prop := ∀ i j : Nat, i < 4 → j < 4 → i ≠ j → va_Nc (exN (i + 1)) (exN (j + 1)) U
def PreL (E : EV) (V : va_W) (sz : Nat) (U : State) : Prop := PreF E V sz U ∧ NCs U
theorem PreL.blind {args : List Value} {E : EV} {V : va_W} {sz : Nat} : FrameBlind (va_Pc args (PreL E V sz)) := by
  intro a U g mk q
  obtain ⟨q0, q1, q2⟩ := q
  obtain ⟨h1, h2⟩ := PreF.blind (args := args) (E := E) (V := V) (sz := sz) a U g mk ⟨q0, q1⟩
  exact ⟨h1, h2, fun i j hi hj hn => va_Nc.moved (u := U) (U := U.calling g mk a) (Vm.Alike.refl U.vm) (q2 i j hi hj hn)⟩
def CW (l : Launch) (y : MethodName) (cc : ByteArray) (n : Nat) (rt : Option FieldType) (hh : List (Nat × Nat × Nat × Nat)) (rm : Room) (args : List Value) (E : EV) (V V' : va_W) (q : qT) (mc ms : Nat) : Prop :=
  ∀ sz : Nat, Met l y (.codeWith y cc n rt hh :: TBL) rm (va_Pc args (PreL E V sz)) (q (PostW E V') (va_A V sz)) mc ms (va_A V sz)
def EQW (E : EV) (V' : va_W) (q : qT) (A : Nat → Prop) (s : State) (a : Array Value) (below : List Frame) (mc ms : Nat) : State → Prop := MQ below (q (PostW E V') A) a s mc ms A
theorem CW.start {l : Launch} {y : MethodName} {cc : ByteArray} {n : Nat} {rt : Option FieldType} {hh : List (Nat × Nat × Nat × Nat)} {rm : Room} {args : List Value} {E : EV} {V V' : va_W} {q : qT} {mc ms : Nat} (hy : plainName y.cls = true) (hlen : (lg_sl args).length ≤ n)
    (body : ∀ (p : Program) (e : Env) (s : State) (m : MethodId) (a : Array Value) (below : List Frame) (meth : Method) (c : Code) (A : Nat → Prop) (ls : Array Slot), CallFix p m c cc n s a TBL y.cls → meth.sig.returnType = rt → meth.locks = false → c.exceptionTable.toList = tableOf hh → AtW E V A s s.heap [] → FZ E A s s.heap → NCs s → lv_has ls n (lv_args 0 args) →
      W p l e rm s m a below meth c s.heap [] 0 0 (EQW E V' q A s a below mc ms) (F0 m 0 ls [])) : CW l y cc n rt hh rm args E V V' q mc ms := by
  intro sz
  refine MetFree.of_bodyS (code := cc) (maxLocals := n) (ret := rt) hy ?_ ?_
  · intro args s m h hn
    obtain ⟨m9, meth, c, hn9, h1, h2, h3, h4, -, h5, h6, -⟩ := Cond.codeWith_spec (atoms_spec (ws := .codeWith y cc n rt hh :: TBL) h _ List.mem_cons_self)
    cases hn.symm.trans hn9
    exact ⟨meth, c, h1, h2, h3, h4, h5, h6⟩
  · intro p e s m a below meth c s₁ B hml hv _
    obtain ⟨rfl, ⟨⟨hsz, hP, hK, hN, hD0⟩, hF⟩, hNC⟩ := hv
    subst hsz
    have hts := atoms_spec (ws := .codeWith y cc n rt hh :: TBL) B.pre
    have hts' : ∀ w ∈ TBL, w.before args.toArray s = true := fun w h => hts w (List.mem_cons_of_mem _ h)
    have hown : s.vm.findClass y.cls = some m.cls := findClass_of_methodNamed B.named
    have hl := lv_entry args (n := n) hlen
    have htab : c.exceptionTable.toList = tableOf hh := vx_table (x := y) B (hts _ List.mem_cons_self)
    have hh0 : s₁.heap = s.heap := by rw [B.state]; rfl
    have K := body p e s m _ below meth c (va_A V s.heap.size) _ ⟨B.exec, B.bytes, hml, hown, hts'⟩ B.returns B.notSynchronized htab ⟨hK, hN, hD0.self, hP, va_S.rf, fun q h => Or.inr h⟩ hF hNC hl
    rw [← lg_entry_eq] at K
    obtain ⟨t, a1, o, b1, b2, b3⟩ := K s₁ hh0 (Stand.of_body B)
    exact ⟨t, o, a1, b1, b2, ⟨b3.1, b3.2⟩⟩
section LAW0
variable {p : Program} {l : Launch} {e : Env} {R : Room} {s : State} {m : MethodId} {a : Array Value} {below : List Frame} {meth : Method} {c : Code} {H : Heap} {locs : List Loc} {cells slots : Nat} {Q : State → Prop}
variable {cc : ByteArray} {own : String} {nL pc : Nat} {ls : Array Slot} {rest st : List Value} {E : EV} {V V' : va_W} {A : Nat → Prop}
theorem r_wret {mc ms : Nat} (cx : CallFix p m c cc nL s a TBL own) (hr : meth.sig.returnType = some .int) (hlk : meth.locks = false) (hV : AtW E V A s H locs) {rv : Int32} (d : decode cc pc = .ok (.ireturn, 1)) : W p l e R s m a below meth c H locs mc ms (EQW E V (qI rv) A s a below mc ms) (F0 m pc ls [.int rv]) :=
  W.iret cx.1 cx.2.1 hr (fun t ht hWm => ⟨⟨rv, (), rfl, rfl, by show va_P _ _ _ _; rw [ht]; exact hV.2.2.2.1⟩, hV.2.2.2.2.1.F ht⟩) hV.2.2.2.2.1.2.2 d hlk
theorem r_wcatch {y : MethodName} {bytes : ByteArray} {maxL idx n ci q0 a0 : Nat} {rt : Option FieldType} {rm : Room} {As : List Value} {qq : vw_C} {fs : List Value} {Ex : String}
    (hM : CXF l y bytes maxL rt rm (.ref a0 :: As) E V V' Ex) (hadr : V'.map Prod.fst = V.map Prod.fst) (hq : V[q0]? = some (a0, .inr (ci, fs))) (hc : vwCl[ci]? = some qq)
    (w2 : Cond.instanceMethod y ∈ TBL) (w3 : Cond.selects qq.1 y y ∈ TBL) (w4 : Cond.initialized qq.1 ∈ TBL) (w5 : Cond.code y bytes maxL rt ∈ TBL)
    (hd : y.cls = qq.1 ∧ y.cls ≠ "java/lang/invoke/MethodHandle" ∧ y.cls ≠ "java/lang/invoke/VarHandle" ∧ (parseMethodDescriptor y.desc).map (fun d => d.parameters.length) = some n) (hn : As.length = n) (hrm : rm.cells = 1 ∧ rm.slots = 6)
    (cx : CallFix p m c cc nL s a TBL own) (hV : AtW E V A s H locs) (hF : FZ E A s s.heap) (w1 : Cond.methodLink own idx y ∈ TBL) (hR : rm.frames + 1 ≤ R.frames ∧ 8 + (maxL + 11) + rm.locals ≤ R.locals) (hcs : 1 ≤ R.cells ∧ 6 ≤ R.slots)
    (hls : ls.size = nL) (hst : st = As.reverse ++ .ref a0 :: rest) (hcat : (rest.map fun v => v.category).sum ≤ 8) (hdg : decode cc pc = .ok (.invokevirtual idx, 3))
    (pre : List ExceptionTableEntry) (x : ExceptionTableEntry) (suf : List ExceptionTableEntry) (hsplit : c.exceptionTable.toList = pre ++ x :: suf)
    (hpass : ∀ z ∈ pre, covers z pc = false ∨ (z.catchType ≠ 0 ∧ ∃ nm : String, Cond.classLink own z.catchType nm ∈ TBL ∧ va_Nc Ex nm s)) (hx : covers x pc = true) (h0 : x.catchType ≠ 0)
    (hlink : Cond.classLink own x.catchType Ex ∈ TBL) (hcast : Cond.castable Ex Ex ∈ xW)
    (kk : ∀ (q9 : Nat) (H1 : Heap) (locs1 : List Loc), AtW E V' A s H1 locs1 → W p l e R s m a below meth c H1 locs1 1 6 Q (F0 m x.handlerPc ls [.ref q9])) : W p l e R s m a below meth c H locs 0 0 Q (F0 m pc ls st) := by
  refine vx_callv (vx_runV (As := As) (rest := rest) cx (hM H.size) (cwV n cx.2.2.2.2 (tb_gV w1 w2 w3 w4 w5) rfl hrm.1 hrm.2 hd hR) ⟨PreF.blind, va_recv hV.1 hV.2.2.2.1 hc hq, r_preF hV hF⟩ rfl hn hls hst (lv_room hcat) hdg ⟨by omega, by omega⟩) hV.2.2.2.2.1 (fun q _ h => hV.free q h) hV.free (fun q _ h => hV.free q h) (fun E' ce q9 u t H1 locs1 ht hvm hp hB hz1 hk1 hS hce hcv hcl => ?_) (fun u t H1 locs1 ht hvm hw hB hz1 hk1 hS => hw.elim)
  obtain ⟨rfl, hB⟩ := hB
  have hca : (Cond.castable E' E').before a s = true := va_Nw.use rfl (hF.2.2.1 _ hcast)
  exact vx_catch cx.2.2.2.1 pre x suf hsplit (fun z hz => (hpass z hz).imp_right (fun h => ⟨h.1, h.2.choose, cx.2.2.2.2 _ h.2.choose_spec.1, h.2.choose_spec.2⟩)) hx h0 (cx.2.2.2.2 _ hlink) hca hce hcv hcl (kk q9 H1 locs1 ⟨hV.1, hV.2.1, va_D_fst hadr hV.2.2.1, by rw [← ht]; exact hB, hS, hV.2.2.2.2.2⟩)
end LAW0
