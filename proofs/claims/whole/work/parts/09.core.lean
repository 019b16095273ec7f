/-! the worlds' own layer: states, environments, contracts over an ambient world -/
abbrev St : Type := (Nat → Int32) × (Nat → Nat → Int32) × (Nat → Int64) × (Nat → Nat → Int64)
def gI (σ : St) (k : Nat) : Int32 := σ.1 k
def gA (σ : St) (k : Nat) : Nat → Int32 := σ.2.1 k
def gL (σ : St) (k : Nat) : Int64 := σ.2.2.1 k
def gJ (σ : St) (k : Nat) : Nat → Int64 := σ.2.2.2 k
def sI (σ : St) (k : Nat) (v : Int32) : St := (fun j => if j = k then v else σ.1 j, σ.2)
def sA (σ : St) (k : Nat) (v : Nat → Int32) : St := (σ.1, fun j => if j = k then v else σ.2.1 j, σ.2.2)
def sL (σ : St) (k : Nat) (v : Int64) : St := (σ.1, σ.2.1, fun j => if j = k then v else σ.2.2.1 j, σ.2.2.2)
def sJ (σ : St) (k : Nat) (v : Nat → Int64) : St := (σ.1, σ.2.1, σ.2.2.1, fun j => if j = k then v else σ.2.2.2 j)
abbrev EV : Type := va_G × ClassId × ClassId × ClassId × (Nat → Nat)
def eD (E : EV) : va_G := E.1
def eI (E : EV) : ClassId := E.2.1
def eJ (E : EV) : ClassId := E.2.2.1
def eO (E : EV) : ClassId := E.2.2.2.1
def eA (E : EV) (k : Nat) : Nat := E.2.2.2.2 k
def eT (E : EV) : List (ClassId × FieldType) := [(eI E, .int), (eJ E, .long), (eO E, .object "FlickedCrates$Stock")]
def nestW : List Cond := [.methodLinkNest RX9 27 yX7_init RX9, .methodLinkNest RX9 34 yX5_init RX9, .methodLinkNest RX3 11 yX7_init RX9, .methodLinkNest RX1 11 yX5_init RX9, .methodLinkNest RX9 92 yX4_init RX9, .methodLinkNest RX1 136 yX9_hasBit RX9, .methodLinkNest RX1 146 yX9_roundedUp RX9, .methodLinkNest RX8 95 yX9_hasBit RX9, .methodLinkNest RX8 102 yX9_roundedUp RX9]
def NW (U : State) : Prop := ∀ w ∈ nestW, va_Nw w U
theorem NW.warm {s U : State} (hW : s.WarmedH U.vm) (h : NW s) : NW U := by
  intro w hw
  have h1 := h w hw
  simp only [nestW, List.mem_cons, List.not_mem_nil, or_false] at hw
  rcases hw with rfl | rfl | rfl | rfl | rfl | rfl | rfl | rfl | rfl <;> exact va_Nw.warmM hW h1
def AtW (E : EV) (V : va_W) (A : Nat → Prop) (s : State) (H : Heap) (locs : List Loc) : Prop :=
  va_K (eD E) vwCl (eT E) s ∧ NW s ∧ va_D A V ∧ va_P (eD E) vwCl V H ∧ va_S A s.heap H locs ∧ ∀ q : Nat, s.heap.size ≤ q → A q
def PreW (E : EV) (V : va_W) (sz : Nat) (U : State) : Prop := U.heap.size = sz ∧ va_P (eD E) vwCl V U.heap ∧ va_K (eD E) vwCl (eT E) U ∧ NW U ∧ va_D (fun _ => True) V
def PostW (E : EV) (V : va_W) (t : State) : Prop := va_P (eD E) vwCl V t.heap
theorem PreW.blind {args : List Value} {E : EV} {V : va_W} {sz : Nat} : FrameBlind (va_Pc args (PreW E V sz)) := by
  intro a U g mk q
  obtain ⟨q0, q1, qP, qK, qN, qD⟩ := q
  exact ⟨q0, q1, qP, va_K.moved (u := U) (U := U.calling g mk a) (Vm.Alike.refl U.vm) qK, NW.warm (s := U) (U := U.calling g mk a) (State.WarmedH.refl U) qN, qD⟩
theorem va_D_fst {A : Nat → Prop} {V V' : va_W} (h : V'.map Prod.fst = V.map Prod.fst) (hD : va_D A V) : va_D A V' := by
  have key : ∀ (i : Nat) (p : Nat × va_E), V'[i]? = some p → ∃ p' : Nat × va_E, V[i]? = some p' ∧ p'.1 = p.1 := by
    intro i p hp
    have h1 : (V'.map Prod.fst)[i]? = some p.1 := by rw [List.getElem?_map, hp]; rfl
    rw [h, List.getElem?_map] at h1
    cases hq : V[i]? with
    | none => rw [hq] at h1; cases h1
    | some p' => rw [hq] at h1; exact ⟨p', rfl, Option.some.inj h1⟩
  refine ⟨fun i j p q hp hq e => ?_, fun k q hq => ?_⟩
  · obtain ⟨p', hp', ep⟩ := key i p hp
    obtain ⟨q', hq', eq⟩ := key j q hq
    exact hD.1 i j p' q' hp' hq' (by rw [ep, eq, e])
  · obtain ⟨q', hq', eq⟩ := key k q hq
    rw [← eq]; exact hD.2 k q' hq'
abbrev qT : Type := (State → Prop) → (Nat → Prop) → Array Value → State → Outcome → State → Prop
def qI (rv : Int32) : qT := fun B A => va_Qi (fun (v : Int32) (_ : Unit) => v = rv) (fun _ t => B t) A
def qL (rv : Int64) : qT := fun B A => va_Ql (fun (v : Int64) (_ : Unit) => v = rv) (fun _ t => B t) A
def qV : qT := fun B A => va_Qv (fun (_ : Unit) => True) (fun _ t => B t) A
def CM (l : Launch) (y : MethodName) (cc : ByteArray) (n : Nat) (rt : Option FieldType) (rm : Room) (args : List Value) (E : EV) (V V' : va_W) (q : qT) : Prop :=
  ∀ sz : Nat, Met l y (.code y cc n rt :: TBL) rm (va_Pc args (PreW E V sz)) (q (PostW E V') (va_A V sz)) 0 0 (va_A V sz)
def EQ (E : EV) (V' : va_W) (q : qT) (A : Nat → Prop) (s : State) (a : Array Value) (below : List Frame) : State → Prop := MQ below (q (PostW E V') A) a s 0 0 A
theorem CM.start {l : Launch} {y : MethodName} {cc : ByteArray} {n : Nat} {rt : Option FieldType} {rm : Room} {args : List Value} {E : EV} {V V' : va_W} {q : qT} (hy : plainName y.cls = true) (hlen : (lg_sl args).length ≤ n)
    (body : ∀ (p : Program) (e : Env) (s : State) (m : MethodId) (a : Array Value) (below : List Frame) (meth : Method) (c : Code) (A : Nat → Prop) (ls : Array Slot), CallFix p m c cc n s a TBL y.cls → meth.sig.returnType = rt → meth.locks = false → AtW E V A s s.heap [] → lv_has ls n (lv_args 0 args) →
      W p l e rm s m a below meth c s.heap [] 0 0 (EQ E V' q A s a below) (F0 m 0 ls [])) : CM l y cc n rt rm args E V V' q := by
  intro sz
  refine Met.ofW (cc := cc) (maxL := n) (ret := rt) hy rfl ?_
  intro p e s m a below meth c s₁ B hml hv
  obtain ⟨rfl, hsz, hP, hK, hN, hD0⟩ := hv
  subst hsz
  have hts := atoms_spec (ws := .code y cc n rt :: TBL) B.pre
  have hts' : ∀ w ∈ TBL, w.before args.toArray s = true := fun w h => hts w (List.mem_cons_of_mem _ h)
  have hown : s.vm.findClass y.cls = some m.cls := findClass_of_methodNamed B.named
  have hl := lv_entry args (n := n) hlen
  rw [lg_entry_eq]
  exact body p e s m _ below meth c (va_A V s.heap.size) _ ⟨B.exec, B.bytes, hml, hown, hts'⟩ B.returns B.notSynchronized ⟨hK, hN, hD0.self, hP, va_S.rf, fun q h => Or.inr h⟩ hl
theorem tb_gd {w : Cond} (h : w ∈ TBL) : w ∈ TBL ∧ ((w.onTables && w.keeps) = true ∨ ∃ ty, w = .arrayClass ty) := ⟨h, good_of_word (tb_good w h)⟩
theorem tb_gV {own C : String} {idx : Nat} {y : MethodName} {cc : ByteArray} {n : Nat} {rt : Option FieldType} (w1 : Cond.methodLink own idx y ∈ TBL) (w2 : Cond.instanceMethod y ∈ TBL) (w3 : Cond.selects C y y ∈ TBL) (w4 : Cond.initialized C ∈ TBL) (w5 : Cond.code y cc n rt ∈ TBL) : GoodIn TBL (wsV own idx C y (.code y cc n rt :: TBL)) := by
  intro w hw
  refine tb_gd ?_
  simp only [wsV, List.mem_append, List.mem_cons, List.not_mem_nil, or_false] at hw
  rcases hw with (rfl | rfl | rfl | rfl) | rfl | h
  · exact w1
  · exact w2
  · exact w3
  · exact w4
  · exact w5
  · exact h
theorem tb_gS {own : String} {idx : Nat} {y : MethodName} {cc : ByteArray} {n : Nat} {rt : Option FieldType} (w1 : Cond.methodLink own idx y ∈ TBL) (w2 : Cond.static y ∈ TBL) (w4 : Cond.initialized own ∈ TBL) (w5 : Cond.code y cc n rt ∈ TBL) : GoodIn TBL (wsS own idx y (.code y cc n rt :: TBL)) := by
  intro w hw
  refine tb_gd ?_
  simp only [wsS, List.mem_append, List.mem_cons, List.not_mem_nil, or_false] at hw
  rcases hw with (rfl | rfl | rfl) | rfl | h
  · exact w1
  · exact w2
  · exact w4
  · exact w5
  · exact h
theorem tb_gC {y : MethodName} {cc : ByteArray} {n : Nat} {rt : Option FieldType} (w5 : Cond.code y cc n rt ∈ TBL) : GoodIn TBL (.code y cc n rt :: TBL) := by
  intro w hw
  refine tb_gd ?_
  rcases List.mem_cons.mp hw with rfl | h
  · exact w5
  · exact h
theorem AtW.free {E : EV} {V : va_W} {A : Nat → Prop} {s : State} {H : Heap} {locs : List Loc} (hV : AtW E V A s H locs) : ∀ q : Nat, va_A V H.size q → A q := by
  intro q hq
  rcases hq with ⟨k, e, hk⟩ | hq
  · exact hV.2.2.1.2 k (q, e) hk
  · exact hV.2.2.2.2.2 q (Nat.le_trans hV.2.2.2.2.1.1 hq)
section CORE
variable {p : Program} {l : Launch} {e : Env} {R : Room} {s : State} {m : MethodId} {a : Array Value} {below : List Frame} {meth : Method} {c : Code} {H : Heap} {locs : List Loc} {cells slots : Nat} {Q : State → Prop}
variable {cc : ByteArray} {own : String} {nL pc : Nat} {ls : Array Slot} {rest st : List Value} {E : EV} {V V' : va_W} {A : Nat → Prop}
theorem r_ireti (cx : CallFix p m c cc nL s a TBL own) (hr : meth.sig.returnType = some .int) (hlk : meth.locks = false) (hV : AtW E V A s H locs) {rv : Int32} (d : decode cc pc = .ok (.ireturn, 1)) : W p l e R s m a below meth c H locs 0 0 (EQ E V (qI rv) A s a below) (F0 m pc ls [.int rv]) :=
  W.iret cx.1 cx.2.1 hr (fun t ht hWm => ⟨⟨rv, (), rfl, rfl, by show va_P _ _ _ _; rw [ht]; exact hV.2.2.2.1⟩, hV.2.2.2.2.1.F ht⟩) hV.2.2.2.2.1.2.2 d hlk
theorem r_zreti (cx : CallFix p m c cc nL s a TBL own) (hr : meth.sig.returnType = some .boolean) (hlk : meth.locks = false) (hV : AtW E V A s H locs) {rv : Int32} (hz : rv = 0 ∨ rv = 1) (d : decode cc pc = .ok (.ireturn, 1)) : W p l e R s m a below meth c H locs 0 0 (EQ E V (qI rv) A s a below) (F0 m pc ls [.int rv]) :=
  W.zret cx.1 cx.2.1 hr (by rcases hz with rfl | rfl <;> rfl) (fun t ht hWm => ⟨⟨rv, (), rfl, rfl, by show va_P _ _ _ _; rw [ht]; exact hV.2.2.2.1⟩, hV.2.2.2.2.1.F ht⟩) hV.2.2.2.2.1.2.2 d hlk
theorem r_lret (cx : CallFix p m c cc nL s a TBL own) (hr : meth.sig.returnType = some .long) (hlk : meth.locks = false) (hV : AtW E V A s H locs) {rv : Int64} (d : decode cc pc = .ok (.lreturn, 1)) : W p l e R s m a below meth c H locs 0 0 (EQ E V (qL rv) A s a below) (F0 m pc ls [.long rv]) :=
  W.lret cx.1 cx.2.1 hr (fun t ht hWm => ⟨⟨rv, (), rfl, rfl, by show va_P _ _ _ _; rw [ht]; exact hV.2.2.2.1⟩, hV.2.2.2.2.1.F ht⟩) hV.2.2.2.2.1.2.2 d hlk
theorem r_vret (cx : CallFix p m c cc nL s a TBL own) (hr : meth.sig.returnType = none) (hlk : meth.locks = false) (hV : AtW E V A s H locs) (d : decode cc pc = .ok (.return_, 1)) : W p l e R s m a below meth c H locs 0 0 (EQ E V qV A s a below) (F0 m pc ls []) :=
  W.vret cx.1 cx.2.1 hr (fun t ht hWm => ⟨⟨(), rfl, trivial, by show va_P _ _ _ _; rw [ht]; exact hV.2.2.2.1⟩, hV.2.2.2.2.1.F ht⟩) hV.2.2.2.2.1.2.2 d hlk
theorem r_pre (hV : AtW E V A s H locs) {args : List Value} : ∀ U : State, U.heap = H → s.WarmedH U.vm → va_Pc args (PreW E V H.size) args.toArray U :=
  fun U hU hW => ⟨rfl, by rw [hU], by rw [hU]; exact hV.2.2.2.1, va_K.moved hW.alike hV.1, NW.warm hW hV.2.1, hV.2.2.1.weaken (fun _ _ _ _ => trivial)⟩
theorem r_calli {y : MethodName} {bytes : ByteArray} {maxL idx n ci q0 a0 : Nat} {rt : Option FieldType} {rm : Room} {As : List Value} {rv : Int32} {qq : vw_C} {fs : List Value}
    (hM : CM l y bytes maxL rt rm (.ref a0 :: As) E V V' (qI rv)) (hadr : V'.map Prod.fst = V.map Prod.fst) (hq : V[q0]? = some (a0, .inr (ci, fs))) (hc : vwCl[ci]? = some qq)
    (w2 : Cond.instanceMethod y ∈ TBL) (w3 : Cond.selects qq.1 y y ∈ TBL) (w4 : Cond.initialized qq.1 ∈ TBL) (w5 : Cond.code y bytes maxL rt ∈ TBL)
    (hd : y.cls = qq.1 ∧ y.cls ≠ "java/lang/invoke/MethodHandle" ∧ y.cls ≠ "java/lang/invoke/VarHandle" ∧ (parseMethodDescriptor y.desc).map (fun d => d.parameters.length) = some n) (hn : As.length = n) (hrm : rm.cells = 0 ∧ rm.slots = 0)
    (cx : CallFix p m c cc nL s a TBL own) (hV : AtW E V A s H locs) (w1 : Cond.methodLink own idx y ∈ TBL) (hR : rm.frames + 1 ≤ R.frames ∧ 8 + (maxL + 11) + rm.locals ≤ R.locals) (hcs : cells ≤ R.cells ∧ slots ≤ R.slots)
    (hls : ls.size = nL) (hst : st = As.reverse ++ .ref a0 :: rest) (hcat : (rest.map fun v => v.category).sum ≤ 8) (hdg : decode cc pc = .ok (.invokevirtual idx, 3))
    (kk : ∀ (H1 : Heap) (locs1 : List Loc), AtW E V' A s H1 locs1 → W p l e R s m a below meth c H1 locs1 cells slots Q (F0 m (pc + 3) ls (.int rv :: rest))) : W p l e R s m a below meth c H locs cells slots Q (F0 m pc ls st) := by
  refine va_calli (va_runV (As := As) (rest := rest) cx (hM H.size) (cwV n cx.2.2.2.2 (tb_gV w1 w2 w3 w4 w5) rfl hrm.1 hrm.2 hd hR) ⟨PreW.blind, va_recv hV.1 hV.2.2.2.1 hc hq, r_pre hV⟩ rfl hn hls hst (lv_room hcat) hdg hcs) hV.2.2.2.2.1 (fun q _ h => hV.free q h) hV.free (fun r u t H1 locs1 ht hvm hw hB hz1 hk1 hS => ?_)
  cases hw
  exact kk H1 locs1 ⟨hV.1, hV.2.1, va_D_fst hadr hV.2.2.1, by rw [← ht]; exact hB, hS, hV.2.2.2.2.2⟩
theorem r_calll {y : MethodName} {bytes : ByteArray} {maxL idx n ci q0 a0 : Nat} {rt : Option FieldType} {rm : Room} {As : List Value} {rv : Int64} {qq : vw_C} {fs : List Value}
    (hM : CM l y bytes maxL rt rm (.ref a0 :: As) E V V' (qL rv)) (hadr : V'.map Prod.fst = V.map Prod.fst) (hq : V[q0]? = some (a0, .inr (ci, fs))) (hc : vwCl[ci]? = some qq)
    (w2 : Cond.instanceMethod y ∈ TBL) (w3 : Cond.selects qq.1 y y ∈ TBL) (w4 : Cond.initialized qq.1 ∈ TBL) (w5 : Cond.code y bytes maxL rt ∈ TBL)
    (hd : y.cls = qq.1 ∧ y.cls ≠ "java/lang/invoke/MethodHandle" ∧ y.cls ≠ "java/lang/invoke/VarHandle" ∧ (parseMethodDescriptor y.desc).map (fun d => d.parameters.length) = some n) (hn : As.length = n) (hrm : rm.cells = 0 ∧ rm.slots = 0)
    (cx : CallFix p m c cc nL s a TBL own) (hV : AtW E V A s H locs) (w1 : Cond.methodLink own idx y ∈ TBL) (hR : rm.frames + 1 ≤ R.frames ∧ 8 + (maxL + 11) + rm.locals ≤ R.locals) (hcs : cells ≤ R.cells ∧ slots ≤ R.slots)
    (hls : ls.size = nL) (hst : st = As.reverse ++ .ref a0 :: rest) (hcat : (rest.map fun v => v.category).sum ≤ 8) (hdg : decode cc pc = .ok (.invokevirtual idx, 3))
    (kk : ∀ (H1 : Heap) (locs1 : List Loc), AtW E V' A s H1 locs1 → W p l e R s m a below meth c H1 locs1 cells slots Q (F0 m (pc + 3) ls (.long rv :: rest))) : W p l e R s m a below meth c H locs cells slots Q (F0 m pc ls st) := by
  refine va_calll (va_runV (As := As) (rest := rest) cx (hM H.size) (cwV n cx.2.2.2.2 (tb_gV w1 w2 w3 w4 w5) rfl hrm.1 hrm.2 hd hR) ⟨PreW.blind, va_recv hV.1 hV.2.2.2.1 hc hq, r_pre hV⟩ rfl hn hls hst (lv_room hcat) hdg hcs) hV.2.2.2.2.1 (fun q _ h => hV.free q h) hV.free (fun r u t H1 locs1 ht hvm hw hB hz1 hk1 hS => ?_)
  cases hw
  exact kk H1 locs1 ⟨hV.1, hV.2.1, va_D_fst hadr hV.2.2.1, by rw [← ht]; exact hB, hS, hV.2.2.2.2.2⟩
theorem r_callv {y : MethodName} {bytes : ByteArray} {maxL idx n ci q0 a0 : Nat} {rt : Option FieldType} {rm : Room} {As : List Value} {qq : vw_C} {fs : List Value}
    (hM : CM l y bytes maxL rt rm (.ref a0 :: As) E V V' qV) (hadr : V'.map Prod.fst = V.map Prod.fst) (hq : V[q0]? = some (a0, .inr (ci, fs))) (hc : vwCl[ci]? = some qq)
    (w2 : Cond.instanceMethod y ∈ TBL) (w3 : Cond.selects qq.1 y y ∈ TBL) (w4 : Cond.initialized qq.1 ∈ TBL) (w5 : Cond.code y bytes maxL rt ∈ TBL)
    (hd : y.cls = qq.1 ∧ y.cls ≠ "java/lang/invoke/MethodHandle" ∧ y.cls ≠ "java/lang/invoke/VarHandle" ∧ (parseMethodDescriptor y.desc).map (fun d => d.parameters.length) = some n) (hn : As.length = n) (hrm : rm.cells = 0 ∧ rm.slots = 0)
    (cx : CallFix p m c cc nL s a TBL own) (hV : AtW E V A s H locs) (w1 : Cond.methodLink own idx y ∈ TBL) (hR : rm.frames + 1 ≤ R.frames ∧ 8 + (maxL + 11) + rm.locals ≤ R.locals) (hcs : cells ≤ R.cells ∧ slots ≤ R.slots)
    (hls : ls.size = nL) (hst : st = As.reverse ++ .ref a0 :: rest) (hcat : (rest.map fun v => v.category).sum ≤ 8) (hdg : decode cc pc = .ok (.invokevirtual idx, 3))
    (kk : ∀ (H1 : Heap) (locs1 : List Loc), AtW E V' A s H1 locs1 → W p l e R s m a below meth c H1 locs1 cells slots Q (F0 m (pc + 3) ls rest)) : W p l e R s m a below meth c H locs cells slots Q (F0 m pc ls st) := by
  refine va_callv (va_runV (As := As) (rest := rest) cx (hM H.size) (cwV n cx.2.2.2.2 (tb_gV w1 w2 w3 w4 w5) rfl hrm.1 hrm.2 hd hR) ⟨PreW.blind, va_recv hV.1 hV.2.2.2.1 hc hq, r_pre hV⟩ rfl hn hls hst (lv_room hcat) hdg hcs) hV.2.2.2.2.1 (fun q _ h => hV.free q h) hV.free (fun u t H1 locs1 ht hvm hw hB hz1 hk1 hS => ?_)
  exact kk H1 locs1 ⟨hV.1, hV.2.1, va_D_fst hadr hV.2.2.1, by rw [← ht]; exact hB, hS, hV.2.2.2.2.2⟩
theorem r_getf (cx : CallFix p m c cc nL s a TBL own) (hV : AtW E V A s H locs) (q0 : Nat) {a0 ci idx N : Nat} {fs : List Value} {C ref : String} {T : u_T} (he : V[q0]? = some (a0, .inr (ci, fs))) (hc : vwCl[ci]? = some (C, T, N)) (hin : ∀ w ∈ u_ws C T N, w ∈ TBL) (k : Nat) (hk : k < N)
    (hl : Cond.fieldLink own idx ref (T k).2.1 (T k).2.2.1 ∈ TBL) (hs : (T k).1 = ref) {v : Value} (hv : fs[k]? = some v) (d : decode cc pc = .ok (.getfield idx, 3))
    (kk : W p l e R s m a below meth c H locs cells slots Q (F0 m (pc + 3) ls (v :: rest))) : W p l e R s m a below meth c H locs cells slots Q (F0 m pc ls (.ref a0 :: rest)) :=
  va_get cx.1 cx.2.1 cx.2.2.2.2 hin cx.2.2.2.1 hV.1 hV.2.2.2.1 q0 he hc k hk (cx.2.2.2.2 _ hl) (fun x hx => hs ▸ hx) hv d kk
theorem r_putf (cx : CallFix p m c cc nL s a TBL own) (hV : AtW E V A s H locs) (q0 : Nat) {a0 ci idx N : Nat} {fs : List Value} {C ref : String} {T : u_T} (he : V[q0]? = some (a0, .inr (ci, fs))) (hc : vwCl[ci]? = some (C, T, N)) (hin : ∀ w ∈ u_ws C T N, w ∈ TBL)
    (ty0 : Nat → FieldType) (hty : ∀ k, k < N → parseFieldDescriptor (T k).2.2.1 = some (ty0 k)) (hnm : ∀ a, a < N → ∀ b, b < N → a ≠ b → (T a).2.1 ≠ (T b).2.1) (k : Nat) (hk : k < N)
    (hl : Cond.fieldLink own idx ref (T k).2.1 (T k).2.2.1 ∈ TBL) (hs : (T k).1 = ref) (hfin : (T k).2.2.2 = false) {ty : FieldType} {v : Value} (hd : parseFieldDescriptor (T k).2.2.1 = some ty) (hn : narrow ty v = v) (hfit : fits ty v = true) (hlen : k < fs.length)
    (hV' : V.set q0 (a0, .inr (ci, fs.set k v)) = V') (d : decode cc pc = .ok (.putfield idx, 3))
    (kk : ∀ (H1 : Heap) (locs1 : List Loc), AtW E V' A s H1 locs1 → W p l e R s m a below meth c H1 locs1 cells slots Q (F0 m (pc + 3) ls rest)) : W p l e R s m a below meth c H locs cells slots Q (F0 m pc ls (v :: .ref a0 :: rest)) :=
  va_put cx.1 cx.2.1 cx.2.2.2.2 hin ty0 hty hnm cx.2.2.2.1 hV.1 hV.2.2.2.1 hV.2.2.1 hV.2.2.2.2.1 q0 he hc k hk (cx.2.2.2.2 _ hl) (fun x hx => hs ▸ hx) hfin hd hn hfit hlen d
    (fun H1 locs1 hP hD hS => kk H1 locs1 ⟨hV.1, hV.2.1, hV' ▸ hD, hV' ▸ hP, hS, hV.2.2.2.2.2⟩)
theorem r_iald (cx : CallFix p m c cc nL s a TBL own) (hV : AtW E V A s H locs) (q0 : Nat) {a0 n : Nat} {f : Nat → Int32} (he : V[q0]? = some (a0, .inl (eI E, n, .inl f))) {i : Int32} (hin : vp_in i n) (d : decode cc pc = .ok (.iaload, 1))
    (kk : W p l e R s m a below meth c H locs cells slots Q (F0 m (pc + 1) ls (.int (f i.toNatClampNeg) :: rest))) : W p l e R s m a below meth c H locs cells slots Q (F0 m pc ls (.int i :: .ref a0 :: rest)) :=
  va_iald cx.1 cx.2.1 hV.1 hV.2.2.2.1 q0 0 he rfl hin d kk
theorem r_iast (cx : CallFix p m c cc nL s a TBL own) (hV : AtW E V A s H locs) (q0 : Nat) {a0 n : Nat} {f : Nat → Int32} (he : V[q0]? = some (a0, .inl (eI E, n, .inl f))) {i x : Int32} (hin : vp_in i n) (hV' : V.set q0 (a0, .inl (eI E, n, .inl (upd f i.toNatClampNeg x))) = V') (d : decode cc pc = .ok (.iastore, 1))
    (kk : ∀ (H1 : Heap) (locs1 : List Loc), AtW E V' A s H1 locs1 → W p l e R s m a below meth c H1 locs1 cells slots Q (F0 m (pc + 1) ls rest)) : W p l e R s m a below meth c H locs cells slots Q (F0 m pc ls (.int x :: .int i :: .ref a0 :: rest)) :=
  va_iast cx.1 cx.2.1 hV.1 hV.2.2.2.1 hV.2.2.1 hV.2.2.2.2.1 q0 0 he rfl hin d (fun H1 locs1 hP hD hS => kk H1 locs1 ⟨hV.1, hV.2.1, hV' ▸ hD, hV' ▸ hP, hS, hV.2.2.2.2.2⟩)
theorem r_lald (cx : CallFix p m c cc nL s a TBL own) (hV : AtW E V A s H locs) (q0 : Nat) {a0 n : Nat} {f : Nat → Int64} (he : V[q0]? = some (a0, .inl (eJ E, n, .inr (.inl f)))) {i : Int32} (hin : vp_in i n) (d : decode cc pc = .ok (.laload, 1))
    (kk : W p l e R s m a below meth c H locs cells slots Q (F0 m (pc + 1) ls (.long (f i.toNatClampNeg) :: rest))) : W p l e R s m a below meth c H locs cells slots Q (F0 m pc ls (.int i :: .ref a0 :: rest)) :=
  va_lald cx.1 cx.2.1 hV.1 hV.2.2.2.1 q0 1 he rfl hin d kk
theorem r_last (cx : CallFix p m c cc nL s a TBL own) (hV : AtW E V A s H locs) (q0 : Nat) {a0 n : Nat} {f : Nat → Int64} (he : V[q0]? = some (a0, .inl (eJ E, n, .inr (.inl f)))) {i : Int32} {x : Int64} (hin : vp_in i n) (hV' : V.set q0 (a0, .inl (eJ E, n, .inr (.inl (vp_updL f i.toNatClampNeg x)))) = V') (d : decode cc pc = .ok (.lastore, 1))
    (kk : ∀ (H1 : Heap) (locs1 : List Loc), AtW E V' A s H1 locs1 → W p l e R s m a below meth c H1 locs1 cells slots Q (F0 m (pc + 1) ls rest)) : W p l e R s m a below meth c H locs cells slots Q (F0 m pc ls (.long x :: .int i :: .ref a0 :: rest)) :=
  va_last cx.1 cx.2.1 hV.1 hV.2.2.2.1 hV.2.2.1 hV.2.2.2.2.1 q0 1 he rfl hin d (fun H1 locs1 hP hD hS => kk H1 locs1 ⟨hV.1, hV.2.1, hV' ▸ hD, hV' ▸ hP, hS, hV.2.2.2.2.2⟩)
theorem r_alenI (cx : CallFix p m c cc nL s a TBL own) (hV : AtW E V A s H locs) (q0 : Nat) {a0 n : Nat} {f : Nat → Int32} (he : V[q0]? = some (a0, .inl (eI E, n, .inl f))) (d : decode cc pc = .ok (.arraylength, 1))
    (kk : W p l e R s m a below meth c H locs cells slots Q (F0 m (pc + 1) ls (.int (nI n) :: rest))) : W p l e R s m a below meth c H locs cells slots Q (F0 m pc ls (.ref a0 :: rest)) :=
  va_alen cx.1 cx.2.1 hV.1 hV.2.2.2.1 q0 0 he rfl rfl d kk
theorem r_alenJ (cx : CallFix p m c cc nL s a TBL own) (hV : AtW E V A s H locs) (q0 : Nat) {a0 n : Nat} {f : Nat → Int64} (he : V[q0]? = some (a0, .inl (eJ E, n, .inr (.inl f)))) (d : decode cc pc = .ok (.arraylength, 1))
    (kk : W p l e R s m a below meth c H locs cells slots Q (F0 m (pc + 1) ls (.int (nI n) :: rest))) : W p l e R s m a below meth c H locs cells slots Q (F0 m pc ls (.ref a0 :: rest)) :=
  va_alen cx.1 cx.2.1 hV.1 hV.2.2.2.1 q0 1 he rfl rfl d kk
end CORE
