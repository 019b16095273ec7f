/-! what stays as it is outside of a method's cells: two statics, String constants, words that are asked at each call; contracts of methods that need it, and of methods that throw -/
def exN (n : Nat) : String := match n with
  | 1 => "java/lang/IndexOutOfBoundsException"
  | 2 => "java/util/NoSuchElementException"
  | 3 => "java/lang/IllegalArgumentException"
  | _ => "java/lang/IllegalStateException"
def xW : List Cond := [.castable "java/lang/IndexOutOfBoundsException" "java/lang/IndexOutOfBoundsException", .castable "java/util/NoSuchElementException" "java/util/NoSuchElementException", .castable "java/lang/IllegalArgumentException" "java/lang/IllegalArgumentException", .castable "java/lang/IllegalStateException" "java/lang/IllegalStateException",
  .declares ⟨"java/lang/RuntimeException", "<init>", "(Ljava/lang/String;)V"⟩, .declares ⟨"java/lang/Exception", "<init>", "(Ljava/lang/String;)V"⟩, .declares ⟨"java/lang/Throwable", "<init>", "(Ljava/lang/String;)V"⟩]
def xNW (U : State) : Prop := ∀ w ∈ xW, va_Nw w U
theorem xNW.warm {s U : State} (hW : s.WarmedH U.vm) (h : xNW s) : xNW U := by
  intro w hw
  have h1 := h w hw
  simp only [xW, List.mem_cons, List.not_mem_nil, or_false] at hw
  rcases hw with rfl | rfl | rfl | rfl | rfl | rfl | rfl
  · exact va_Nw.warmC hW h1
  · exact va_Nw.warmC hW h1
  · exact va_Nw.warmC hW h1
  · exact va_Nw.warmC hW h1
  · exact va_Nw.warmD hW h1
  · exact va_Nw.warmD hW h1
  · exact va_Nw.warmD hW h1
/-- the words that a text may be, 0 to 8; behind them what refusals say -/
def txS (i : Nat) : String := match i with
  | 0 => "crate"
  | 1 => "sleeve"
  | 2 => "lies"
  | 3 => "disc"
  | 4 => "looker"
  | 5 => "left"
  | 6 => "miss"
  | 7 => "stop"
  | _ => "back"
def kR (i : Nat) : Nat := [173, 175, 177, 179, 181, 183, 185, 187, 188].getD i 0
def kMo (i : Nat) : Nat := [255, 221, 230, 232, 233, 234, 236, 238, 239].getD i 0
def bytS : List (List Int32) := [[99, 114, 97, 116, 101], [115, 108, 101, 101, 118, 101], [108, 105, 101, 115], [100, 105, 115, 99], [108, 111, 111, 107, 101, 114], [108, 101, 102, 116], [109, 105, 115, 115], [115, 116, 111, 112], [98, 97, 99, 107]]
def lenS : List Nat := [5, 6, 4, 4, 6, 4, 4, 4, 4]
def adS (E : EV) (i : Nat) : Nat := eA E (1000 + i)
def adB (E : EV) (i : Nat) : Nat := eA E (2000 + i)
def FZ (E : EV) (A : Nat → Prop) (U : State) (H : Heap) : Prop :=
  vx_Zq Bundle.tN "UNASSIGNED_STACK" Bundle.steD A U H ∧ vx_Zq Bundle.tN "SUPPRESSED_SENTINEL" Bundle.listD A U H ∧ xNW U ∧
  vk_S 9 lenS bytS (adS E) (adB E) A U H ∧ (∀ i : Nat, i < 9 → vk_R "FlickedCrates$Reader" (kR i) (txS i) (adS E i) U) ∧ (∀ i : Nat, i < 9 → vk_R "FlickedCratesModel" (kMo i) (txS i) (adS E i) U) ∧
  (∃ a, vk_R "FlickedCrates" 344 "no such crate" a U) ∧ (∃ a, vk_R "FlickedCrates" 351 "no such sleeve" a U) ∧ (∃ a, vk_R "FlickedCrates" 354 "no such looker" a U) ∧ (∃ a, vk_R "FlickedCrates" 358 "a number that does not fit" a U) ∧ (∃ a, vk_R "FlickedCrates" 363 "the sleeve is sold" a U) ∧
  va_Z "java/lang/String" "COMPACT_STRINGS" "Z" (.int 1) A U H ∧ va_Zq "jdk/internal/util/Preconditions" "SIOOBE_FORMATTER" "Ljava/util/function/BiFunction;" A U H
theorem FZ.call {E : EV} {A B : Nat → Prop} {s U : State} {H0 H : Heap} (hW : s.WarmedH U.vm) (hBA : ∀ q, B q → A q) (hk : ∀ q : Nat, q < H0.size → ¬ A q → H[q]? = H0[q]?) (h : FZ E A s H0) : FZ E B U H := by
  obtain ⟨h1, h2, h3, h4, h5, h6, ⟨a1, h7⟩, ⟨a2, h8⟩, ⟨a3, h9⟩, ⟨a4, h10⟩, ⟨a5, h11⟩, h12, h13⟩ := h
  exact ⟨(vx_Zq.moved hW.alike (h1.kept hk)).narrow hBA, (vx_Zq.moved hW.alike (h2.kept hk)).narrow hBA, xNW.warm hW h3, (vk_S.moved hW.alike (h4.kept hk)).narrow hBA, fun i hi => vk_R.warm hW (h5 i hi), fun i hi => vk_R.warm hW (h6 i hi),
    ⟨a1, vk_R.warm hW h7⟩, ⟨a2, vk_R.warm hW h8⟩, ⟨a3, vk_R.warm hW h9⟩, ⟨a4, vk_R.warm hW h10⟩, ⟨a5, vk_R.warm hW h11⟩, (va_Z.moved hW.alike (h12.kept hk)).narrow hBA, (va_Zq.moved hW.alike (h13.kept hk)).narrow hBA⟩
def PreF (E : EV) (V : va_W) (sz : Nat) (U : State) : Prop := PreW E V sz U ∧ FZ E (va_A V sz) U U.heap
theorem PreF.blind {args : List Value} {E : EV} {V : va_W} {sz : Nat} : FrameBlind (va_Pc args (PreF E V sz)) := by
  intro a U g mk q
  obtain ⟨q0, q1, q2⟩ := q
  obtain ⟨h1, h2⟩ := PreW.blind (args := args) (E := E) (V := V) (sz := sz) a U g mk ⟨q0, q1⟩
  exact ⟨h1, h2, FZ.call (s := U) (U := U.calling g mk a) (H0 := U.heap) (H := U.heap) (State.WarmedH.refl U) (fun _ h => h) (fun _ _ _ => rfl) q2⟩
def CMF (l : Launch) (y : MethodName) (cc : ByteArray) (n : Nat) (rt : Option FieldType) (rm : Room) (args : List Value) (E : EV) (V V' : va_W) (q : qT) : Prop :=
  ∀ sz : Nat, Met l y (.code y cc n rt :: TBL) rm (va_Pc args (PreF E V sz)) (q (PostW E V') (va_A V sz)) 0 0 (va_A V sz)
theorem CMF.start {l : Launch} {y : MethodName} {cc : ByteArray} {n : Nat} {rt : Option FieldType} {rm : Room} {args : List Value} {E : EV} {V V' : va_W} {q : qT} (hy : plainName y.cls = true) (hlen : (lg_sl args).length ≤ n)
    (body : ∀ (p : Program) (e : Env) (s : State) (m : MethodId) (a : Array Value) (below : List Frame) (meth : Method) (c : Code) (A : Nat → Prop) (ls : Array Slot), CallFix p m c cc n s a TBL y.cls → meth.sig.returnType = rt → meth.locks = false → AtW E V A s s.heap [] → FZ E A s s.heap → lv_has ls n (lv_args 0 args) →
      W p l e rm s m a below meth c s.heap [] 0 0 (EQ E V' q A s a below) (F0 m 0 ls [])) : CMF l y cc n rt rm args E V V' q := by
  intro sz
  refine Met.ofW (cc := cc) (maxL := n) (ret := rt) hy rfl ?_
  intro p e s m a below meth c s₁ B hml hv
  obtain ⟨rfl, ⟨hsz, hP, hK, hN, hD0⟩, hF⟩ := hv
  subst hsz
  have hts := atoms_spec (ws := .code y cc n rt :: TBL) B.pre
  have hts' : ∀ w ∈ TBL, w.before args.toArray s = true := fun w h => hts w (List.mem_cons_of_mem _ h)
  have hown : s.vm.findClass y.cls = some m.cls := findClass_of_methodNamed B.named
  have hl := lv_entry args (n := n) hlen
  rw [lg_entry_eq]
  exact body p e s m _ below meth c (va_A V s.heap.size) _ ⟨B.exec, B.bytes, hml, hown, hts'⟩ B.returns B.notSynchronized ⟨hK, hN, hD0.self, hP, va_S.rf, fun q h => Or.inr h⟩ hF hl
def XX (E : EV) (V' : va_W) (Ex : String) (A : Nat → Prop) : String → State → State → Prop := vx_X (fun (_ : Unit) => True) (fun E' _ t => E' = Ex ∧ PostW E V' t) A
def QN (A : Nat → Prop) : Array Value → State → Outcome → State → Prop := va_Qv (fun (_ : Unit) => False) (fun _ _ => True) A
def CXF (l : Launch) (y : MethodName) (cc : ByteArray) (n : Nat) (rt : Option FieldType) (rm : Room) (args : List Value) (E : EV) (V V' : va_W) (Ex : String) : Prop :=
  ∀ sz : Nat, vx_Met l y (.code y cc n rt :: TBL) rm (va_Pc args (PreF E V sz)) (QN (va_A V sz)) (XX E V' Ex (va_A V sz)) 1 6 (va_A V sz)
def EX (E : EV) (V' : va_W) (Ex : String) (A : Nat → Prop) (s : State) (a : Array Value) (below : List Frame) : State → Prop := vx_MQ below (QN A) (XX E V' Ex A) a s 1 6 A
theorem CXF.start {l : Launch} {y : MethodName} {cc : ByteArray} {n : Nat} {rt : Option FieldType} {rm : Room} {args : List Value} {E : EV} {V V' : va_W} {Ex : String} (hy : plainName y.cls = true) (hlen : (lg_sl args).length ≤ n)
    (body : ∀ (p : Program) (e : Env) (s : State) (m : MethodId) (a : Array Value) (below : List Frame) (meth : Method) (c : Code) (A : Nat → Prop) (ls : Array Slot), CallFix p m c cc n s a TBL y.cls → (∀ x ∈ c.exceptionTable.toList, False) → meth.locks = false → AtW E V A s s.heap [] → FZ E A s s.heap → lv_has ls n (lv_args 0 args) →
      W p l e rm s m a below meth c s.heap [] 0 0 (EX E V' Ex A s a below) (F0 m 0 ls [])) : CXF l y cc n rt rm args E V V' Ex := by
  intro sz
  refine vx_ofW (cc := cc) (maxL := n) (ret := rt) hy rfl ?_
  intro p e s m a below meth c s₁ B hml hx0 hv
  obtain ⟨rfl, ⟨hsz, hP, hK, hN, hD0⟩, hF⟩ := hv
  subst hsz
  have hts := atoms_spec (ws := .code y cc n rt :: TBL) B.pre
  have hts' : ∀ w ∈ TBL, w.before args.toArray s = true := fun w h => hts w (List.mem_cons_of_mem _ h)
  have hown : s.vm.findClass y.cls = some m.cls := findClass_of_methodNamed B.named
  have hl := lv_entry args (n := n) hlen
  rw [lg_entry_eq]
  exact body p e s m _ below meth c (va_A V s.heap.size) _ ⟨B.exec, B.bytes, hml, hown, hts'⟩ hx0 B.notSynchronized ⟨hK, hN, hD0.self, hP, va_S.rf, fun q h => Or.inr h⟩ hF hl
theorem va_P_grow {D : va_G} {cl : List vw_C} {ws : va_W} {H H1 : Heap} (h : va_P D cl ws H) (hk : ∀ q : Nat, q < H.size → H1[q]? = H[q]?) : va_P D cl ws H1 := by
  intro k q hq
  have hlt := vx_lt h hq
  have h1 := h k q hq
  obtain ⟨a, x⟩ := q
  cases x with
  | inl x =>
    have h1 : H[a]? = some (vp_cell x.1 x.2) := h1
    show H1[a]? = some (vp_cell x.1 x.2)
    rw [hk a hlt]; exact h1
  | inr o =>
    obtain ⟨r, h2, h3⟩ := h1
    exact ⟨r, h2, h3.kept (hk a hlt)⟩
def bt {α ρ δ : Type} (o : Option (α ⊕ ρ)) (f : α → Option (δ ⊕ ρ)) : Option (δ ⊕ ρ) := match o with
  | none => none
  | some (.inl x) => f x
  | some (.inr r) => some (.inr r)
def bt2 {α β ρ δ : Type} (o : Option ((α × β) ⊕ ρ)) (f : α → β → Option (δ ⊕ ρ)) : Option (δ ⊕ ρ) := match o with
  | none => none
  | some (.inl (x, y)) => f x y
  | some (.inr r) => some (.inr r)
theorem bt_e {α ρ δ : Type} {o : Option (α ⊕ ρ)} {f : α → Option (δ ⊕ ρ)} {r : δ ⊕ ρ} {G : Prop} (h : bt o f = some r) (k1 : ∀ x, o = some (.inl x) → f x = some r → G) (k2 : ∀ q, o = some (.inr q) → Sum.inr q = r → G) : G := by
  rcases o with _ | x | q
  · cases h
  · exact k1 x rfl h
  · exact k2 q rfl (Option.some.inj h)
theorem bt2_e {α β ρ δ : Type} {o : Option ((α × β) ⊕ ρ)} {f : α → β → Option (δ ⊕ ρ)} {r : δ ⊕ ρ} {G : Prop} (h : bt2 o f = some r) (k1 : ∀ x y, o = some (.inl (x, y)) → f x y = some r → G) (k2 : ∀ q, o = some (.inr q) → Sum.inr q = r → G) : G := by
  rcases o with _ | ⟨x, y⟩ | q
  · cases h
  · exact k1 x y rfl h
  · exact k2 q rfl (Option.some.inj h)
section FZR
variable {p : Program} {l : Launch} {e : Env} {R : Room} {s : State} {m : MethodId} {a : Array Value} {below : List Frame} {meth : Method} {c : Code} {H : Heap} {locs : List Loc} {cells slots : Nat} {Q : State → Prop}
variable {cc : ByteArray} {own : String} {nL pc : Nat} {ls : Array Slot} {rest st : List Value} {E : EV} {V V' : va_W} {A : Nat → Prop}
theorem r_preF (hV : AtW E V A s H locs) (hF : FZ E A s s.heap) {args : List Value} : ∀ U : State, U.heap = H → s.WarmedH U.vm → va_Pc args (PreF E V H.size) args.toArray U := by
  intro U hU hW
  obtain ⟨h1, h2⟩ := r_pre hV (args := args) U hU hW
  exact ⟨h1, h2, FZ.call hW hV.free (by rw [hU]; exact hV.2.2.2.2.1.2.1) hF⟩
theorem r_callFi {y : MethodName} {bytes : ByteArray} {maxL idx n ci q0 a0 : Nat} {rt : Option FieldType} {rm : Room} {As : List Value} {rv : Int32} {qq : vw_C} {fs : List Value}
    (hM : CMF l y bytes maxL rt rm (.ref a0 :: As) E V V' (qI rv)) (hadr : V'.map Prod.fst = V.map Prod.fst) (hq : V[q0]? = some (a0, .inr (ci, fs))) (hc : vwCl[ci]? = some qq)
    (w2 : Cond.instanceMethod y ∈ TBL) (w3 : Cond.selects qq.1 y y ∈ TBL) (w4 : Cond.initialized qq.1 ∈ TBL) (w5 : Cond.code y bytes maxL rt ∈ TBL)
    (hd : y.cls = qq.1 ∧ y.cls ≠ "java/lang/invoke/MethodHandle" ∧ y.cls ≠ "java/lang/invoke/VarHandle" ∧ (parseMethodDescriptor y.desc).map (fun d => d.parameters.length) = some n) (hn : As.length = n) (hrm : rm.cells = 0 ∧ rm.slots = 0)
    (cx : CallFix p m c cc nL s a TBL own) (hV : AtW E V A s H locs) (hF : FZ E A s s.heap) (w1 : Cond.methodLink own idx y ∈ TBL) (hR : rm.frames + 1 ≤ R.frames ∧ 8 + (maxL + 11) + rm.locals ≤ R.locals) (hcs : cells ≤ R.cells ∧ slots ≤ R.slots)
    (hls : ls.size = nL) (hst : st = As.reverse ++ .ref a0 :: rest) (hcat : (rest.map fun v => v.category).sum ≤ 8) (hdg : decode cc pc = .ok (.invokevirtual idx, 3))
    (kk : ∀ (H1 : Heap) (locs1 : List Loc), AtW E V' A s H1 locs1 → W p l e R s m a below meth c H1 locs1 cells slots Q (F0 m (pc + 3) ls (.int rv :: rest))) : W p l e R s m a below meth c H locs cells slots Q (F0 m pc ls st) := by
  refine va_calli (va_runV (As := As) (rest := rest) cx (hM H.size) (cwV n cx.2.2.2.2 (tb_gV w1 w2 w3 w4 w5) rfl hrm.1 hrm.2 hd hR) ⟨PreF.blind, va_recv hV.1 hV.2.2.2.1 hc hq, r_preF hV hF⟩ rfl hn hls hst (lv_room hcat) hdg hcs) hV.2.2.2.2.1 (fun q _ h => hV.free q h) hV.free (fun r u t H1 locs1 ht hvm hw hB hz1 hk1 hS => ?_)
  cases hw
  exact kk H1 locs1 ⟨hV.1, hV.2.1, va_D_fst hadr hV.2.2.1, by rw [← ht]; exact hB, hS, hV.2.2.2.2.2⟩
theorem r_callFl {y : MethodName} {bytes : ByteArray} {maxL idx n ci q0 a0 : Nat} {rt : Option FieldType} {rm : Room} {As : List Value} {rv : Int64} {qq : vw_C} {fs : List Value}
    (hM : CMF l y bytes maxL rt rm (.ref a0 :: As) E V V' (qL rv)) (hadr : V'.map Prod.fst = V.map Prod.fst) (hq : V[q0]? = some (a0, .inr (ci, fs))) (hc : vwCl[ci]? = some qq)
    (w2 : Cond.instanceMethod y ∈ TBL) (w3 : Cond.selects qq.1 y y ∈ TBL) (w4 : Cond.initialized qq.1 ∈ TBL) (w5 : Cond.code y bytes maxL rt ∈ TBL)
    (hd : y.cls = qq.1 ∧ y.cls ≠ "java/lang/invoke/MethodHandle" ∧ y.cls ≠ "java/lang/invoke/VarHandle" ∧ (parseMethodDescriptor y.desc).map (fun d => d.parameters.length) = some n) (hn : As.length = n) (hrm : rm.cells = 0 ∧ rm.slots = 0)
    (cx : CallFix p m c cc nL s a TBL own) (hV : AtW E V A s H locs) (hF : FZ E A s s.heap) (w1 : Cond.methodLink own idx y ∈ TBL) (hR : rm.frames + 1 ≤ R.frames ∧ 8 + (maxL + 11) + rm.locals ≤ R.locals) (hcs : cells ≤ R.cells ∧ slots ≤ R.slots)
    (hls : ls.size = nL) (hst : st = As.reverse ++ .ref a0 :: rest) (hcat : (rest.map fun v => v.category).sum ≤ 8) (hdg : decode cc pc = .ok (.invokevirtual idx, 3))
    (kk : ∀ (H1 : Heap) (locs1 : List Loc), AtW E V' A s H1 locs1 → W p l e R s m a below meth c H1 locs1 cells slots Q (F0 m (pc + 3) ls (.long rv :: rest))) : W p l e R s m a below meth c H locs cells slots Q (F0 m pc ls st) := by
  refine va_calll (va_runV (As := As) (rest := rest) cx (hM H.size) (cwV n cx.2.2.2.2 (tb_gV w1 w2 w3 w4 w5) rfl hrm.1 hrm.2 hd hR) ⟨PreF.blind, va_recv hV.1 hV.2.2.2.1 hc hq, r_preF hV hF⟩ rfl hn hls hst (lv_room hcat) hdg hcs) hV.2.2.2.2.1 (fun q _ h => hV.free q h) hV.free (fun r u t H1 locs1 ht hvm hw hB hz1 hk1 hS => ?_)
  cases hw
  exact kk H1 locs1 ⟨hV.1, hV.2.1, va_D_fst hadr hV.2.2.1, by rw [← ht]; exact hB, hS, hV.2.2.2.2.2⟩
theorem r_callFv {y : MethodName} {bytes : ByteArray} {maxL idx n ci q0 a0 : Nat} {rt : Option FieldType} {rm : Room} {As : List Value} {qq : vw_C} {fs : List Value}
    (hM : CMF l y bytes maxL rt rm (.ref a0 :: As) E V V' qV) (hadr : V'.map Prod.fst = V.map Prod.fst) (hq : V[q0]? = some (a0, .inr (ci, fs))) (hc : vwCl[ci]? = some qq)
    (w2 : Cond.instanceMethod y ∈ TBL) (w3 : Cond.selects qq.1 y y ∈ TBL) (w4 : Cond.initialized qq.1 ∈ TBL) (w5 : Cond.code y bytes maxL rt ∈ TBL)
    (hd : y.cls = qq.1 ∧ y.cls ≠ "java/lang/invoke/MethodHandle" ∧ y.cls ≠ "java/lang/invoke/VarHandle" ∧ (parseMethodDescriptor y.desc).map (fun d => d.parameters.length) = some n) (hn : As.length = n) (hrm : rm.cells = 0 ∧ rm.slots = 0)
    (cx : CallFix p m c cc nL s a TBL own) (hV : AtW E V A s H locs) (hF : FZ E A s s.heap) (w1 : Cond.methodLink own idx y ∈ TBL) (hR : rm.frames + 1 ≤ R.frames ∧ 8 + (maxL + 11) + rm.locals ≤ R.locals) (hcs : cells ≤ R.cells ∧ slots ≤ R.slots)
    (hls : ls.size = nL) (hst : st = As.reverse ++ .ref a0 :: rest) (hcat : (rest.map fun v => v.category).sum ≤ 8) (hdg : decode cc pc = .ok (.invokevirtual idx, 3))
    (kk : ∀ (H1 : Heap) (locs1 : List Loc), AtW E V' A s H1 locs1 → W p l e R s m a below meth c H1 locs1 cells slots Q (F0 m (pc + 3) ls rest)) : W p l e R s m a below meth c H locs cells slots Q (F0 m pc ls st) := by
  refine va_callv (va_runV (As := As) (rest := rest) cx (hM H.size) (cwV n cx.2.2.2.2 (tb_gV w1 w2 w3 w4 w5) rfl hrm.1 hrm.2 hd hR) ⟨PreF.blind, va_recv hV.1 hV.2.2.2.1 hc hq, r_preF hV hF⟩ rfl hn hls hst (lv_room hcat) hdg hcs) hV.2.2.2.2.1 (fun q _ h => hV.free q h) hV.free (fun u t H1 locs1 ht hvm hw hB hz1 hk1 hS => ?_)
  exact kk H1 locs1 ⟨hV.1, hV.2.1, va_D_fst hadr hV.2.2.1, by rw [← ht]; exact hB, hS, hV.2.2.2.2.2⟩
/-- a call that throws, in a method that lets it through -/
theorem r_callx {y : MethodName} {bytes : ByteArray} {maxL idx n ci q0 a0 : Nat} {rt : Option FieldType} {rm : Room} {As : List Value} {qq : vw_C} {fs : List Value} {Ex : String}
    (hM : CXF l y bytes maxL rt rm (.ref a0 :: As) E V V' Ex) (hq : V[q0]? = some (a0, .inr (ci, fs))) (hc : vwCl[ci]? = some qq)
    (w2 : Cond.instanceMethod y ∈ TBL) (w3 : Cond.selects qq.1 y y ∈ TBL) (w4 : Cond.initialized qq.1 ∈ TBL) (w5 : Cond.code y bytes maxL rt ∈ TBL)
    (hd : y.cls = qq.1 ∧ y.cls ≠ "java/lang/invoke/MethodHandle" ∧ y.cls ≠ "java/lang/invoke/VarHandle" ∧ (parseMethodDescriptor y.desc).map (fun d => d.parameters.length) = some n) (hn : As.length = n) (hrm : rm.cells = 1 ∧ rm.slots = 6)
    (cx : CallFix p m c cc nL s a TBL own) (hV : AtW E V A s H locs) (hF : FZ E A s s.heap) (hx0 : ∀ x ∈ c.exceptionTable.toList, False) (hlk : meth.locks = false) (w1 : Cond.methodLink own idx y ∈ TBL) (hR : rm.frames + 1 ≤ R.frames ∧ 8 + (maxL + 11) + rm.locals ≤ R.locals) (hcs : 1 ≤ R.cells ∧ 6 ≤ R.slots)
    (hls : ls.size = nL) (hst : st = As.reverse ++ .ref a0 :: rest) (hcat : (rest.map fun v => v.category).sum ≤ 8) (hdg : decode cc pc = .ok (.invokevirtual idx, 3)) : W p l e R s m a below meth c H locs 0 0 (EX E V' Ex A s a below) (F0 m pc ls st) := by
  refine vx_callv (vx_runV (As := As) (rest := rest) cx (hM H.size) (cwV n cx.2.2.2.2 (tb_gV w1 w2 w3 w4 w5) rfl hrm.1 hrm.2 hd hR) ⟨PreF.blind, va_recv hV.1 hV.2.2.2.1 hc hq, r_preF hV hF⟩ rfl hn hls hst (lv_room hcat) hdg ⟨by omega, by omega⟩) hV.2.2.2.2.1 (fun q _ h => hV.free q h) hV.free (fun q _ h => hV.free q h) (fun E' ce q9 u t H1 locs1 ht hvm hp hB hz1 hk1 hS hce hcv hcl => ?_) (fun u t H1 locs1 ht hvm hw hB hz1 hk1 hS => hw.elim)
  obtain ⟨rfl, hB⟩ := hB
  exact vx_out (fun x hx => (hx0 x hx).elim) hlk hce hcv hcl (fun t' ht' hW' => ⟨(), trivial, ⟨rfl, by show va_P _ _ _ _; rw [ht', ← ht]; exact hB⟩, hS.F ht'⟩) hS.2.2 (Nat.le_refl _) (Nat.le_refl _)
theorem at_ok {L : List Cond} (hts : ∀ w ∈ TBL, w.before a s = true) (hx : xNW s) (h1 : ∀ w ∈ L.filter goodWord, w ∈ lw_tbl) (h2 : ∀ w ∈ L.filter (fun w => !goodWord w), w ∈ xW) : ∀ w ∈ L, w.before a s = true := by
  refine vx_hat (B := xW) (fun w hw => hts w (tb_mem (h1 w hw) (List.mem_filter.mp hw).2)) h2 (fun w hw => ?_)
  have h := hx w hw
  simp only [xW, List.mem_cons, List.not_mem_nil, or_false] at hw
  rcases hw with rfl | rfl | rfl | rfl | rfl | rfl | rfl <;> exact va_Nw.use rfl h
end FZR
