/-! constructors: what is made stands behind what was there, in the order of its making -/
def CI (l : Launch) (y : MethodName) (cc : ByteArray) (n : Nat) (rm : Room) (args : List Value) (E : EV) (V : va_W) {S : Type} (V' : S → va_W) (mc ms : Nat) : Prop :=
  ∀ sz : Nat, Met l y (.code y cc n none :: TBL) rm (va_Pc args (PreW E V sz)) (va_Qv (fun (_ : S) => True) (fun u t => va_P (eD E) vwCl (V' u) t.heap ∧ va_D (va_A V sz) (V' u)) (va_A V sz)) mc ms (va_A V sz)
def EC (E : EV) {S : Type} (V' : S → va_W) (A : Nat → Prop) (s : State) (a : Array Value) (below : List Frame) (mc ms : Nat) : State → Prop := MQ below (va_Qv (fun (_ : S) => True) (fun u t => va_P (eD E) vwCl (V' u) t.heap ∧ va_D A (V' u)) A) a s mc ms A
theorem CI.start {l : Launch} {y : MethodName} {cc : ByteArray} {n : Nat} {rm : Room} {args : List Value} {E : EV} {V : va_W} {S : Type} {V' : S → va_W} {mc ms : Nat} (hy : plainName y.cls = true) (hlen : (lg_sl args).length ≤ n)
    (body : ∀ (p : Program) (e : Env) (s : State) (m : MethodId) (a : Array Value) (below : List Frame) (meth : Method) (c : Code) (A : Nat → Prop) (ls : Array Slot), CallFix p m c cc n s a TBL y.cls → meth.sig.returnType = none → meth.locks = false → meth.name = y.name → AtW E V A s s.heap [] → lv_has ls n (lv_args 0 args) →
      W p l e rm s m a below meth c s.heap [] 0 0 (EC E V' A s a below mc ms) (F0 m 0 ls [])) : CI l y cc n rm args E V V' mc ms := by
  intro sz
  refine Met.ofW (cc := cc) (maxL := n) (ret := none) hy rfl ?_
  intro p e s m a below meth c s₁ B hml hv
  obtain ⟨rfl, hsz, hP, hK, hN, hD0⟩ := hv
  subst hsz
  have hts := atoms_spec (ws := .code y cc n none :: TBL) B.pre
  have hts' : ∀ w ∈ TBL, w.before args.toArray s = true := fun w h => hts w (List.mem_cons_of_mem _ h)
  have hown : s.vm.findClass y.cls = some m.cls := findClass_of_methodNamed B.named
  have hl := lv_entry args (n := n) hlen
  rw [lg_entry_eq]
  exact body p e s m _ below meth c (va_A V s.heap.size) _ ⟨B.exec, B.bytes, hml, hown, hts'⟩ B.returns B.notSynchronized (name_of_methodNamed B.named B.method).1 ⟨hK, hN, hD0.self, hP, va_S.rf, fun q h => Or.inr h⟩ hl
theorem va_join_last {A0 : Nat → Prop} {D : va_G} {cl : List vw_C} {W1 w1 : va_W} {c0 : Nat × va_E} {H H1 : Heap} (hP : va_P D cl (W1 ++ [c0]) H) (hD : va_D A0 (W1 ++ [c0]))
    (hk : ∀ q : Nat, q < H.size → ¬ va_A [c0] H.size q → H1[q]? = H[q]?) (hF : ∀ q, va_A [c0] H.size q → A0 q) (hP1 : va_P D cl w1 H1) (hD1 : va_D (va_A [c0] H.size) w1) : va_P D cl (W1 ++ w1) H1 ∧ va_D A0 (W1 ++ w1) := by
  have hc0 : (W1 ++ [c0])[W1.length]? = some c0 := by simp
  have hW : ∀ (k : Nat) (q : Nat × va_E), W1[k]? = some q → (W1 ++ [c0])[k]? = some q := fun k q hq => by
    rw [List.getElem?_append_left (List.getElem?_eq_some_iff.mp hq).1]; exact hq
  have hne : ∀ (k : Nat) (q : Nat × va_E), W1[k]? = some q → q.1 ≠ c0.1 := fun k q hq e => by
    have h1 := hD.1 k W1.length q c0 (hW k q hq) hc0 e
    have h2 := (List.getElem?_eq_some_iff.mp hq).1
    omega
  have hlt : ∀ (k : Nat) (q : Nat × va_E), W1[k]? = some q → q.1 < H.size := fun k q hq => vx_lt hP (hW k q hq)
  have hnA : ∀ (k : Nat) (q : Nat × va_E), W1[k]? = some q → ¬ va_A [c0] H.size q.1 := fun k q hq h => by
    rcases h with ⟨j, e, hj⟩ | h
    · match j, hj with
      | 0, hj =>
        have hj : c0 = (q.1, e) := Option.some.inj hj
        exact hne k q hq (by rw [hj])
      | j + 1, hj => simp at hj
    · exact absurd (hlt k q hq) (by omega)
  refine ⟨fun k q hq => ?_, fun i j p q hp hq e => ?_, fun k q hq => ?_⟩
  · by_cases h : k < W1.length
    · rw [List.getElem?_append_left h] at hq
      have h1 := hP k q (hW k q hq)
      have h2 := hk q.1 (hlt k q hq) (hnA k q hq)
      obtain ⟨a, x⟩ := q
      cases x with
      | inl x =>
        have h1 : H[a]? = some (vp_cell x.1 x.2) := h1
        show H1[a]? = some (vp_cell x.1 x.2)
        rw [h2]; exact h1
      | inr o =>
        obtain ⟨r, h3, h4⟩ := h1
        exact ⟨r, h3, h4.kept h2⟩
    · rw [List.getElem?_append_right (by omega)] at hq
      exact hP1 _ q hq
  · by_cases hi : i < W1.length
    · rw [List.getElem?_append_left hi] at hp
      by_cases hj : j < W1.length
      · rw [List.getElem?_append_left hj] at hq
        exact hD.1 i j p q (hW i p hp) (hW j q hq) e
      · rw [List.getElem?_append_right (by omega)] at hq
        exact absurd (by rw [e]; exact hD1.2 _ q hq) (hnA i p hp)
    · rw [List.getElem?_append_right (by omega)] at hp
      by_cases hj : j < W1.length
      · rw [List.getElem?_append_left hj] at hq
        exact absurd (by rw [← e]; exact hD1.2 _ p hp) (hnA j q hq)
      · rw [List.getElem?_append_right (by omega)] at hq
        have := hD1.1 _ _ p q hp hq e
        omega
  · by_cases h : k < W1.length
    · rw [List.getElem?_append_left h] at hq
      exact hD.2 k q (hW k q hq)
    · rw [List.getElem?_append_right (by omega)] at hq
      exact hF _ (hD1.2 _ q hq)
section CTOR
variable {p : Program} {l : Launch} {e : Env} {R : Room} {s : State} {m : MethodId} {a : Array Value} {below : List Frame} {meth : Method} {c : Code} {H : Heap} {locs : List Loc} {cells slots : Nat} {Q : State → Prop}
variable {cc : ByteArray} {own : String} {nL pc : Nat} {ls : Array Slot} {rest st : List Value} {E : EV} {V V' : va_W} {A : Nat → Prop}
theorem r_cret {S : Type} {V1 : S → va_W} {mc ms : Nat} (u : S) (cx : CallFix p m c cc nL s a TBL own) (hr : meth.sig.returnType = none) (hlk : meth.locks = false) (hV : AtW E (V1 u) A s H locs) (d : decode cc pc = .ok (.return_, 1)) : W p l e R s m a below meth c H locs mc ms (EC E V1 A s a below mc ms) (F0 m pc ls []) :=
  W.vret cx.1 cx.2.1 hr (fun t ht hWm => ⟨⟨u, rfl, trivial, by rw [ht]; exact hV.2.2.2.1, hV.2.2.1⟩, hV.2.2.2.2.1.F ht⟩) hV.2.2.2.2.1.2.2 d hlk
theorem r_obj (cx : CallFix p m c cc nL s a TBL own) (hls : ls.size = nL) {idx h : Nat} (w1 : Cond.methodLink own idx objectInit ∈ TBL) (hR : 1 ≤ R.frames ∧ 28 ≤ R.locals) (hcat : (rest.map fun v => v.category).sum ≤ 8) (d : decode cc pc = .ok (.invokespecial idx, 3))
    (kk : W p l e R s m a below meth c H locs cells slots Q (F0 m (pc + 3) ls rest)) : W p l e R s m a below meth c H locs cells slots Q (F0 m pc ls (.ref h :: rest)) :=
  W.objInit cx.1 cx.2.1 cx.2.2.2.1 (cx.2.2.2.2 _ w1) (cx.2.2.2.2 _ mk_1_31) (cx.2.2.2.2 _ mk_1_32) rfl (hls.trans cx.2.2.1.symm) rfl d hR.1 (by have := lv_room (m := m) (pc := pc) (ls := ls) (rest := .ref h :: rest) hcat; have := hR.2; omega) kk
theorem r_newo (cx : CallFix p m c cc nL s a TBL own) (hV : AtW E V A s H locs) {idx N ci : Nat} {C : String} {T : u_T} {fs : List Value} {ty : Nat → FieldType} (hin : ∀ w ∈ u_ws C T N, w ∈ TBL) (hty : ∀ k, k < N → parseFieldDescriptor (T k).2.2.1 = some (ty k)) (hc : vwCl[ci]? = some (C, T, N))
    (w1 : Cond.classLink own idx C ∈ TBL) (w2 : Cond.instantiable C N ∈ TBL) (w3 : Cond.initialized C ∈ TBL) (hfs : ∀ j, j < N → defaultValue (ty j) = vp_V fs j) (hcs : cells + 1 ≤ R.cells ∧ slots + N ≤ R.slots) (d : decode cc pc = .ok (.new idx, 3))
    (kk : ∀ (q : Nat) (H1 : Heap), AtW E (V ++ [(q, .inr (ci, fs))]) A s H1 locs → W p l e R s m a below meth c H1 locs (cells + 1) (slots + N) Q (F0 m (pc + 3) ls (.ref q :: rest))) : W p l e R s m a below meth c H locs cells slots Q (F0 m pc ls rest) :=
  va_new cx.1 cx.2.1 cx.2.2.2.2 hin ty hty cx.2.2.2.1 (cx.2.2.2.2 _ w1) (cx.2.2.2.2 _ w2) (cx.2.2.2.2 _ w3) hV.1 hV.2.2.2.1 hV.2.2.1 hV.2.2.2.2.1 hV.2.2.2.2.2 hc hfs hcs.1 hcs.2 d (fun q H1 hP hD hS => kk q H1 ⟨hV.1, hV.2.1, hD, hP, hS, hV.2.2.2.2.2⟩)
theorem r_newI (cx : CallFix p m c cc nL s a TBL own) (hV : AtW E V A s H locs) {n : Int32} {N : Nat} (hn : ¬ n < 0) (hN : n.toNatClampNeg = N) (hb : N ≤ 100000) (hcs : cells + 1 ≤ R.cells ∧ slots + N ≤ R.slots) (d : decode cc pc = .ok (.newarray .int, 2))
    (kk : ∀ (q : Nat) (H1 : Heap), AtW E (V ++ [(q, .inl (eI E, N, .inl (fun _ => 0)))]) A s H1 locs → W p l e R s m a below meth c H1 locs (cells + 1) (slots + N) Q (F0 m (pc + 2) ls (.ref q :: rest))) : W p l e R s m a below meth c H locs cells slots Q (F0 m pc ls (.int n :: rest)) := by
  refine va_newa (atype := .int) (a0 := (N, .inl (fun _ => 0))) cx.1 cx.2.1 (cx.2.2.2.2 _ mk_1_43) rfl hV.1 hV.2.2.2.1 hV.2.2.1 hV.2.2.2.2.1 hV.2.2.2.2.2 (fun _ => rfl) hn hN (by show N * 4 ≤ _; omega) hcs.1 hcs.2 d (fun q cA H1 hK hP hD hS => ?_)
  have h1 : s.vm.findClass ("[" ++ (FieldType.int).toString) = some cA := (hK.2 3 (cA, .int) rfl).2
  have h2 : s.vm.findClass ("[" ++ (FieldType.int).toString) = some (eI E) := (hV.1.2 0 (eI E, .int) rfl).2
  have h3 := Option.some.inj (h1.symm.trans h2)
  rw [h3] at hP hD
  exact kk q H1 ⟨hV.1, hV.2.1, hD, hP, hS, hV.2.2.2.2.2⟩
theorem r_newJ (cx : CallFix p m c cc nL s a TBL own) (hV : AtW E V A s H locs) {n : Int32} {N : Nat} (hn : ¬ n < 0) (hN : n.toNatClampNeg = N) (hb : N ≤ 100000) (hcs : cells + 1 ≤ R.cells ∧ slots + N ≤ R.slots) (d : decode cc pc = .ok (.newarray .long, 2))
    (kk : ∀ (q : Nat) (H1 : Heap), AtW E (V ++ [(q, .inl (eJ E, N, .inr (.inl (fun _ => 0))))]) A s H1 locs → W p l e R s m a below meth c H1 locs (cells + 1) (slots + N) Q (F0 m (pc + 2) ls (.ref q :: rest))) : W p l e R s m a below meth c H locs cells slots Q (F0 m pc ls (.int n :: rest)) := by
  refine va_newa (atype := .long) (a0 := (N, .inr (.inl (fun _ => 0)))) cx.1 cx.2.1 (cx.2.2.2.2 _ mk_2_34) rfl hV.1 hV.2.2.2.1 hV.2.2.1 hV.2.2.2.2.1 hV.2.2.2.2.2 (fun _ => rfl) hn hN (by show N * 8 ≤ _; omega) hcs.1 hcs.2 d (fun q cA H1 hK hP hD hS => ?_)
  have h1 : s.vm.findClass ("[" ++ (FieldType.long).toString) = some cA := (hK.2 3 (cA, .long) rfl).2
  have h2 : s.vm.findClass ("[" ++ (FieldType.long).toString) = some (eJ E) := (hV.1.2 1 (eJ E, .long) rfl).2
  have h3 := Option.some.inj (h1.symm.trans h2)
  rw [h3] at hP hD
  exact kk q H1 ⟨hV.1, hV.2.1, hD, hP, hS, hV.2.2.2.2.2⟩
theorem r_newQ (cx : CallFix p m c cc nL s a TBL own) (hV : AtW E V A s H locs) (hao : va_AO "FlickedCrates$Stock" s) {idx : Nat} (w1 : Cond.classLink own idx "FlickedCrates$Stock" ∈ TBL) {n : Int32} {N : Nat} (hn : ¬ n < 0) (hN : n.toNatClampNeg = N) (hb : N ≤ 100000) (hcs : cells + 1 ≤ R.cells ∧ slots + N ≤ R.slots) (d : decode cc pc = .ok (.anewarray idx, 3))
    (kk : ∀ (q : Nat) (H1 : Heap), AtW E (V ++ [(q, .inl (eO E, N, .inr (.inr (.inr (.inr (fun _ => none))))))]) A s H1 locs → W p l e R s m a below meth c H1 locs (cells + 1) (slots + N) Q (F0 m (pc + 3) ls (.ref q :: rest))) : W p l e R s m a below meth c H locs cells slots Q (F0 m pc ls (.int n :: rest)) := by
  refine va_newq cx.1 cx.2.1 cx.2.2.2.1 (cx.2.2.2.2 _ w1) hao hV.1 hV.2.2.2.1 hV.2.2.1 hV.2.2.2.2.1 hV.2.2.2.2.2 hn hN (by omega) hcs.1 hcs.2 d (fun q cA H1 hK hP hD hS => ?_)
  obtain ⟨k1, c1, -, -, -, h1⟩ := (hK.2 3 (cA, .object "FlickedCrates$Stock") rfl).2
  obtain ⟨k2, c2, -, -, -, h2⟩ := (hV.1.2 2 (eO E, .object "FlickedCrates$Stock") rfl).2
  have h3 : cA = eO E := Option.some.inj (h1.symm.trans h2)
  rw [h3] at hP hD
  exact kk q H1 ⟨hV.1, hV.2.1, hD, hP, hS, hV.2.2.2.2.2⟩
theorem r_putF (cx : CallFix p m c cc nL s a TBL own) (hi : meth.name = "<init>") (hV : AtW E V A s H locs) (q0 : Nat) {a0 ci idx N : Nat} {fs : List Value} {C ref : String} {T : u_T} (he : V[q0]? = some (a0, .inr (ci, fs))) (hc : vwCl[ci]? = some (C, T, N)) (hin : ∀ w ∈ u_ws C T N, w ∈ TBL)
    (ty0 : Nat → FieldType) (hty : ∀ k, k < N → parseFieldDescriptor (T k).2.2.1 = some (ty0 k)) (hnm : ∀ a, a < N → ∀ b, b < N → a ≠ b → (T a).2.1 ≠ (T b).2.1) (k : Nat) (hk : k < N)
    (hl : Cond.fieldLink own idx ref (T k).2.1 (T k).2.2.1 ∈ TBL) (hs : (T k).1 = ref) (hfin : (T k).2.2.2 = true) (hdecl : (T k).1 = own) {ty : FieldType} {v : Value} (hd : parseFieldDescriptor (T k).2.2.1 = some ty) (hn : narrow ty v = v) (hfit : fits ty v = true) (hlen : k < fs.length)
    (hV' : V.set q0 (a0, .inr (ci, fs.set k v)) = V') (d : decode cc pc = .ok (.putfield idx, 3))
    (kk : ∀ (H1 : Heap) (locs1 : List Loc), AtW E V' A s H1 locs1 → W p l e R s m a below meth c H1 locs1 cells slots Q (F0 m (pc + 3) ls rest)) : W p l e R s m a below meth c H locs cells slots Q (F0 m pc ls (v :: .ref a0 :: rest)) :=
  va_putF cx.1 cx.2.1 cx.2.2.2.2 hin ty0 hty hnm cx.2.2.2.1 hV.1 hV.2.2.2.1 hV.2.2.1 hV.2.2.2.2.1 q0 he hc k hk (cx.2.2.2.2 _ hl) (fun x hx => hs ▸ hx) hfin hi hdecl hd hn hfit hlen d
    (fun H1 locs1 hP hD hS => kk H1 locs1 ⟨hV.1, hV.2.1, hV' ▸ hD, hV' ▸ hP, hS, hV.2.2.2.2.2⟩)
theorem c_pre {W1 : va_W} {c0 : Nat × va_E} (hV : AtW E (W1 ++ [c0]) A s H locs) {args : List Value} : ∀ U : State, U.heap = H → s.WarmedH U.vm → va_Pc args (PreW E [c0] H.size) args.toArray U := by
  intro U hU hW
  refine ⟨rfl, by rw [hU], ?_, va_K.moved hW.alike hV.1, NW.warm hW hV.2.1, ⟨fun i j p q hp hq _ => ?_, fun _ _ _ => trivial⟩⟩
  · rw [hU]
    intro k q hq
    match k, hq with
    | 0, hq =>
      have hq : c0 = q := Option.some.inj hq
      exact hV.2.2.2.1 W1.length q (by rw [← hq]; simp)
    | k + 1, hq => simp at hq
  · have h1 := (List.getElem?_eq_some_iff.mp hp).1
    have h2 := (List.getElem?_eq_some_iff.mp hq).1
    simp at h1 h2
    omega
theorem c_free {W1 : va_W} {c0 : Nat × va_E} (hV : AtW E (W1 ++ [c0]) A s H locs) : ∀ q : Nat, va_A [c0] H.size q → A q := by
  intro q hq
  rcases hq with ⟨k, e, hk⟩ | hq
  · match k, hk with
    | 0, hk => exact hV.2.2.1.2 W1.length (q, e) (by rw [← hk]; simp)
    | k + 1, hk => simp at hk
  · exact hV.2.2.2.2.2 q (Nat.le_trans hV.2.2.2.2.1.1 hq)
theorem r_ctor {y : MethodName} {bytes : ByteArray} {maxL idx n a0 ci : Nat} {fs : List Value} {rm : Room} {As : List Value} {S : Type} {V1 : S → va_W} {W1 : va_W} {mc ms : Nat}
    (hM : CI l y bytes maxL rm (.ref a0 :: As) E [(a0, .inr (ci, fs))] V1 mc ms)
    (w2 : Cond.instanceMethod y ∈ TBL) (w4 : Cond.initialized y.cls ∈ TBL) (w5 : Cond.code y bytes maxL none ∈ TBL) (hy1 : y.name = "<init>")
    (hd : y.cls ≠ "java/lang/invoke/MethodHandle" ∧ y.cls ≠ "java/lang/invoke/VarHandle" ∧ (parseMethodDescriptor y.desc).map (fun d => d.parameters.length) = some n) (hn : As.length = n) (hrm : rm.cells = mc ∧ rm.slots = ms)
    (cx : CallFix p m c cc nL s a TBL own) (hV : AtW E (W1 ++ [(a0, .inr (ci, fs))]) A s H locs) (w1 : Cond.methodLink own idx y ∈ TBL) (hR : rm.frames + 1 ≤ R.frames ∧ 8 + (maxL + 11) + rm.locals ≤ R.locals) (hcs : cells + mc ≤ R.cells ∧ slots + ms ≤ R.slots)
    (hls : ls.size = nL) (hst : st = As.reverse ++ .ref a0 :: rest) (hcat : (rest.map fun v => v.category).sum ≤ 8) (hdg : decode cc pc = .ok (.invokespecial idx, 3))
    (kk : ∀ (u : S) (H1 : Heap) (locs1 : List Loc), AtW E (W1 ++ V1 u) A s H1 locs1 → W p l e R s m a below meth c H1 locs1 (cells + mc) (slots + ms) Q (F0 m (pc + 3) ls rest)) : W p l e R s m a below meth c H locs cells slots Q (F0 m pc ls st) := by
  refine va_callv (va_runI (As := As) (rest := rest) cx (hM H.size) (cwI n cx.2.2.2.2 (tb_gC w5) rfl hrm.1 hrm.2 (cx.2.2.2.2 _ w4) (cx.2.2.2.2 _ w1) (cx.2.2.2.2 _ w2) hy1 hd hR) ⟨PreW.blind, c_pre hV⟩ rfl hn hls hst (lv_room hcat) hdg hcs) hV.2.2.2.2.1 (fun q _ h => c_free hV q h) (c_free hV) (fun u t H1 locs1 ht hvm hw hB hz1 hk1 hS => ?_)
  obtain ⟨hB, hD⟩ := hB
  rw [ht] at hB
  obtain ⟨j1, j2⟩ := va_join_last hV.2.2.2.1 hV.2.2.1 hk1 (c_free hV) hB hD
  exact kk u H1 locs1 ⟨hV.1, hV.2.1, j2, j1, hS, hV.2.2.2.2.2⟩
theorem r_ctorN {y : MethodName} {bytes : ByteArray} {maxL idx n a0 ci : Nat} {fs : List Value} {rm : Room} {As : List Value} {S : Type} {V1 : S → va_W} {W1 : va_W} {mc ms : Nat} {host : String}
    (hM : CI l y bytes maxL rm (.ref a0 :: As) E [(a0, .inr (ci, fs))] V1 mc ms)
    (w2 : Cond.instanceMethod y ∈ TBL) (w4 : Cond.initialized y.cls ∈ TBL) (w5 : Cond.code y bytes maxL none ∈ TBL) (hy1 : y.name = "<init>")
    (hd : y.cls ≠ "java/lang/invoke/MethodHandle" ∧ y.cls ≠ "java/lang/invoke/VarHandle" ∧ (parseMethodDescriptor y.desc).map (fun d => d.parameters.length) = some n) (hn : As.length = n) (hrm : rm.cells = mc ∧ rm.slots = ms)
    (cx : CallFix p m c cc nL s a TBL own) (hV : AtW E (W1 ++ [(a0, .inr (ci, fs))]) A s H locs) (w1 : Cond.methodLinkNest own idx y host ∈ nestW) (hR : rm.frames + 1 ≤ R.frames ∧ 8 + (maxL + 11) + rm.locals ≤ R.locals) (hcs : cells + mc ≤ R.cells ∧ slots + ms ≤ R.slots)
    (hls : ls.size = nL) (hst : st = As.reverse ++ .ref a0 :: rest) (hcat : (rest.map fun v => v.category).sum ≤ 8) (hdg : decode cc pc = .ok (.invokespecial idx, 3))
    (kk : ∀ (u : S) (H1 : Heap) (locs1 : List Loc), AtW E (W1 ++ V1 u) A s H1 locs1 → W p l e R s m a below meth c H1 locs1 (cells + mc) (slots + ms) Q (F0 m (pc + 3) ls rest)) : W p l e R s m a below meth c H locs cells slots Q (F0 m pc ls st) := by
  refine va_callv (va_runIN (As := As) (rest := rest) cx (hM H.size) ⟨va_cnB n cx.2.2.2.2 (tb_gC w5) rfl hrm.1 hrm.2 (hV.2.1 _ w1) (cx.2.2.2.2 _ w4) hd hR, hy1, cx.2.2.2.2 _ w2⟩ ⟨PreW.blind, c_pre hV⟩ rfl hn hls hst (lv_room hcat) hdg hcs) hV.2.2.2.2.1 (fun q _ h => c_free hV q h) (c_free hV) (fun u t H1 locs1 ht hvm hw hB hz1 hk1 hS => ?_)
  obtain ⟨hB, hD⟩ := hB
  rw [ht] at hB
  obtain ⟨j1, j2⟩ := va_join_last hV.2.2.2.1 hV.2.2.1 hk1 (c_free hV) hB hD
  exact kk u H1 locs1 ⟨hV.1, hV.2.1, j2, j1, hS, hV.2.2.2.2.2⟩
end CTOR
