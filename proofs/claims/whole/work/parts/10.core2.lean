/-! what the printed functions are made of, and the rules that walk them -/
def FU : Nat := 5000
def bd {α β : Type} (o : Option α) (f : α → Option β) : Option β := match o with
  | none => none
  | some x => f x
def bd2 {α β δ : Type} (o : Option (α × β)) (f : α → β → Option δ) : Option δ := match o with
  | none => none
  | some (x, y) => f x y
def bd3 {α β γ δ : Type} (o : Option (α × β × γ)) (f : α → β → γ → Option δ) : Option δ := match o with
  | none => none
  | some (x, y, z) => f x y z
def bd4 {α β γ γ2 δ : Type} (o : Option (α × β × γ × γ2)) (f : α → β → γ → γ2 → Option δ) : Option δ := match o with
  | none => none
  | some (x, y, z, w) => f x y z w
def bd5 {α β γ γ2 γ3 δ : Type} (o : Option (α × β × γ × γ2 × γ3)) (f : α → β → γ → γ2 → γ3 → Option δ) : Option δ := match o with
  | none => none
  | some (x, y, z, w, v) => f x y z w v
def bs {α ρ δ : Type} (o : Option (α ⊕ ρ)) (f : α → Option δ) (g : ρ → Option δ) : Option δ := match o with
  | none => none
  | some (.inl x) => f x
  | some (.inr r) => g r
def bs2 {α β ρ δ : Type} (o : Option ((α × β) ⊕ ρ)) (f : α → β → Option δ) (g : ρ → Option δ) : Option δ := match o with
  | none => none
  | some (.inl (x, y)) => f x y
  | some (.inr r) => g r
def bs3 {α β γ ρ δ : Type} (o : Option ((α × β × γ) ⊕ ρ)) (f : α → β → γ → Option δ) (g : ρ → Option δ) : Option δ := match o with
  | none => none
  | some (.inl (x, y, z)) => f x y z
  | some (.inr r) => g r
def bs4 {α β γ γ2 ρ δ : Type} (o : Option ((α × β × γ × γ2) ⊕ ρ)) (f : α → β → γ → γ2 → Option δ) (g : ρ → Option δ) : Option δ := match o with
  | none => none
  | some (.inl (x, y, z, w)) => f x y z w
  | some (.inr r) => g r
theorem bd_e {α β : Type} {o : Option α} {f : α → Option β} {r : β} {G : Prop} (h : bd o f = some r) (k : ∀ x, o = some x → f x = some r → G) : G := by
  cases o with
  | none => cases h
  | some x => exact k x rfl h
theorem bd2_e {α β δ : Type} {o : Option (α × β)} {f : α → β → Option δ} {r : δ} {G : Prop} (h : bd2 o f = some r) (k : ∀ x y, o = some (x, y) → f x y = some r → G) : G := by
  rcases o with _ | ⟨x, y⟩
  · cases h
  · exact k x y rfl h
theorem bd3_e {α β γ δ : Type} {o : Option (α × β × γ)} {f : α → β → γ → Option δ} {r : δ} {G : Prop} (h : bd3 o f = some r) (k : ∀ x y z, o = some (x, y, z) → f x y z = some r → G) : G := by
  rcases o with _ | ⟨x, y, z⟩
  · cases h
  · exact k x y z rfl h
theorem bd4_e {α β γ γ2 δ : Type} {o : Option (α × β × γ × γ2)} {f : α → β → γ → γ2 → Option δ} {r : δ} {G : Prop} (h : bd4 o f = some r) (k : ∀ x y z w, o = some (x, y, z, w) → f x y z w = some r → G) : G := by
  rcases o with _ | ⟨x, y, z, w⟩
  · cases h
  · exact k x y z w rfl h
theorem bd5_e {α β γ γ2 γ3 δ : Type} {o : Option (α × β × γ × γ2 × γ3)} {f : α → β → γ → γ2 → γ3 → Option δ} {r : δ} {G : Prop} (h : bd5 o f = some r) (k : ∀ x y z w v, o = some (x, y, z, w, v) → f x y z w v = some r → G) : G := by
  rcases o with _ | ⟨x, y, z, w, v⟩
  · cases h
  · exact k x y z w v rfl h
theorem bs_get {α ρ δ : Type} {o : Option (α ⊕ ρ)} {f : α → Option δ} {g : ρ → Option δ} {r : δ} (h : bs o f g = some r) : ∃ q, o = some q := by
  rcases o with _ | q
  · cases h
  · exact ⟨q, rfl⟩
theorem bs2_get {α β ρ δ : Type} {o : Option ((α × β) ⊕ ρ)} {f : α → β → Option δ} {g : ρ → Option δ} {r : δ} (h : bs2 o f g = some r) : ∃ q, o = some q := by
  rcases o with _ | q
  · cases h
  · exact ⟨q, rfl⟩
theorem bs3_get {α β γ ρ δ : Type} {o : Option ((α × β × γ) ⊕ ρ)} {f : α → β → γ → Option δ} {g : ρ → Option δ} {r : δ} (h : bs3 o f g = some r) : ∃ q, o = some q := by
  rcases o with _ | q
  · cases h
  · exact ⟨q, rfl⟩
theorem bs4_get {α β γ γ2 ρ δ : Type} {o : Option ((α × β × γ × γ2) ⊕ ρ)} {f : α → β → γ → γ2 → Option δ} {g : ρ → Option δ} {r : δ} (h : bs4 o f g = some r) : ∃ q, o = some q := by
  rcases o with _ | q
  · cases h
  · exact ⟨q, rfl⟩
theorem bs_inl {α ρ δ : Type} {x : α} {f : α → Option δ} {g : ρ → Option δ} {r : δ} (h : bs (some (.inl x)) f g = some r) : f x = some r := h
theorem bs2_inl {α β ρ δ : Type} {x : α} {y : β} {f : α → β → Option δ} {g : ρ → Option δ} {r : δ} (h : bs2 (some (.inl (x, y))) f g = some r) : f x y = some r := h
theorem bs3_inl {α β γ ρ δ : Type} {x : α} {y : β} {z : γ} {f : α → β → γ → Option δ} {g : ρ → Option δ} {r : δ} (h : bs3 (some (.inl (x, y, z))) f g = some r) : f x y z = some r := h
theorem bs4_inl {α β γ γ2 ρ δ : Type} {x : α} {y : β} {z : γ} {w : γ2} {f : α → β → γ → γ2 → Option δ} {g : ρ → Option δ} {r : δ} (h : bs4 (some (.inl (x, y, z, w))) f g = some r) : f x y z w = some r := h
theorem bs_inr {α ρ δ : Type} {q : ρ} {f : α → Option δ} {g : ρ → Option δ} {r : δ} (h : bs (some (.inr q)) f g = some r) : g q = some r := h
theorem bs2_inr {α β ρ δ : Type} {q : ρ} {f : α → β → Option δ} {g : ρ → Option δ} {r : δ} (h : bs2 (some (.inr q)) f g = some r) : g q = some r := h
theorem bs3_inr {α β γ ρ δ : Type} {q : ρ} {f : α → β → γ → Option δ} {g : ρ → Option δ} {r : δ} (h : bs3 (some (.inr q)) f g = some r) : g q = some r := h
theorem bs4_inr {α β γ γ2 ρ δ : Type} {q : ρ} {f : α → β → γ → γ2 → Option δ} {g : ρ → Option δ} {r : δ} (h : bs4 (some (.inr q)) f g = some r) : g q = some r := h
theorem ifp {c : Prop} [Decidable c] {α : Type} {x y r : α} (hc : c) (h : (if c then x else y) = r) : x = r := by rw [if_pos hc] at h; exact h
theorem ifn {c : Prop} [Decidable c] {α : Type} {x y r : α} (hc : ¬ c) (h : (if c then x else y) = r) : y = r := by rw [if_neg hc] at h; exact h
/-- a loop: at most n turns; true goes on, false leaves it -/
def lp {V : Type} (f : V → Option (Bool × V)) : Nat → V → Option V
  | 0, _ => none
  | n + 1, v => match f v with
    | none => none
    | some (true, w) => lp f n w
    | some (false, w) => some w
/-- a loop out of which the method may return -/
def lpr {V ρ : Type} (f : V → Option ((Bool × V) ⊕ ρ)) : Nat → V → Option (V ⊕ ρ)
  | 0, _ => none
  | n + 1, v => match f v with
    | none => none
    | some (.inl (true, w)) => lpr f n w
    | some (.inl (false, w)) => some (.inl w)
    | some (.inr r) => some (.inr r)
theorem lp_rule {V : Type} {f : V → Option (Bool × V)} {G K : V → Prop} (step : ∀ v b w, f v = some (b, w) → (b = true → G w) → (b = false → K w) → G v) : ∀ {n : Nat} {v o : V}, lp f n v = some o → K o → G v := by
  intro n
  induction n with
  | zero => intro v o h; cases h
  | succ n ih =>
    intro v o h k
    unfold lp at h
    cases hf : f v with
    | none => rw [hf] at h; cases h
    | some q =>
      obtain ⟨b, w⟩ := q
      rw [hf] at h
      cases b with
      | true => exact step v true w hf (fun _ => ih h k) (fun q => by cases q)
      | false =>
        have h : some w = some o := h
        have h := Option.some.inj h
        exact step v false w hf (fun q => by cases q) (fun _ => by rw [h]; exact k)
theorem lpr_rule {V ρ : Type} {f : V → Option ((Bool × V) ⊕ ρ)} {G K : V → Prop} {KR : ρ → Prop} (step : ∀ v e, f v = some e → (∀ w, e = .inl (true, w) → G w) → (∀ w, e = .inl (false, w) → K w) → (∀ r, e = .inr r → KR r) → G v) : ∀ {n : Nat} {v : V} {o : V ⊕ ρ}, lpr f n v = some o → (∀ w, o = .inl w → K w) → (∀ r, o = .inr r → KR r) → G v := by
  intro n
  induction n with
  | zero => intro v o h; cases h
  | succ n ih =>
    intro v o h k kr
    unfold lpr at h
    cases hf : f v with
    | none => rw [hf] at h; cases h
    | some q =>
      rw [hf] at h
      rcases q with ⟨b, w⟩ | r
      · cases b with
        | true => exact step v _ hf (fun w2 e => by cases e; exact ih h k kr) (fun w2 e => by cases e) (fun r e => by cases e)
        | false =>
          have h : some (Sum.inl w) = some o := h
          have h := Option.some.inj h
          exact step v _ hf (fun w2 e => by cases e) (fun w2 e => k w2 (by rw [← h, (Prod.mk.inj (Sum.inl.inj e)).2])) (fun r e => by cases e)
      · have h : some (Sum.inr r) = some o := h
        have h := Option.some.inj h
        exact step v _ hf (fun w2 e => by cases e) (fun w2 e => by cases e) (fun r2 e => kr r2 (by rw [← h, Sum.inr.inj e]))
def ldI (f : Nat → Int32) (n : Nat) (i : Int32) : Option Int32 := if i < 0 ∨ n ≤ i.toNatClampNeg then none else some (f i.toNatClampNeg)
def ldJ (f : Nat → Int64) (n : Nat) (i : Int32) : Option Int64 := if i < 0 ∨ n ≤ i.toNatClampNeg then none else some (f i.toNatClampNeg)
def stI (σ : St) (j n : Nat) (i x : Int32) : Option St := if i < 0 ∨ n ≤ i.toNatClampNeg then none else some (sA σ j (upd (gA σ j) i.toNatClampNeg x))
def stJ (σ : St) (j n : Nat) (i : Int32) (x : Int64) : Option St := if i < 0 ∨ n ≤ i.toNatClampNeg then none else some (sJ σ j (vp_updL (gJ σ j) i.toNatClampNeg x))
theorem ldI_e {f : Nat → Int32} {n : Nat} {i v : Int32} (h : ldI f n i = some v) : vp_in i n ∧ v = f i.toNatClampNeg := by
  unfold ldI at h
  by_cases hc : i < 0 ∨ n ≤ i.toNatClampNeg
  · rw [if_pos hc] at h; cases h
  · rw [if_neg hc] at h; cases h; exact ⟨hc, rfl⟩
theorem ldJ_e {f : Nat → Int64} {n : Nat} {i : Int32} {v : Int64} (h : ldJ f n i = some v) : vp_in i n ∧ v = f i.toNatClampNeg := by
  unfold ldJ at h
  by_cases hc : i < 0 ∨ n ≤ i.toNatClampNeg
  · rw [if_pos hc] at h; cases h
  · rw [if_neg hc] at h; cases h; exact ⟨hc, rfl⟩
theorem stI_e {σ σ2 : St} {j n : Nat} {i x : Int32} (h : stI σ j n i x = some σ2) : vp_in i n ∧ σ2 = sA σ j (upd (gA σ j) i.toNatClampNeg x) := by
  unfold stI at h
  by_cases hc : i < 0 ∨ n ≤ i.toNatClampNeg
  · rw [if_pos hc] at h; cases h
  · rw [if_neg hc] at h; cases h; exact ⟨hc, rfl⟩
theorem stJ_e {σ σ2 : St} {j n : Nat} {i : Int32} {x : Int64} (h : stJ σ j n i x = some σ2) : vp_in i n ∧ σ2 = sJ σ j (vp_updL (gJ σ j) i.toNatClampNeg x) := by
  unfold stJ at h
  by_cases hc : i < 0 ∨ n ≤ i.toNatClampNeg
  · rw [if_pos hc] at h; cases h
  · rw [if_neg hc] at h; cases h; exact ⟨hc, rfl⟩
def bz (v : Int32) : Option Int32 := if v = 0 ∨ v = 1 then some v else none
theorem bz_e {v w : Int32} (h : bz v = some w) : v = w ∧ (w = 0 ∨ w = 1) := by
  unfold bz at h
  by_cases hc : v = 0 ∨ v = 1
  · rw [if_pos hc] at h; cases h; exact ⟨rfl, hc⟩
  · rw [if_neg hc] at h; cases h
def dvI (x y : Int32) : Option Int32 := if y = 0 then none else some (x / y)
def rmI (x y : Int32) : Option Int32 := if y = 0 then none else some (x - x / y * y)
def dvJ (x y : Int64) : Option Int64 := if y = 0 then none else some (x / y)
def rmJ (x y : Int64) : Option Int64 := if y = 0 then none else some (x - x / y * y)
theorem dvI_e {x y v : Int32} (h : dvI x y = some v) : ¬ y = 0 ∧ x / y = v := by
  unfold dvI at h
  by_cases hc : y = 0
  · rw [if_pos hc] at h; cases h
  · rw [if_neg hc] at h; cases h; exact ⟨hc, rfl⟩
theorem rmI_e {x y v : Int32} (h : rmI x y = some v) : ¬ y = 0 ∧ x - x / y * y = v := by
  unfold rmI at h
  by_cases hc : y = 0
  · rw [if_pos hc] at h; cases h
  · rw [if_neg hc] at h; cases h; exact ⟨hc, rfl⟩
theorem dvJ_e {x y v : Int64} (h : dvJ x y = some v) : ¬ y = 0 ∧ x / y = v := by
  unfold dvJ at h
  by_cases hc : y = 0
  · rw [if_pos hc] at h; cases h
  · rw [if_neg hc] at h; cases h; exact ⟨hc, rfl⟩
theorem rmJ_e {x y v : Int64} (h : rmJ x y = some v) : ¬ y = 0 ∧ x - x / y * y = v := by
  unfold rmJ at h
  by_cases hc : y = 0
  · rw [if_pos hc] at h; cases h
  · rw [if_neg hc] at h; cases h; exact ⟨hc, rfl⟩
def usI (x y : Int32) : Int32 := (x.toUInt32 >>> (y.toUInt32 &&& Int32.toUInt32 31)).toInt32
def mnI (x y : Int32) : Int32 := if y < x then y else x
def mxI (x y : Int32) : Int32 := if x < y then y else x
def abI (x : Int32) : Int32 := if 0 ≤ x then x else 0 - x
theorem tb_gT {own : String} {idx : Nat} {y : MethodName} {cc : ByteArray} {n : Nat} {rt : Option FieldType} (w1 : Cond.methodLink own idx y ∈ TBL) (w2 : Cond.static y ∈ TBL) (w4 : Cond.initialized y.cls ∈ TBL) (w5 : Cond.code y cc n rt ∈ TBL) : GoodIn TBL (va_wsS own idx y (.code y cc n rt :: TBL)) := by
  intro w hw
  refine tb_gd ?_
  simp only [va_wsS, List.mem_append, List.mem_cons, List.not_mem_nil, or_false] at hw
  rcases hw with (rfl | rfl | rfl) | rfl | h
  · exact w1
  · exact w2
  · exact w4
  · exact w5
  · exact h
section CORE2
variable {p : Program} {l : Launch} {e : Env} {R : Room} {s : State} {m : MethodId} {a : Array Value} {below : List Frame} {meth : Method} {c : Code} {H : Heap} {locs : List Loc} {cells slots : Nat} {Q : State → Prop}
variable {cc : ByteArray} {own : String} {nL pc : Nat} {ls : Array Slot} {rest st : List Value} {E : EV} {V V' : va_W} {A : Nat → Prop}
theorem r_sti {y : MethodName} {bytes : ByteArray} {maxL idx n : Nat} {rt : Option FieldType} {rm : Room} {As : List Value} {rv : Int32}
    (hM : CM l y bytes maxL rt rm As E V V' (qI rv)) (hadr : V'.map Prod.fst = V.map Prod.fst)
    (w2 : Cond.static y ∈ TBL) (w4 : Cond.initialized y.cls ∈ TBL) (w5 : Cond.code y bytes maxL rt ∈ TBL)
    (hd : y.cls ≠ "java/lang/invoke/MethodHandle" ∧ y.cls ≠ "java/lang/invoke/VarHandle" ∧ (parseMethodDescriptor y.desc).map (fun d => d.parameters.length) = some n) (hn : As.length = n) (hrm : rm.cells = 0 ∧ rm.slots = 0)
    (cx : CallFix p m c cc nL s a TBL own) (hV : AtW E V A s H locs) (w1 : Cond.methodLink own idx y ∈ TBL) (hR : rm.frames + 1 ≤ R.frames ∧ 8 + (maxL + 11) + rm.locals ≤ R.locals) (hcs : cells ≤ R.cells ∧ slots ≤ R.slots)
    (hls : ls.size = nL) (hst : st = As.reverse ++ rest) (hcat : (rest.map fun v => v.category).sum ≤ 8) (hdg : decode cc pc = .ok (.invokestatic idx, 3))
    (kk : ∀ (H1 : Heap) (locs1 : List Loc), AtW E V' A s H1 locs1 → W p l e R s m a below meth c H1 locs1 cells slots Q (F0 m (pc + 3) ls (.int rv :: rest))) : W p l e R s m a below meth c H locs cells slots Q (F0 m pc ls st) := by
  refine va_calli (va_runS (As := As) (rest := rest) cx (hM H.size) (va_cwS n cx.2.2.2.2 (tb_gT w1 w2 w4 w5) rfl hrm.1 hrm.2 hd hR) ⟨PreW.blind, r_pre hV⟩ rfl hn hls hst (lv_room hcat) hdg hcs) hV.2.2.2.2.1 (fun q _ h => hV.free q h) hV.free (fun r u t H1 locs1 ht hvm hw hB hz1 hk1 hS => ?_)
  cases hw
  exact kk H1 locs1 ⟨hV.1, hV.2.1, va_D_fst hadr hV.2.2.1, by rw [← ht]; exact hB, hS, hV.2.2.2.2.2⟩
theorem r_stl {y : MethodName} {bytes : ByteArray} {maxL idx n : Nat} {rt : Option FieldType} {rm : Room} {As : List Value} {rv : Int64}
    (hM : CM l y bytes maxL rt rm As E V V' (qL rv)) (hadr : V'.map Prod.fst = V.map Prod.fst)
    (w2 : Cond.static y ∈ TBL) (w4 : Cond.initialized y.cls ∈ TBL) (w5 : Cond.code y bytes maxL rt ∈ TBL)
    (hd : y.cls ≠ "java/lang/invoke/MethodHandle" ∧ y.cls ≠ "java/lang/invoke/VarHandle" ∧ (parseMethodDescriptor y.desc).map (fun d => d.parameters.length) = some n) (hn : As.length = n) (hrm : rm.cells = 0 ∧ rm.slots = 0)
    (cx : CallFix p m c cc nL s a TBL own) (hV : AtW E V A s H locs) (w1 : Cond.methodLink own idx y ∈ TBL) (hR : rm.frames + 1 ≤ R.frames ∧ 8 + (maxL + 11) + rm.locals ≤ R.locals) (hcs : cells ≤ R.cells ∧ slots ≤ R.slots)
    (hls : ls.size = nL) (hst : st = As.reverse ++ rest) (hcat : (rest.map fun v => v.category).sum ≤ 8) (hdg : decode cc pc = .ok (.invokestatic idx, 3))
    (kk : ∀ (H1 : Heap) (locs1 : List Loc), AtW E V' A s H1 locs1 → W p l e R s m a below meth c H1 locs1 cells slots Q (F0 m (pc + 3) ls (.long rv :: rest))) : W p l e R s m a below meth c H locs cells slots Q (F0 m pc ls st) := by
  refine va_calll (va_runS (As := As) (rest := rest) cx (hM H.size) (va_cwS n cx.2.2.2.2 (tb_gT w1 w2 w4 w5) rfl hrm.1 hrm.2 hd hR) ⟨PreW.blind, r_pre hV⟩ rfl hn hls hst (lv_room hcat) hdg hcs) hV.2.2.2.2.1 (fun q _ h => hV.free q h) hV.free (fun r u t H1 locs1 ht hvm hw hB hz1 hk1 hS => ?_)
  cases hw
  exact kk H1 locs1 ⟨hV.1, hV.2.1, va_D_fst hadr hV.2.2.1, by rw [← ht]; exact hB, hS, hV.2.2.2.2.2⟩
theorem r_stNi {y : MethodName} {bytes : ByteArray} {maxL idx n : Nat} {rt : Option FieldType} {rm : Room} {As : List Value} {rv : Int32} {host : String}
    (hM : CM l y bytes maxL rt rm As E V V' (qI rv)) (hadr : V'.map Prod.fst = V.map Prod.fst)
    (w2 : Cond.static y ∈ TBL) (w4 : Cond.initialized y.cls ∈ TBL) (w5 : Cond.code y bytes maxL rt ∈ TBL)
    (hd : y.cls ≠ "java/lang/invoke/MethodHandle" ∧ y.cls ≠ "java/lang/invoke/VarHandle" ∧ (parseMethodDescriptor y.desc).map (fun d => d.parameters.length) = some n) (hn : As.length = n) (hrm : rm.cells = 0 ∧ rm.slots = 0)
    (cx : CallFix p m c cc nL s a TBL own) (hV : AtW E V A s H locs) (w1 : Cond.methodLinkNest own idx y host ∈ nestW) (hR : rm.frames + 1 ≤ R.frames ∧ 8 + (maxL + 11) + rm.locals ≤ R.locals) (hcs : cells ≤ R.cells ∧ slots ≤ R.slots)
    (hls : ls.size = nL) (hst : st = As.reverse ++ rest) (hcat : (rest.map fun v => v.category).sum ≤ 8) (hdg : decode cc pc = .ok (.invokestatic idx, 3))
    (kk : ∀ (H1 : Heap) (locs1 : List Loc), AtW E V' A s H1 locs1 → W p l e R s m a below meth c H1 locs1 cells slots Q (F0 m (pc + 3) ls (.int rv :: rest))) : W p l e R s m a below meth c H locs cells slots Q (F0 m pc ls st) := by
  refine va_calli (va_runSN (As := As) (rest := rest) cx (hM H.size) ⟨va_cnB n cx.2.2.2.2 (tb_gC w5) rfl hrm.1 hrm.2 (hV.2.1 _ w1) (cx.2.2.2.2 _ w4) hd hR, cx.2.2.2.2 _ w2, trivial⟩ ⟨PreW.blind, r_pre hV⟩ rfl hn hls hst (lv_room hcat) hdg hcs) hV.2.2.2.2.1 (fun q _ h => hV.free q h) hV.free (fun r u t H1 locs1 ht hvm hw hB hz1 hk1 hS => ?_)
  cases hw
  exact kk H1 locs1 ⟨hV.1, hV.2.1, va_D_fst hadr hV.2.2.1, by rw [← ht]; exact hB, hS, hV.2.2.2.2.2⟩
theorem r_min (cx : CallFix p m c cc nL s a TBL own) (hls : ls.size = nL) {idx : Nat} (w1 : Cond.methodLink own idx Lib.Math.min.name ∈ TBL) (w2 : Cond.static Lib.Math.min.name ∈ TBL) (w3 : Cond.initialized "java/lang/Math" ∈ TBL) (w4 : Cond.code Lib.Math.min.name Lib.Math.min.code 2 (some .int) ∈ TBL)
    (hf : 1 ≤ R.frames) (hlo : (rest.map fun v => v.category).sum + 13 ≤ R.locals) (hcs : cells ≤ R.cells ∧ slots ≤ R.slots) {x y : Int32} (d : decode cc pc = .ok (.invokestatic idx, 3))
    (kk : W p l e R s m a below meth c H locs cells slots Q (F0 m (pc + 3) ls (.int (mnI x y) :: rest))) : W p l e R s m a below meth c H locs cells slots Q (F0 m pc ls (.int y :: .int x :: rest)) :=
  va_mmin cx.1 cx.2.1 (cx.2.2.1.trans hls.symm) cx.2.2.2.1 (cx.2.2.2.2 _ w1) (cx.2.2.2.2 _ w2) (cx.2.2.2.2 _ w3) (cx.2.2.2.2 _ w4) hf hlo hcs.1 hcs.2 d kk
theorem r_max (cx : CallFix p m c cc nL s a TBL own) (hls : ls.size = nL) {idx : Nat} (w1 : Cond.methodLink own idx Lib.Math.max.name ∈ TBL) (w2 : Cond.static Lib.Math.max.name ∈ TBL) (w3 : Cond.initialized "java/lang/Math" ∈ TBL) (w4 : Cond.code Lib.Math.max.name Lib.Math.max.code 2 (some .int) ∈ TBL)
    (hf : 1 ≤ R.frames) (hlo : (rest.map fun v => v.category).sum + 13 ≤ R.locals) (hcs : cells ≤ R.cells ∧ slots ≤ R.slots) {x y : Int32} (d : decode cc pc = .ok (.invokestatic idx, 3))
    (kk : W p l e R s m a below meth c H locs cells slots Q (F0 m (pc + 3) ls (.int (mxI x y) :: rest))) : W p l e R s m a below meth c H locs cells slots Q (F0 m pc ls (.int y :: .int x :: rest)) :=
  va_mmax cx.1 cx.2.1 (cx.2.2.1.trans hls.symm) cx.2.2.2.1 (cx.2.2.2.2 _ w1) (cx.2.2.2.2 _ w2) (cx.2.2.2.2 _ w3) (cx.2.2.2.2 _ w4) hf hlo hcs.1 hcs.2 d kk
theorem r_abs (cx : CallFix p m c cc nL s a TBL own) (hls : ls.size = nL) {idx : Nat} (w1 : Cond.methodLink own idx Lib.Math.abs.name ∈ TBL) (w2 : Cond.static Lib.Math.abs.name ∈ TBL) (w3 : Cond.initialized "java/lang/Math" ∈ TBL) (w4 : Cond.code Lib.Math.abs.name Lib.Math.abs.code 1 (some .int) ∈ TBL)
    (hf : 1 ≤ R.frames) (hlo : (rest.map fun v => v.category).sum + 13 ≤ R.locals) (hcs : cells ≤ R.cells ∧ slots ≤ R.slots) {x : Int32} (d : decode cc pc = .ok (.invokestatic idx, 3))
    (kk : W p l e R s m a below meth c H locs cells slots Q (F0 m (pc + 3) ls (.int (abI x) :: rest))) : W p l e R s m a below meth c H locs cells slots Q (F0 m pc ls (.int x :: rest)) :=
  va_mabs cx.1 cx.2.1 (cx.2.2.1.trans hls.symm) cx.2.2.2.1 (cx.2.2.2.2 _ w1) (cx.2.2.2.2 _ w2) (cx.2.2.2.2 _ w3) (cx.2.2.2.2 _ w4) hf hlo hcs.1 hcs.2 d kk
theorem r_swIn {dflt lo hi : Int} {offs : Array Int} {len : Nat} {x k : Int32} {off : Int} {tgt : Nat} (cx : CallFix p m c cc nL s a TBL own) (hc : x = k) (d : decode cc pc = .ok (.tableswitch dflt lo hi offs, len)) (h1 : ¬ k.toInt < lo) (h2 : ¬ hi < k.toInt) (ho : offs[(k.toInt - lo).toNat]? = some off) (ht : (pc : Int) + off = (tgt : Int))
    (kk : W p l e R s m a below meth c H locs cells slots Q (F0 m tgt ls rest)) : W p l e R s m a below meth c H locs cells slots Q (F0 m pc ls (.int x :: rest)) := by
  subst hc
  exact lv_tableIn cx.1 cx.2.1 d h1 h2 ho ht kk
end CORE2
