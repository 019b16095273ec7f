/-! the law: its world -/
abbrev lwW (E : EV) (ad : Nat → Nat) (σ τ : St) (o : Nat) (f : Nat → Int64) : va_W := wC E σ ++ ((o, .inl (eJ E, 1, .inr (.inl f))) :: wM (eW E ad) τ)
theorem lw_toM {E : EV} {ad : Nat → Nat} {σ τ : St} {o : Nat} {f : Nat → Int64} {A : Nat → Prop} {s : State} {H : Heap} {locs : List Loc} (h : AtW E (lwW E ad σ τ o f) A s H locs) : AtW (eW E ad) (wM (eW E ad) τ ++ (wC E σ ++ [(o, .inl (eJ E, 1, .inr (.inl f)))])) A s H locs := by
  have h1 : AtW E ((wC E σ ++ [(o, .inl (eJ E, 1, .inr (.inl f)))]) ++ wM (eW E ad) τ) A s H locs := by
    rw [List.append_assoc]; exact h
  exact h1.comm
theorem lw_ofM {E : EV} {ad : Nat → Nat} {σ τ : St} {o : Nat} {f : Nat → Int64} {A : Nat → Prop} {s : State} {H : Heap} {locs : List Loc} (h : AtW (eW E ad) (wM (eW E ad) τ ++ (wC E σ ++ [(o, .inl (eJ E, 1, .inr (.inl f)))])) A s H locs) : AtW E (lwW E ad σ τ o f) A s H locs := by
  have h0 : AtW E (wM (eW E ad) τ ++ (wC E σ ++ [(o, .inl (eJ E, 1, .inr (.inl f)))])) A s H locs := h
  have h1 := h0.comm
  rw [List.append_assoc] at h1
  exact h1
theorem lw_FZ {E : EV} {ad : Nat → Nat} {A : Nat → Prop} {U : State} {H : Heap} (he : ∀ k, 1000 ≤ k → ad k = eA E k) (h : FZ E A U H) : FZ (eW E ad) A U H := by
  have e1 : adS (eW E ad) = adS E := funext (fun i => he (1000 + i) (by omega))
  have e2 : adB (eW E ad) = adB E := funext (fun i => he (2000 + i) (by omega))
  unfold FZ at h ⊢
  rw [e1, e2]
  exact h
theorem lw_fst {E : EV} {ad : Nat → Nat} {σ σ2 τ : St} {o : Nat} {f f2 : Nat → Int64} : (wC E σ2 ++ ((o, .inl (eJ E, 1, .inr (.inl f2))) :: wM (eW E ad) τ) : va_W).map Prod.fst = (wC E σ ++ ((o, .inl (eJ E, 1, .inr (.inl f))) :: wM (eW E ad) τ) : va_W).map Prod.fst := rfl
theorem lw_upd0 {f : Nat → Int64} {x : Int64} : vp_updL f 0 x (Int32.toNatClampNeg 0) = x := rfl
theorem lw_cmp0 {x : Int64} : lg_cmp x x = 0 := by
  unfold lg_cmp
  rw [if_neg (fun h : x < x => Int64.lt_irrefl h), if_pos rfl]
def lwA (s : State) : Nat → Prop := fun q => s.heap.size ≤ q
/-- what stays over the whole law -/
def LwD (p : Program) (l : Launch) (s : State) (m : MethodId) (c : Code) (b L : Nat) (xs : Nat → Int32) (E : EV) (ad : Nat → Nat) : Prop :=
  CallFix p m c cL_law 8 s #[Value.ref b] TBL RL ∧ va_X b L xs s s.heap ∧ b < s.heap.size ∧ FZ E (lwA s) s s.heap ∧ FZ (eW E ad) (lwA s) s s.heap ∧ NCs s ∧ l.stackTraces = false
/-- behind a call: both still agree -/
def LwK (p : Program) (l : Launch) (e : Env) (s : State) (m : MethodId) (below : List Frame) (meth : Method) (c : Code) (b : Nat) (E : EV) (ad : Nat → Nat) (o : Nat) (x4 : Int32) (cells slots : Nat) (Q : State → Prop) : Prop :=
  ∀ (σ2 τ2 : St) (f2 : Nat → Int64) (H2 : Heap) (locs2 : List Loc) (ls2 : Array Slot), AtW E (lwW E ad σ2 τ2 o f2) (lwA s) s H2 locs2 → Inv σ2 τ2 → lv_has ls2 8 [(0, .ref b), (1, .ref (eA E 0)), (2, .ref (eA (eW E ad) 0)), (3, .ref o), (4, .int x4)] → W p l e room_1 s m #[Value.ref b] below meth c H2 locs2 (cells + 1) (slots + 6) Q (F0 m 2051 ls2 [])
