/-! the abstract stock: where each lies, the line, discs, dividers; its rows -/
abbrev Sk : Type := (Nat → Int) × (Nat → Nat) × (Nat → Nat) × (Nat → Nat)
def skW (s : Sk) : Nat → Int := s.1
def skL (s : Sk) : Nat → Nat := s.2.1
def skD (s : Sk) : Nat → Nat := s.2.2.1
def skV (s : Sk) : Nat → Nat := s.2.2.2
def updN (f : Nat → Nat) (k v : Nat) : Nat → Nat := fun j => if j = k then v else f j
def updZ (f : Nat → Int) (k : Nat) (v : Int) : Nat → Int := fun j => if j = k then v else f j
/-- one to one on the first n -/
def Bij (n : Nat) (f : Nat → Nat) : Prop := (∀ k, k < n → f k < n) ∧ (∀ i j, i < n → j < n → f i = f j → i = j) ∧ (∀ k, k < n → ∃ p, p < n ∧ f p = k)
def shiftN (f : Nat → Nat) (a b : Nat) : Nat → Nat := fun k => if k = b then f a else if a ≤ k ∧ k < b then f (k + 1) else if b < k ∧ k ≤ a then f (k - 1) else f k
def shiftI (a b k : Nat) : Nat := if k = b then a else if a ≤ k ∧ k < b then k + 1 else if b < k ∧ k ≤ a then k - 1 else k
theorem shiftN_eq (f : Nat → Nat) (a b k : Nat) : shiftN f a b k = f (shiftI a b k) := by
  unfold shiftN shiftI
  split
  · rfl
  · split
    · rfl
    · split <;> rfl
theorem shiftI_lt {a b k n : Nat} (ha : a < n) (hb : b < n) (hk : k < n) : shiftI a b k < n := by
  unfold shiftI; split
  · exact ha
  · split
    · omega
    · split <;> omega
theorem shiftI_inv {a b k : Nat} : shiftI a b (shiftI b a k) = k := by
  unfold shiftI
  by_cases c1 : k = a
  · rw [if_pos c1, if_pos rfl, c1]
  · rw [if_neg c1]
    by_cases c2 : b ≤ k ∧ k < a
    · rw [if_pos c2]
      rw [if_neg (by omega), if_neg (by omega), if_pos (by omega)]; omega
    · rw [if_neg c2]
      by_cases c3 : a < k ∧ k ≤ b
      · rw [if_pos c3]
        rw [if_neg (by omega), if_pos (by omega)]; omega
      · rw [if_neg c3]
        by_cases c4 : k = b
        · omega
        · rw [if_neg c4, if_neg (by omega), if_neg (by omega)]
theorem Bij.shift {n : Nat} {f : Nat → Nat} (h : Bij n f) {a b : Nat} (ha : a < n) (hb : b < n) : Bij n (shiftN f a b) := by
  refine ⟨fun k hk => ?_, fun i j hi hj e => ?_, fun k hk => ?_⟩
  · rw [shiftN_eq]; exact h.1 _ (shiftI_lt ha hb hk)
  · rw [shiftN_eq, shiftN_eq] at e
    have e := h.2.1 _ _ (shiftI_lt ha hb hi) (shiftI_lt ha hb hj) e
    rw [← shiftI_inv (a := b) (b := a) (k := i), e, shiftI_inv]
  · obtain ⟨p, hp, rfl⟩ := h.2.2 k hk
    exact ⟨shiftI b a p, shiftI_lt hb ha hp, by rw [shiftN_eq, shiftI_inv]⟩
def swapN (f : Nat → Nat) (a b : Nat) : Nat → Nat := fun k => if k = b then f a else if k = a then f b else f k
def swapI (a b k : Nat) : Nat := if k = b then a else if k = a then b else k
theorem swapN_eq (f : Nat → Nat) (a b k : Nat) : swapN f a b k = f (swapI a b k) := by
  unfold swapN swapI
  split
  · rfl
  · split <;> rfl
theorem swapI_inv {a b k : Nat} : swapI a b (swapI a b k) = k := by
  unfold swapI
  by_cases c1 : k = b
  · rw [if_pos c1]
    by_cases c2 : a = b
    · rw [if_pos c2]; omega
    · rw [if_neg c2, if_pos rfl]; omega
  · rw [if_neg c1]
    by_cases c2 : k = a
    · rw [if_pos c2, if_pos rfl]; omega
    · rw [if_neg c2, if_neg c1, if_neg c2]
theorem swapI_lt {a b k n : Nat} (ha : a < n) (hb : b < n) (hk : k < n) : swapI a b k < n := by
  unfold swapI; split
  · exact ha
  · split
    · exact hb
    · exact hk
theorem Bij.swap {n : Nat} {f : Nat → Nat} (h : Bij n f) {a b : Nat} (ha : a < n) (hb : b < n) : Bij n (swapN f a b) := by
  refine ⟨fun k hk => ?_, fun i j hi hj e => ?_, fun k hk => ?_⟩
  · rw [swapN_eq]; exact h.1 _ (swapI_lt ha hb hk)
  · rw [swapN_eq, swapN_eq] at e
    have e := h.2.1 _ _ (swapI_lt ha hb hi) (swapI_lt ha hb hj) e
    rw [← swapI_inv (a := a) (b := b) (k := i), e, swapI_inv]
  · obtain ⟨p, hp, rfl⟩ := h.2.2 k hk
    exact ⟨swapI a b p, swapI_lt ha hb hp, by rw [swapN_eq, swapI_inv]⟩
theorem Bij.id (n : Nat) : Bij n (fun k => k) := ⟨fun _ h => h, fun _ _ _ _ e => e, fun k h => ⟨k, h, rfl⟩⟩
theorem Bij.nodup {n : Nat} {f : Nat → Nat} (h : Bij n f) : ((List.range n).map f).Nodup := by
  unfold List.Nodup
  rw [List.pairwise_map]
  refine List.Pairwise.imp_of_mem (fun {a b} ha hb hab e => ?_) (List.nodup_range (n := n))
  exact hab (h.2.1 a b (List.mem_range.mp ha) (List.mem_range.mp hb) e)
theorem Bij.perm {n : Nat} {f : Nat → Nat} (h : Bij n f) : ((List.range n).map f).Perm (List.range n) := by
  refine (List.perm_ext_iff_of_nodup h.nodup List.nodup_range).mpr (fun a => ?_)
  rw [List.mem_map, List.mem_range]
  constructor
  · rintro ⟨p, hp, rfl⟩; exact h.1 p (List.mem_range.mp hp)
  · intro ha
    obtain ⟨p, hp, e⟩ := h.2.2 a ha
    exact ⟨p, List.mem_range.mpr hp, e⟩
/-- the line, and the row of a crate -/
def lineL (s : Sk) : List Nat := (List.range 24).map (skL s)
def rowL (s : Sk) (c : Nat) : List Nat := (lineL s).filter (fun k => decide (skW s k = (c : Int)))
theorem lineL_len (s : Sk) : (lineL s).length = 24 := by simp [lineL]
theorem rowL_len (s : Sk) (c : Nat) : (rowL s c).length ≤ 24 := by
  have := List.length_filter_le (fun k => decide (skW s k = (c : Int))) (lineL s)
  rw [lineL_len] at this
  exact this
def SkOk (nC nS : Nat) (s : Sk) : Prop :=
  (∀ k, k < nS → -1 ≤ skW s k ∧ skW s k < nC) ∧ (∀ k, nS ≤ k → k < 24 → skW s k = -1) ∧ Bij 24 (skL s) ∧ Bij 24 (skD s) ∧ (∀ k, nS ≤ k → k < 24 → skD s k = k) ∧ Bij 8 (skV s) ∧ (∀ p, nC ≤ p → p < 8 → skV s p = p)
theorem rowL_mem {nC nS : Nat} {s : Sk} (h : SkOk nC nS s) {c k : Nat} : k ∈ rowL s c ↔ k < 24 ∧ skW s k = (c : Int) := by
  unfold rowL lineL
  rw [List.mem_filter, List.mem_map]
  simp only [decide_eq_true_eq]
  constructor
  · rintro ⟨⟨p, hp, rfl⟩, h2⟩; exact ⟨h.2.2.1.1 p (List.mem_range.mp hp), h2⟩
  · rintro ⟨h1, h2⟩
    obtain ⟨p, hp, e⟩ := h.2.2.1.2.2 k h1
    exact ⟨⟨p, List.mem_range.mpr hp, e⟩, h2⟩
theorem rowL_nodup {nC nS : Nat} {s : Sk} (h : SkOk nC nS s) (c : Nat) : (rowL s c).Nodup := List.Pairwise.filter _ h.2.2.1.nodup
theorem rowL_count {nC nS : Nat} {s : Sk} (h : SkOk nC nS s) (c : Nat) : (rowL s c).length = ((List.range 24).filter (fun k => decide (skW s k = (c : Int)))).length := (h.2.2.1.perm.filter _).length_eq
/-- a sleeve is put behind all of a crate, at place p of the line -/
def putSk (s : Sk) (p : Nat) (k : Nat) (c : Int) : Sk := (updZ (skW s) k c, shiftN (skL s) p 23, skD s, skV s)
def takeSk (s : Sk) (k : Nat) : Sk := (updZ (skW s) k (-1), skL s, skD s, skV s)
theorem lineL_split (s : Sk) {p : Nat} (hp : p < 24) : lineL s = (List.range' 0 p).map (skL s) ++ (skL s p :: (List.range' (p + 1) (23 - p)).map (skL s)) := by
  unfold lineL
  rw [List.range_eq_range', show (24 : Nat) = p + (1 + (23 - p)) from by omega, ← List.range'_append_1, List.map_append, ← List.range'_append_1]
  simp
theorem lineL_put (s : Sk) {p k : Nat} {c : Int} (hp : p < 24) : lineL (putSk s p k c) = (List.range' 0 p).map (skL s) ++ ((List.range' (p + 1) (23 - p)).map (skL s) ++ [skL s p]) := by
  unfold lineL
  rw [List.range_eq_range', show (24 : Nat) = p + ((23 - p) + 1) from by omega, ← List.range'_append_1, List.map_append, ← List.range'_append_1, List.map_append]
  congr 1
  · refine List.map_congr_left (fun a ha => ?_)
    have := List.mem_range'_1.mp ha
    show shiftN (skL s) p 23 a = _
    unfold shiftN
    rw [if_neg (by omega), if_neg (by omega), if_neg (by omega)]
  · congr 1
    · rw [List.range'_succ_left, List.map_map]
      rw [Nat.zero_add]
      refine List.map_congr_left (fun a ha => ?_)
      have := List.mem_range'_1.mp ha
      show shiftN (skL s) p 23 a = skL s (a + 1)
      unfold shiftN
      rw [if_neg (by omega), if_pos (by omega)]
    · show [shiftN (skL s) p 23 _] = _
      unfold shiftN
      rw [if_pos (by omega)]
theorem lineL_others {nC nS : Nat} {s : Sk} (h : SkOk nC nS s) {p : Nat} (hp : p < 24) : (∀ a ∈ (List.range' 0 p).map (skL s), a ≠ skL s p) ∧ (∀ a ∈ (List.range' (p + 1) (23 - p)).map (skL s), a ≠ skL s p) := by
  constructor
  · intro a ha e
    obtain ⟨q, hq, rfl⟩ := List.mem_map.mp ha
    have := List.mem_range'_1.mp hq
    have := h.2.2.1.2.1 q p (by omega) hp e
    omega
  · intro a ha e
    obtain ⟨q, hq, rfl⟩ := List.mem_map.mp ha
    have := List.mem_range'_1.mp hq
    have := h.2.2.1.2.1 q p (by omega) hp e
    omega
theorem filter_ne_id {L : List Nat} {k : Nat} (h : ∀ a ∈ L, a ≠ k) : L.filter (fun a => decide (a ≠ k)) = L := List.filter_eq_self.mpr (fun a ha => decide_eq_true (h a ha))
theorem filter_upd {L : List Nat} {k : Nat} {w : Nat → Int} {c : Int} {x : Nat} (h : ∀ a ∈ L, a ≠ k) : L.filter (fun a => decide (updZ w k c a = (x : Int))) = L.filter (fun a => decide (w a = (x : Int))) := by
  refine List.filter_congr (fun a ha => ?_)
  unfold updZ
  rw [if_neg (h a ha)]
theorem rowL_put {nC nS : Nat} {s : Sk} (h : SkOk nC nS s) {p : Nat} {c : Int} (hp : p < 24) (x : Nat) : rowL (putSk s p (skL s p) c) x = (rowL s x).filter (fun a => decide (a ≠ skL s p)) ++ (if c = (x : Int) then [skL s p] else []) := by
  obtain ⟨h1, h2⟩ := lineL_others h hp
  unfold rowL
  rw [lineL_put s hp, lineL_split s hp, List.filter_append, List.filter_append, List.filter_append, List.filter_append]
  rw [show skW (putSk s p (skL s p) c) = updZ (skW s) (skL s p) c from rfl, filter_upd h1, filter_upd h2, ← List.append_assoc]
  congr 1
  · congr 1
    · exact (filter_ne_id (fun a ha => h1 a ((List.mem_filter.mp ha).1))).symm
    · by_cases e : decide (skW s (skL s p) = (x : Int)) = true
      · rw [List.filter_cons, if_pos e, List.filter_cons, if_neg (by simp)]
        exact (filter_ne_id (fun a ha => h2 a ((List.mem_filter.mp ha).1))).symm
      · rw [List.filter_cons, if_neg e]
        exact (filter_ne_id (fun a ha => h2 a ((List.mem_filter.mp ha).1))).symm
  · rw [List.filter_cons, List.filter_nil]
    unfold updZ
    rw [if_pos rfl]
    by_cases e : c = (x : Int)
    · rw [if_pos e, if_pos (decide_eq_true e)]
    · rw [if_neg e, if_neg (by simpa using e)]
theorem rowL_take {s : Sk} {k x : Nat} : rowL (takeSk s k) x = (rowL s x).filter (fun a => decide (a ≠ k)) := by
  unfold rowL
  rw [List.filter_filter, show lineL (takeSk s k) = lineL s from rfl, show skW (takeSk s k) = updZ (skW s) k (-1) from rfl]
  refine List.filter_congr (fun a _ => ?_)
  unfold updZ
  by_cases e : a = k
  · rw [if_pos e]
    have : ¬ (-1 : Int) = (x : Int) := by omega
    simp [e, this]
  · rw [if_neg e]; simp [e]
theorem SkOk.put {nC nS : Nat} {s : Sk} (h : SkOk nC nS s) {p : Nat} {c : Nat} (hp : p < 24) (hc : c < nC) (hk : skL s p < nS) : SkOk nC nS (putSk s p (skL s p) c) := by
  refine ⟨fun k hk2 => ?_, fun k h1 h2 => ?_, h.2.2.1.shift hp (by omega), h.2.2.2.1, h.2.2.2.2.1, h.2.2.2.2.2.1, h.2.2.2.2.2.2⟩
  · show -1 ≤ updZ (skW s) (skL s p) c k ∧ updZ (skW s) (skL s p) c k < nC
    unfold updZ
    split
    · omega
    · exact h.1 k hk2
  · show updZ (skW s) (skL s p) c k = -1
    unfold updZ
    rw [if_neg (by omega)]
    exact h.2.1 k h1 h2
theorem SkOk.take {nC nS : Nat} {s : Sk} (h : SkOk nC nS s) {k : Nat} (hk : k < nS) : SkOk nC nS (takeSk s k) := by
  refine ⟨fun j hj => ?_, fun j h1 h2 => ?_, h.2.2.1, h.2.2.2.1, h.2.2.2.2.1, h.2.2.2.2.2.1, h.2.2.2.2.2.2⟩
  · show -1 ≤ updZ (skW s) k (-1) j ∧ updZ (skW s) k (-1) j < nC
    unfold updZ
    split
    · omega
    · exact h.1 j hj
  · show updZ (skW s) k (-1) j = -1
    unfold updZ
    split
    · rfl
    · exact h.2.1 j h1 h2
