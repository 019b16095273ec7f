/-! stocks: the class's methods over a stock; the reference's over its rows -/
theorem len15 {t : Nat} (ht : t < 5) : lenN (15 + 4 * t) = 24 := (show ∀ t, t < 5 → lenN (15 + 4 * t) = 24 by decide) t ht
theorem len16 {t : Nat} (ht : t < 5) : lenN (15 + 4 * t + 1) = 24 := (show ∀ t, t < 5 → lenN (15 + 4 * t + 1) = 24 by decide) t ht
theorem len17 {t : Nat} (ht : t < 5) : lenN (15 + 4 * t + 2) = 24 := (show ∀ t, t < 5 → lenN (15 + 4 * t + 2) = 24 by decide) t ht
theorem len18 {t : Nat} (ht : t < 5) : lenN (15 + 4 * t + 3) = 8 := (show ∀ t, t < 5 → lenN (15 + 4 * t + 3) = 8 by decide) t ht
theorem SkOk.wb {nC nS : Nat} {s : Sk} (h : SkOk nC nS s) (hc : nC ≤ 8) {k : Nat} (hk : k < 24) : -1 ≤ skW s k ∧ skW s k < 8 := by
  by_cases e : k < nS
  · have := h.1 k e; omega
  · have := h.2.1 k (by omega) hk; omega
theorem c_where {σ : St} {t : Nat} {s : Sk} (ht : t < 5) (h : SkC σ t s) {k : Nat} (hk : k < 24) : x_X2_at (15 + 4 * t) (iI k) σ = some (iI (skW s k)) := by
  rw [f_at, len15 ht, atF_in hk (by omega), h.1 k hk]
theorem c_line {σ : St} {t : Nat} {s : Sk} (ht : t < 5) (h : SkC σ t s) {k : Nat} (hk : k < 24) : x_X2_at (15 + 4 * t + 1) (iI k) σ = some (iI (skL s k)) := by
  rw [f_at, len16 ht, atF_in hk (by omega), h.2.1 k hk]
theorem c_lies {σ : St} {t nC nS : Nat} {s : Sk} (ht : t < 5) (h : SkC σ t s) (hs : SkOk nC nS s) (hC : nC ≤ 8) {k : Nat} (hk : k < 24) : x_X5_lies t (iI k) σ = some (if skW s k = -1 then 0 else 1) := by
  have := hs.wb hC hk
  unfold x_X5_lies
  rw [c_where ht h hk, bd_some, im1]
  simp (disch := omega) only [iI_eqD]
  split <;> rfl
theorem c_size {σ : St} {t nC nS : Nat} {s : Sk} (ht : t < 5) (h : SkC σ t s) (hs : SkOk nC nS s) (hC : nC ≤ 8) (c : Nat) (hc : c < 100) : x_X5_size t (iI c) σ = some (iI (rowL s c).length) := by
  have key := lp_run (f := fun w : Int32 × Int32 => x_X5_size_L4 t (iI c) σ w.1 w.2) (fun i => (iI (((List.range i).filter (fun k => decide (skW s k = (c : Int)))).length : Nat), iI ((i : Nat) : Int))) (w := (iI (((List.range 24).filter (fun k => decide (skW s k = (c : Int)))).length : Nat), iI ((24 : Nat) : Int))) 24 FU (by unfold FU; omega) (fun i hi => ?_) ?_
  · unfold x_X5_size
    rw [rowL_count hs]
    show bd2 (lp _ FU (iI ((0 : Nat) : Int), iI ((0 : Nat) : Int))) _ = _
    rw [show (iI ((0 : Nat) : Int), iI ((0 : Nat) : Int)) = (iI (((List.range 0).filter (fun k => decide (skW s k = (c : Int)))).length : Nat), iI ((0 : Nat) : Int)) from rfl, key]
    rfl
  · have := hs.wb hC hi
    unfold x_X5_size_L4
    rw [show (24 : Int32) = iI 24 from rfl]
    simp (disch := omega) only [iI_leD]
    rw [if_neg (by omega), c_where ht h hi, bd_some]
    simp (disch := omega) only [iI_eqD]
    rw [List.range_succ, List.filter_append, List.length_append, List.filter_cons, List.filter_nil, i1]
    by_cases e : skW s i = (c : Int)
    · rw [if_pos e, if_pos (decide_eq_true e), iI_add, iI_add]; rfl
    · rw [if_neg e, if_neg (by simpa using e), iI_add]; rfl
  · unfold x_X5_size_L4
    rw [show (24 : Int32) = iI 24 from rfl]
    simp (disch := omega) only [iI_leD]
    rw [if_pos (by omega)]
/-- the row's head, as far as a place of the line -/
def rowP (s : Sk) (c i : Nat) : List Nat := ((List.range i).map (skL s)).filter (fun k => decide (skW s k = (c : Int)))
theorem rowP_succ (s : Sk) (c i : Nat) : rowP s c (i + 1) = rowP s c i ++ (if skW s (skL s i) = (c : Int) then [skL s i] else []) := by
  unfold rowP
  rw [List.range_succ, List.map_append, List.filter_append]
  congr 1
  rw [List.map_cons, List.map_nil, List.filter_cons, List.filter_nil]
  by_cases e : skW s (skL s i) = (c : Int)
  · rw [if_pos e, if_pos (decide_eq_true e)]
  · rw [if_neg e, if_neg (by simpa using e)]
theorem rowP_24 (s : Sk) (c : Nat) : rowP s c 24 = rowL s c := rfl
theorem rowP_pre (s : Sk) (c : Nat) : ∀ d i : Nat, i + d = 24 → ∃ tl, rowL s c = rowP s c i ++ tl := by
  intro d
  induction d with
  | zero => intro i hi; exact ⟨[], by rw [List.append_nil, ← rowP_24, show i = 24 from by omega]⟩
  | succ d ih =>
    intro i hi
    obtain ⟨tl, h⟩ := ih (i + 1) (by omega)
    rw [rowP_succ, List.append_assoc] at h
    exact ⟨_, h⟩
theorem rowP_len (s : Sk) (c i : Nat) : (rowP s c i).length ≤ i := by
  have := List.length_filter_le (fun k => decide (skW s k = (c : Int))) ((List.range i).map (skL s))
  simpa [rowP] using this
theorem c_inRow {σ : St} {t nC nS : Nat} {s : Sk} (ht : t < 5) (h : SkC σ t s) (hs : SkOk nC nS s) (hC : nC ≤ 8) (c : Nat) (hc : c < 100) (z : Int) (hz : ok32 z) : x_X5_inRow t (iI c) (iI z) σ = some (if 0 ≤ z ∧ z < (rowL s c).length then iI ((rowL s c).getD z.toNat 0 : Nat) else -1) := by
  obtain ⟨hz1, hz2⟩ := hz
  have key := lpr_inv (f := fun w : Int32 × Int32 => x_X5_inRow_L5 t (iI c) (iI z) σ w.1 w.2) (fun i w => w = (iI ((rowP s c i).length : Nat), iI ((i : Nat) : Int)) ∧ ¬ (0 ≤ z ∧ z < (rowP s c i).length)) (fun _ => ¬ (0 ≤ z ∧ z < (rowL s c).length)) (fun r => (0 ≤ z ∧ z < (rowL s c).length) ∧ r = iI ((rowL s c).getD z.toNat 0 : Nat)) 24 FU (by unfold FU; omega) (fun i w hi hg => ?_) (fun w hg => ?_) (iI ((0 : Nat) : Int), iI ((0 : Nat) : Int)) ⟨rfl, fun hq => by have := hq.2; simp [rowP] at this; omega⟩
  · unfold x_X5_inRow
    rcases key with ⟨w, h1, h2⟩ | ⟨r, h1, h2, rfl⟩
    · rw [if_neg h2]
      show bs2 (lpr _ FU (iI ((0 : Nat) : Int), iI ((0 : Nat) : Int))) _ _ = _
      rw [h1]; rfl
    · rw [if_pos h2]
      show bs2 (lpr _ FU (iI ((0 : Nat) : Int), iI ((0 : Nat) : Int))) _ _ = _
      rw [h1]; rfl
  · obtain ⟨rfl, hq⟩ := hg
    have hw := hs.2.2.1.1 i hi
    have hb := hs.wb hC hw
    have hl := rowP_len s c i
    unfold x_X5_inRow_L5
    rw [show (24 : Int32) = iI 24 from rfl]
    simp (disch := omega) only [iI_leD]
    rw [if_neg (by omega), c_line ht h hi, bd_some, c_where ht h hw, bd_some]
    simp (disch := omega) only [iI_eqD, i1, iI_add]
    by_cases e : skW s (skL s i) = (c : Int)
    · rw [if_pos e]
      by_cases e2 : ((rowP s c i).length : Int) = z
      · rw [if_pos e2]
        right
        obtain ⟨tl, htl⟩ := rowP_pre s c (24 - (i + 1)) (i + 1) (by omega)
        rw [rowP_succ, if_pos e] at htl
        refine ⟨_, rfl, ⟨by omega, ?_⟩, ?_⟩
        · rw [htl]; simp only [List.length_append, List.length_cons, List.length_nil]; omega
        · rw [htl, ← e2]
          simp
      · rw [if_neg e2]
        left
        refine ⟨_, rfl, ?_, ?_⟩
        · rw [rowP_succ, if_pos e, List.length_append]; rfl
        · rw [rowP_succ, if_pos e, List.length_append]; simp only [List.length_cons, List.length_nil]; omega
    · rw [if_neg e]
      left
      refine ⟨_, rfl, ?_, ?_⟩
      · rw [rowP_succ, if_neg e, List.append_nil]; rfl
      · rw [rowP_succ, if_neg e, List.append_nil]; exact hq
  · obtain ⟨rfl, hq⟩ := hg
    unfold x_X5_inRow_L5
    rw [show (24 : Int32) = iI 24 from rfl]
    simp (disch := omega) only [iI_leD]
    rw [if_pos (by omega)]
    exact ⟨_, rfl, by rw [rowP_24] at hq; exact hq⟩
theorem c_placeL {σ : St} {t nC nS : Nat} {s : Sk} (ht : t < 5) (h : SkC σ t s) (hs : SkOk nC nS s) {k : Nat} (hk : k < 24) : ∃ p, p < 24 ∧ skL s p = k ∧ x_X2_placeOf (15 + 4 * t + 1) (iI k) σ = some (iI p) := by
  rcases f_placeOf (15 + 4 * t + 1) (iI k) σ with ⟨p, h1, h2, _, h4⟩ | ⟨h1, _⟩
  · rw [len16 ht] at h1
    refine ⟨p, h1, ?_, h4⟩
    have hb := hs.2.2.1.1 p h1
    rw [h.2.1 p h1] at h2
    have := (iI_inj ⟨by omega, by omega⟩ ⟨by omega, by omega⟩).mp h2
    omega
  · obtain ⟨p, hp, e⟩ := hs.2.2.1.2.2 k hk
    exact absurd (by rw [h.2.1 p hp, e]) (h1 p (by rw [len16 ht]; exact hp))
theorem shiftF_N {f : Nat → Int32} {g : Nat → Nat} {a b n : Nat} (ha : a < n) (hb : b < n) (h : ∀ k, k < n → f k = iI (g k)) : ∀ k, k < n → shiftF f a b k = iI (shiftN g a b k) := by
  intro k hk
  unfold shiftF shiftN
  split
  · exact h a ha
  · split
    · exact h _ (by omega)
    · split
      · exact h _ (by omega)
      · exact h k hk
theorem c_putBehind {σ : St} {t nC nS : Nat} {s : Sk} (ht : t < 5) (h : SkC σ t s) (hs : SkOk nC nS s) {k : Nat} (hk : k < 24) (c : Nat) : ∃ p F G, p < 24 ∧ skL s p = k ∧ x_X5_putBehind t (iI k) (iI c) σ = some (sA (sA σ (15 + 4 * t + 1) F) (15 + 4 * t) G) ∧ SkC (sA (sA σ (15 + 4 * t + 1) F) (15 + 4 * t) G) t (putSk s p k c) := by
  obtain ⟨p, hp, e, hpl⟩ := c_placeL ht h hs hk
  refine ⟨p, shiftF (gA σ (15 + 4 * t + 1)) p 23, upd (gA σ (15 + 4 * t)) k (iI c), hp, e, ?_, ?_⟩
  · unfold x_X5_putBehind
    rw [hpl, bd_some, show (23 : Int32) = iI ((23 : Nat) : Int) from rfl, f_shift _ _ _ _ (by rw [len16 ht]; exact hp) (by rw [len16 ht]; omega), bd_some, f_put, bd_some, gA_sAn _ (by omega), len15 ht, putF_in hk (by omega)]
  · refine ⟨fun q hq => ?_, fun q hq => ?_, fun q hq => ?_, fun q hq => ?_⟩
    · rw [gA_sA]
      show upd _ k _ q = iI (updZ (skW s) k c q)
      unfold upd updZ
      split
      · rfl
      · exact h.1 q hq
    · rw [gA_sAn _ (by omega), gA_sA]
      exact shiftF_N hp (by omega) h.2.1 q hq
    · rw [gA_sAn _ (by omega), gA_sAn _ (by omega)]; exact h.2.2.1 q hq
    · rw [gA_sAn _ (by omega), gA_sAn _ (by omega)]; exact h.2.2.2 q hq
theorem c_sell {σ : St} {t : Nat} {s : Sk} (ht : t < 5) (h : SkC σ t s) {k : Nat} (hk : k < 24) : x_X5_sell t (iI k) σ = some (sA σ (15 + 4 * t) (upd (gA σ (15 + 4 * t)) k (-1))) ∧ SkC (sA σ (15 + 4 * t) (upd (gA σ (15 + 4 * t)) k (-1))) t (takeSk s k) := by
  constructor
  · unfold x_X5_sell
    rw [f_put, bd_some, len15 ht, putF_in hk (by omega)]
  · refine ⟨fun q hq => ?_, fun q hq => ?_, fun q hq => ?_, fun q hq => ?_⟩
    · rw [gA_sA]
      show upd _ k _ q = iI (updZ (skW s) k (-1) q)
      unfold upd updZ
      split
      · rfl
      · exact h.1 q hq
    · rw [gA_sAn _ (by omega)]; exact h.2.1 q hq
    · rw [gA_sAn _ (by omega)]; exact h.2.2.1 q hq
    · rw [gA_sAn _ (by omega)]; exact h.2.2.2 q hq
/-- the class's own crate of a sleeve, and how far off it lies -/
theorem len2 {u : Nat} (hu : u < 2) : lenN (1 + 7 * u + 1) = 96 := (show ∀ t, t < 2 → lenN (1 + 7 * t + 1) = 96 by decide) u hu
theorem len5 {u : Nat} (hu : u < 2) : lenN (1 + 7 * u + 4) = 36 := (show ∀ t, t < 2 → lenN (1 + 7 * t + 4) = 36 by decide) u hu
theorem c_ofSleeve {u : Nat} {σ : St} {T : Td} (hu : u < 2) (h : TdC u σ T) (hT : TdOk T) {k w : Nat} (hk : k < tS T) (hw : w < 3) : x_X7_ofSleeve u (iI k) (iI w) σ = some (iI (tSp T k w)) := by
  have := hT.2.1
  unfold x_X7_ofSleeve
  rw [i4, iI_mul, iI_add, show (k : Int) * 4 + w = ((4 * k + w : Nat) : Int) from by omega, f_at, len2 hu, atF_in (by omega) (by omega), h.2.2.2.2.2.1 k w hk hw, bd_some]
theorem c_own {u : Nat} {σ : St} {T : Td} (hu : u < 2) (h : TdC u σ T) (hT : TdOk T) {k : Nat} (hk : k < tS T) : x_X7_ofSleeve u (iI k) 3 σ = some (iI (tOwn T k)) := by
  have := hT.2.1
  unfold x_X7_ofSleeve
  rw [i4, i3, iI_mul, iI_add, show (k : Int) * 4 + 3 = ((4 * k + 3 : Nat) : Int) from by omega, f_at, len2 hu, atF_in (by omega) (by omega), h.2.2.2.2.2.2.1 k hk, bd_some]
theorem c_ofLooker {u : Nat} {σ : St} {T : Td} (hu : u < 2) (h : TdC u σ T) (hT : TdOk T) {k w : Nat} (hk : k < tL T) (hw : w < 6) : x_X7_ofLooker u (iI k) (iI w) σ = some (iI (tLk T k w)) := by
  have := hT.2.2.1
  unfold x_X7_ofLooker
  rw [show (6 : Int32) = iI 6 from rfl, iI_mul, iI_add, show (k : Int) * 6 + w = ((6 * k + w : Nat) : Int) from by omega, f_at, len5 hu, atF_in (by omega) (by omega), h.2.2.2.2.2.2.2.1 k w hk hw, bd_some]
theorem tOwn_lt {T : Td} (hT : TdOk T) {k : Nat} (hk : k < tS T) : tOwn T k < tC T := by
  refine ownN_lt _ _ ?_
  have := hT.2.2.2.2.1
  omega
/-- how far off its own crate one lies (0 where it doesn't lie) -/
def offN (T : Td) (s : Sk) (k : Nat) : Nat := if skW s k = -1 then 0 else (skW s k - tOwn T k).natAbs
theorem abI_iI {z : Int} (h : -1000 ≤ z ∧ z ≤ 1000) : abI (iI z) = iI (z.natAbs : Nat) := by
  unfold abI
  rw [i0]
  simp (disch := omega) only [iI_leD]
  split
  · congr 1; omega
  · rw [iI_sub]; congr 1; omega
theorem c_offOwn {σ : St} {t : Nat} {T : Td} {s : Sk} (ht : t < 5) (h : SkC σ t s) (hs : SkOk (tC T) (tS T) s) (hT : TdOk T) (hTC : TdC 0 σ T) {k : Nat} (hk : k < tS T) : x_X5_offOwn t 0 (iI k) σ = some (iI (offN T s k)) := by
  have h24 := hT.2.1
  have hC := hT.1
  have hw := hs.wb hC (k := k) (by omega)
  have ho := tOwn_lt hT hk
  unfold x_X5_offOwn offN
  rw [c_lies ht h hs hC (by omega), bd_some]
  by_cases e : skW s k = -1
  · rw [if_pos e, if_pos e, if_pos rfl]; rfl
  · rw [if_neg e, if_neg e, if_neg (by decide), c_where ht h (by omega), bd_some, c_own (by omega) hTC hT hk, bd_some, iI_sub, abI_iI (by omega)]
def sumN (f : Nat → Nat) : Nat → Nat
  | 0 => 0
  | n + 1 => sumN f n + f n
theorem sumN_le {f : Nat → Nat} {b n : Nat} (h : ∀ k, k < n → f k ≤ b) : sumN f n ≤ n * b := by
  induction n with
  | zero => simp [sumN]
  | succ n ih =>
    have h1 := ih (fun k hk => h k (by omega))
    have h2 := h n (by omega)
    unfold sumN
    rw [Nat.succ_mul]
    omega
theorem c_allOff {σ : St} {t : Nat} {T : Td} {s : Sk} (ht : t < 5) (h : SkC σ t s) (hs : SkOk (tC T) (tS T) s) (hT : TdOk T) (hTC : TdC 0 σ T) : x_X5_allOff t 0 σ = some (iI (sumN (offN T s) (tS T))) := by
  have h24 := hT.2.1
  have key := lp_run (f := fun w : Int32 × Int32 => x_X5_allOff_L4 t 0 σ w.1 w.2) (fun i => (iI (sumN (offN T s) i), iI ((i : Nat) : Int))) (w := (iI (sumN (offN T s) (tS T)), iI ((tS T : Nat) : Int))) (tS T) FU (by unfold FU; omega) (fun i hi => ?_) ?_
  · unfold x_X5_allOff
    show bd2 (lp _ FU (iI (sumN (offN T s) 0), iI ((0 : Nat) : Int))) _ = _
    rw [key]; rfl
  · unfold x_X5_allOff_L4
    rw [show gI σ (4 * 0 + 1) = iI (tS T) from hTC.2.1]
    simp (disch := omega) only [iI_leD]
    rw [if_neg (by omega), c_offOwn ht h hs hT hTC hi, bd_some, i1, iI_add, iI_add]
    rfl
  · unfold x_X5_allOff_L4
    rw [show gI σ (4 * 0 + 1) = iI (tS T) from hTC.2.1]
    simp (disch := omega) only [iI_leD]
    rw [if_pos (by omega)]
