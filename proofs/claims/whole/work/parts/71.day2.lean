/-! a day: one goes through a row -/
def MnR (σ τ : St) (T : Td) (spn : Nat → Int) : Prop :=
  (∀ k, k < tL T → gA σ 37 k = iI (spn k) ∧ gA τ 21 k = iI (tLk T k 4 - spn k) ∧ gA τ 23 k = iI (spn k) ∧ gA σ 36 k = gA τ 22 k ∧ 0 ≤ spn k ∧ spn k ≤ tLk T k 4) ∧ (∀ k, tL T ≤ k → k < 6 → gA σ 36 k = 0 ∧ gA σ 37 k = 0) ∧ gI τ 17 = sumF (gA σ 36) 6
def SeeR (σ τ : St) (T : Td) (s : Sk) (i b : Nat) : Prop := TdC 0 σ T ∧ TdM 0 τ T ∧ SkOk (tC T) (tS T) s ∧ SkC σ 4 s ∧ SkM τ (tS T) s ∧ gI σ 21 = gI τ 16 ∧ (∃ spn, MnR σ τ T spn) ∧ b ≤ 24 ∧ gI τ 19 = 0 ∧ ∀ q, q < b → ∃ x, x < tS T ∧ gA σ 42 q = iI (x : Nat) ∧ gA τ 27 q = iI (x : Nat) ∧ skW s x ≠ -1 ∧ ∃ p, p < i ∧ skL s p = x
def FrC (σ σ2 : St) : Prop := (∀ k, k ≠ 21 → gI σ2 k = gI σ k) ∧ (∀ j, ¬ (j = 31 ∨ j = 32 ∨ j = 33 ∨ j = 34 ∨ j = 36 ∨ j = 37 ∨ j = 42) → gA σ2 j = gA σ j)
def FrM (τ τ2 : St) : Prop := (∀ k, k ≠ 16 → k ≠ 17 → gI τ2 k = gI τ k) ∧ (∀ j, ¬ (j = 7 ∨ j = 16 ∨ j = 17 ∨ j = 21 ∨ j = 22 ∨ j = 23 ∨ j = 27) → gA τ2 j = gA τ j)
theorem FrC.rfl {σ : St} : FrC σ σ := ⟨fun _ _ => Eq.refl _, fun _ _ => Eq.refl _⟩
theorem FrM.rfl {σ : St} : FrM σ σ := ⟨fun _ _ _ => Eq.refl _, fun _ _ => Eq.refl _⟩
theorem FrC.trans {a b c : St} (h : FrC a b) (k : FrC b c) : FrC a c := ⟨fun i h1 => (k.1 i h1).trans (h.1 i h1), fun j hj => (k.2 j hj).trans (h.2 j hj)⟩
theorem FrM.trans {a b c : St} (h : FrM a b) (k : FrM b c) : FrM a c := ⟨fun i h1 h2 => (k.1 i h1 h2).trans (h.1 i h1 h2), fun j hj => (k.2 j hj).trans (h.2 j hj)⟩
theorem FrC.sA {σ : St} {j : Nat} {f : Nat → Int32} (h : j = 31 ∨ j = 32 ∨ j = 33 ∨ j = 34 ∨ j = 36 ∨ j = 37 ∨ j = 42) : FrC σ (sA σ j f) := ⟨fun _ _ => Eq.refl _, fun i hi => gA_sAn _ (by omega) _⟩
theorem FrM.sA {σ : St} {j : Nat} {f : Nat → Int32} (h : j = 7 ∨ j = 16 ∨ j = 17 ∨ j = 21 ∨ j = 22 ∨ j = 23 ∨ j = 27) : FrM σ (sA σ j f) := ⟨fun _ _ _ => Eq.refl _, fun i hi => gA_sAn _ (by omega) _⟩
theorem FrC.sI {σ : St} {k : Nat} {v : Int32} (h : k = 21) : FrC σ (sI σ k v) := ⟨fun i h1 => gI_sIn _ (by omega) _, fun _ _ => Eq.refl _⟩
theorem FrM.sI {σ : St} {k : Nat} {v : Int32} (h : k = 16 ∨ k = 17) : FrM σ (sI σ k v) := ⟨fun i h1 h2 => gI_sIn _ (by omega) _, fun _ _ => Eq.refl _⟩
theorem SkF.fr {a b : St} (h : SkF 4 a b) : FrC a b := ⟨fun k _ => h.1 k, fun j hj => h.2.1 j (by omega)⟩
theorem RwF.fr {a b : St} (h : RwF a b) : FrM a b := ⟨fun k _ _ => h.1 k, fun j hj => h.2.1 j (by omega)⟩
theorem TdC.fr {σ σ2 : St} {T : Td} (h : TdC 0 σ T) (e : FrC σ σ2) : TdC 0 σ2 T := h.eq (fun k _ _ => e.1 k (by omega)) (fun j _ _ => e.2 j (by omega))
theorem TdM.fr {σ σ2 : St} {T : Td} (h : TdM 0 σ T) (e : FrM σ σ2) : TdM 0 σ2 T := h.eq (fun k _ _ => e.1 k (by omega) (by omega)) (fun j _ _ => e.2 j (by omega))
theorem m_looker {τ : St} {T : Td} (hM : TdM 0 τ T) (hT : TdOk T) {k w : Nat} (hk : k < tL T) (hw : w < 6) : ldI (gA τ 4) (lenM 4) (iI ((6 * k + w : Nat) : Int)) = some (iI (tLk T k w)) := by
  have := hT.2.2.1
  rw [ldI_in (show 6 * k + w < lenM 4 from (show _ < 36 by omega)) (by decide), show gA τ 4 (6 * k + w) = _ from hM.2.2.2.2.2.2.1 k w hk hw]
theorem m_sleeve {τ : St} {T : Td} (hM : TdM 0 τ T) (hT : TdOk T) {k w : Nat} (hk : k < tS T) (hw : w < 3) : ldI (gA τ 3) (lenM 3) (iI ((3 * k + w : Nat) : Int)) = some (iI (tSp T k w)) := by
  have := hT.2.1
  rw [ldI_in (show 3 * k + w < lenM 3 from (show _ < 72 by omega)) (by decide), show gA τ 3 (3 * k + w) = _ from hM.2.2.2.2.2.1 k w hk hw]
/-- the class's look at one sleeve: held up or not -/
theorem c_holds {σ : St} {T : Td} (hT : TdOk T) (hC : TdC 0 σ T) {k x r : Nat} {v : Int32} (hk : k < tL T) (hx : x < tS T) (hr : r < 8) (hd : x_X1_draw 8 σ = some (iI (r : Int), sI σ 21 v)) : x_X1_holdsUp (iI k) (iI x) σ = some (if (r : Int) < tMi T (tLk T k 1).toNat then 0 else if tSp T x 2 < tLk T k 2 then 0 else 1, sI σ 21 v) := by
  have hlk := hT.2.2.2.2.2.2.2.1 k hk
  have hsp := hT.2.2.2.2.2.2.1 x hx
  have hC1 : TdC 0 (sI σ 21 v) T := hC.fr (FrC.sI (by omega))
  have hmi := hT.2.2.2.2.2.2.2.2.1 (tLk T k 1).toNat (by omega) (by omega)
  have l1 : x_X7_ofLooker 0 (iI k) 1 (sI σ 21 v) = some (iI (tLk T k 1)) := c_ofLooker (w := 1) (by omega) hC1 hT hk (by omega)
  have l2 : x_X7_ofLooker 0 (iI k) 2 (sI σ 21 v) = some (iI (tLk T k 2)) := c_ofLooker (w := 2) (by omega) hC1 hT hk (by omega)
  have l3 : x_X7_ofSleeve 0 (iI x) 2 (sI σ 21 v) = some (iI (tSp T x 2)) := c_ofSleeve (w := 2) (by omega) hC1 hT hx (by omega)
  have l4 : x_X2_at 6 (iI (tLk T k 1)) (sI σ 21 v) = some (iI (tMi T (tLk T k 1).toNat)) := by
    rw [f_at, atF_inZ (by omega) (show tLk T k 1 < (lenN 6 : Nat) from (show tLk T k 1 < (9 : Nat) by omega)) (by decide), show gA (sI σ 21 v) 6 (tLk T k 1).toNat = _ from hC1.2.2.2.2.2.2.2.2.1 _ (by omega) (by omega)]
  unfold x_X1_holdsUp x_X1_holdsUp_b33
  rw [hd, bd2_some, l1, bd_some, l4, bd_some, l2, l3]
  simp (disch := omega) only [iI_ltD]
  by_cases e : (r : Int) < tMi T (tLk T k 1).toNat
  · rw [if_pos e, if_pos e, if_pos trivial]
  · rw [if_neg e, if_neg e, if_neg (show ¬ (1 : Int32) = 0 by decide), bd_some, bd_some]
    simp (disch := omega) only [iI_ltD]
    by_cases e2 : tSp T x 2 < tLk T k 2
    · rw [if_pos e2, if_pos e2]
    · rw [if_neg e2, if_neg e2]
theorem MnR.seed {σ τ : St} {T : Td} {spn : Nat → Int} (h : MnR σ τ T spn) (v w : Int32) : MnR (sI σ 21 v) (sI τ 16 w) T spn := by
  unfold MnR at h ⊢
  rw [gI_sIn _ (by omega)]
  exact h
theorem sumF_upd (f : Nat → Int32) (k : Nat) (v : Int32) : ∀ n, k < n → sumF (upd f k (f k + v)) n = sumF f n + v := by
  intro n
  induction n with
  | zero => intro h; omega
  | succ n ih =>
    intro h
    by_cases e : k = n
    · subst e
      have e1 : ∀ m, m ≤ k → sumF (upd f k (f k + v)) m = sumF f m := by
        intro m
        induction m with
        | zero => intro _; rfl
        | succ m ih2 =>
          intro hm
          show sumF (upd f k (f k + v)) m + upd f k (f k + v) m = sumF f m + f m
          rw [ih2 (by omega)]
          unfold upd
          rw [if_neg (by omega)]
      show sumF (upd f k (f k + v)) k + upd f k (f k + v) k = sumF f k + f k + v
      rw [e1 k (Nat.le_refl _)]
      unfold upd
      rw [if_pos rfl, Int32.add_assoc]
    · show sumF (upd f k (f k + v)) n + upd f k (f k + v) n = sumF f n + f n + v
      rw [ih (by omega)]
      unfold upd
      rw [if_neg (by omega), Int32.add_assoc, Int32.add_comm v, ← Int32.add_assoc]
/-- both look at one sleeve of the row -/
theorem both_one {σ τ : St} {T : Td} {s : Sk} {k c x i b n j size : Nat} {hh v1 p3 : Int32} (hT : TdOk T) (hk : k < tL T) (hc : c < tC T) (hx : x < tS T) (hi : i < 24) (hli : skL s i = x) (hw : skW s x = (c : Int)) (h : SeeR σ τ T s i b) (hn : n < 24) (hrow : gA τ 17 (24 * c + n) = iI (x : Nat)) (hj : j < size) (hsz : size ≤ 24) (hbi : b ≤ i) :
    ∃ (hh2 : Int32) (b2 n2 : Nat) (σ2 τ2 : St) (s2 : Sk), x_X1_goThrough_L8 (iI k) (iI c) hh (iI b) (iI i) σ = some (true, (hh2, iI (b2 : Nat), iI ((i + 1 : Nat) : Int), σ2)) ∧ x_X10_comes_L27 (iI k) (iI c) p3 (iI size) hh (iI b) (iI n) (iI j) τ = some (true, (hh2, iI (b2 : Nat), iI (n2 : Nat), iI ((j + 1 : Nat) : Int), τ2)) ∧ SeeR σ2 τ2 T s2 (i + 1) b2 ∧ b2 ≤ i + 1 ∧ FrC σ σ2 ∧ FrM τ τ2 ∧ ((s2 = s ∧ n2 = n + 1) ∨ (s2 = takeSk s x ∧ n2 = n)) := by
  have hL6 := hT.2.2.1
  have hS24 := hT.2.1
  have hC8 := hT.1
  obtain ⟨hC, hM, hs, hSC, hSM, hsd, ⟨spn, hmn⟩, hb24, hbl, hhl⟩ := h
  have hlk := hT.2.2.2.2.2.2.2.1 k hk
  have hsp := hT.2.2.2.2.2.2.1 x hx
  obtain ⟨r, hr, d1, d2⟩ := both_draw (n := 8) (by omega) (by omega) hsd
  have d1 : x_X1_draw 8 σ = some (iI (r : Int), sI σ 21 (nsd (gI σ 21))) := d1
  have d2 : x_X10_draw 8 τ = some (iI (r : Int), sI τ 16 (nsd (gI σ 21))) := d2
  generalize nsd (gI σ 21) = v at d1 d2
  have hC1 : TdC 0 (sI σ 21 v) T := hC.fr (FrC.sI (by omega))
  have hM1 : TdM 0 (sI τ 16 v) T := hM.fr (FrM.sI (by omega))
  have hmi := hT.2.2.2.2.2.2.2.2.1 (tLk T k 1).toNat (by omega) (by omega)
  have l1 : ldI (gA (sI τ 16 v) 4) (lenM 4) (iI (6 * (k : Int) + 1)) = some (iI (tLk T k 1)) := by
    have := m_looker (w := 1) hM1 hT hk (by omega)
    rw [show ((6 * k + 1 : Nat) : Int) = 6 * (k : Int) + 1 from by omega] at this
    exact this
  have l2 : ldI (gA (sI τ 16 v) 4) (lenM 4) (iI (6 * (k : Int) + 2)) = some (iI (tLk T k 2)) := by
    have := m_looker (w := 2) hM1 hT hk (by omega)
    rw [show ((6 * k + 2 : Nat) : Int) = 6 * (k : Int) + 2 from by omega] at this
    exact this
  have l3 : ldI (gA (sI τ 16 v) 4) (lenM 4) (iI (6 * (k : Int) + 3)) = some (iI (tLk T k 3)) := by
    have := m_looker (w := 3) hM1 hT hk (by omega)
    rw [show ((6 * k + 3 : Nat) : Int) = 6 * (k : Int) + 3 from by omega] at this
    exact this
  have s1 : ldI (gA (sI τ 16 v) 3) (lenM 3) (iI (3 * (x : Int) + 1)) = some (iI (tSp T x 1)) := by
    have := m_sleeve (w := 1) hM1 hT hx (by omega)
    rw [show ((3 * x + 1 : Nat) : Int) = 3 * (x : Int) + 1 from by omega] at this
    exact this
  have s2 : ldI (gA (sI τ 16 v) 3) (lenM 3) (iI (3 * (x : Int) + 2)) = some (iI (tSp T x 2)) := by
    have := m_sleeve (w := 2) hM1 hT hx (by omega)
    rw [show ((3 * x + 2 : Nat) : Int) = 3 * (x : Int) + 2 from by omega] at this
    exact this
  have lm : ldI (gA (sI τ 16 v) 5) (lenM 5) (iI (tLk T k 1)) = some (iI (tMi T (tLk T k 1).toNat)) := by
    obtain ⟨f, hf⟩ := Int.eq_ofNat_of_zero_le (a := tLk T k 1) (by omega)
    rw [hf, ldI_in (show f < lenM 5 from (show f < 9 by omega)) (by decide), show gA (sI τ 16 v) 5 f = _ from hM1.2.2.2.2.2.2.2.1 f (by omega) (by omega)]
    rfl
  have ec : x_X1_goThrough_L8 (iI k) (iI c) hh (iI b) (iI i) σ = x_X1_goThrough_L8 (iI k) (iI c) hh (iI b) (iI i) σ := rfl
  have em : x_X10_comes_L27 (iI k) (iI c) p3 (iI size) hh (iI b) (iI n) (iI j) τ = x_X10_comes_L27 (iI k) (iI c) p3 (iI size) hh (iI b) (iI n) (iI j) τ := rfl
  conv at ec => rhs; unfold x_X1_goThrough_L8
  conv at em => rhs; unfold x_X10_comes_L27
  simp (disch := omega) only [qM24] at ec
  rw [if_neg (by omega), show x_X2_at 32 (iI (i : Int)) σ = _ from c_line (t := 4) (by omega) hSC hi, bd_some, hli, show x_X2_at 31 (iI (x : Int)) σ = _ from c_where (t := 4) (by omega) hSC (by omega), bd_some, hw, if_pos rfl, c_holds hT hC hk hx hr d1, bd2_some, qa1] at ec
  simp (disch := omega) only [iI_leD] at em
  rw [if_neg (by omega), hbl, if_pos rfl, qy24, iI_add, show (24 : Int) * c + n = ((24 * c + n : Nat) : Int) from by omega, ldI_in (show 24 * c + n < lenM 17 from (show _ < 192 by omega)) (by decide), hrow, bd_some, d2, bd2_some] at em
  simp only [qy6, qy3, qa1, qa2, qa3, qaM] at em
  rw [l1, bd_some, lm, bd_some, s2, bd_some, l2, bd_some, s1, bd_some, l3, bd_some] at em
  simp (disch := omega) only [iI_ltD, iI_leD] at em
  have hmn1 := hmn.seed v v
  have base : ∀ i2, i ≤ i2 → SeeR (sI σ 21 v) (sI τ 16 v) T s i2 b := fun i2 hi2 => ⟨hC1, hM1, hs, hSC.eq (fun _ _ _ => rfl), hSM.eq (fun _ _ => rfl), by rw [gI_sI, gI_sI], ⟨spn, hmn1⟩, hb24, (gI_sIn _ (by omega) _).trans hbl, fun q hq => by
    obtain ⟨y, y1, y2, y3, y4, p, p1, p2⟩ := hhl q hq
    exact ⟨y, y1, y2, y3, y4, p, by omega, p2⟩⟩
  by_cases q1 : (r : Int) < tMi T (tLk T k 1).toNat
  · rw [if_pos q1, if_pos rfl] at ec
    rw [if_pos q1] at em
    exact ⟨hh, b, n + 1, _, _, s, ec, em, base _ (by omega), by omega, FrC.sI (by omega), FrM.sI (by omega), Or.inl ⟨rfl, rfl⟩⟩
  · rw [if_neg q1] at ec em
    by_cases q2 : tSp T x 2 < tLk T k 2
    · rw [if_pos q2, if_pos rfl] at ec
      rw [if_neg (by omega)] at em
      exact ⟨hh, b, n + 1, _, _, s, ec, em, base _ (by omega), by omega, FrC.sI (by omega), FrM.sI (by omega), Or.inl ⟨rfl, rfl⟩⟩
    · rw [if_neg q2, if_neg (show ¬ (1 : Int32) = 0 by decide)] at ec
      rw [if_pos (by omega)] at em
      -- held up
      have hm1 := hmn1.1 k hk
      have b1 : x_X7_ofSleeve 0 (iI x) 1 (sI σ 21 v) = some (iI (tSp T x 1)) := c_ofSleeve (w := 1) (by omega) hC1 hT hx (by omega)
      have b2 : x_X7_ofLooker 0 (iI k) 4 (sI σ 21 v) = some (iI (tLk T k 4)) := c_ofLooker (w := 4) (by omega) hC1 hT hk (by omega)
      have b3 : x_X7_ofLooker 0 (iI k) 3 (sI σ 21 v) = some (iI (tLk T k 3)) := c_ofLooker (w := 3) (by omega) hC1 hT hk (by omega)
      have b4 : x_X2_at 37 (iI k) (sI σ 21 v) = some (iI (spn k)) := by
        rw [f_at, atF_in (show k < lenN 37 from (show k < 6 by omega)) (by decide), hm1.1]
      have n1 : ldI (gA (sI τ 16 v) 21) (lenM 21) (iI (k : Int)) = some (iI (tLk T k 4 - spn k)) := by
        rw [ldI_in (show k < lenM 21 from (show k < 6 by omega)) (by decide), hm1.2.1]
      have keep : ∀ σ3 τ3 : St, σ3 = sA (sI σ 21 v) 42 (upd (gA (sI σ 21 v) 42) b (iI (x : Nat))) → τ3 = sA (sI τ 16 v) 27 (upd (gA (sI τ 16 v) 27) b (iI (x : Nat))) → b < 24 → SeeR σ3 τ3 T s (i + 1) (b + 1) ∧ FrC σ σ3 ∧ FrM τ τ3 := by
        rintro σ3 τ3 rfl rfl hb23
        refine ⟨⟨hC1.fr (FrC.sA (by omega)), hM1.fr (FrM.sA (by omega)), hs, hSC.eq (fun j _ _ => gA_sAn _ (by omega) _), hSM.eq (fun j _ => gA_sAn _ (by omega) _), by rw [gI_sA, gI_sA, gI_sI, gI_sI], ⟨spn, hmn1⟩, by omega, (gI_sA _ _ _ _).trans ((gI_sIn _ (by omega) _).trans hbl), fun q hq => ?_⟩, (FrC.sI (by omega)).trans (FrC.sA (by omega)), (FrM.sI (by omega)).trans (FrM.sA (by omega))⟩
        rw [gA_sA, gA_sA]
        unfold upd
        by_cases z : q = b
        · rw [if_pos z, if_pos z]
          exact ⟨x, hx, rfl, rfl, by rw [hw]; omega, i, by omega, hli⟩
        · rw [if_neg z, if_neg z]
          obtain ⟨y, y1, y2, y3, y4, p, p1, p2⟩ := hhl q (by omega)
          exact ⟨y, y1, y2, y3, y4, p, by omega, p2⟩
      have hb23 : b < 24 := by omega
      have sto : stI (sI τ 16 v) 27 (lenM 27) (iI (b : Int)) (iI (x : Nat)) = some (sA (sI τ 16 v) 27 (upd (gA (sI τ 16 v) 27) b (iI (x : Nat)))) := stI_in (show b < lenM 27 from hb23) (by decide)
      have put : x_X2_put 42 (iI (b : Int)) (iI (x : Nat)) (sI σ 21 v) = some (sA (sI σ 21 v) 42 (upd (gA (sI σ 21 v) 42) b (iI (x : Nat)))) := by
        rw [f_put, putF_in (show b < lenN 42 from hb23) (by decide)]
      unfold x_X10_comes_b27_208 at em
      rw [sto, bd_some] at em
      by_cases q3 : tLk T k 3 < tSp T x 1
      · have bu : x_X1_buysIt (iI k) (iI x) (sI σ 21 v) = some (0, sI σ 21 v) := by
          unfold x_X1_buysIt
          rw [b1, bd_some, b2, bd_some, b4, bd_some, b3, bd_some]
          simp (disch := omega) only [iI_ltD]
          rw [if_pos q3]
        rw [if_pos q3, qa1, qa1] at em
        rw [bu, bd2_some, if_pos rfl, put, bd_some, qa1] at ec
        obtain ⟨w1, w2, w3⟩ := keep _ _ rfl rfl hb23
        exact ⟨hh + 1, b + 1, n + 1, _, _, s, ec, em, w1, by omega, w2, w3, Or.inl ⟨rfl, rfl⟩⟩
      · rw [if_neg q3, n1, bd_some, bd_some] at em
        simp (disch := omega) only [iI_ltD] at em
        by_cases q4 : tLk T k 4 - spn k < tSp T x 1
        · have bu : x_X1_buysIt (iI k) (iI x) (sI σ 21 v) = some (0, sI σ 21 v) := by
            unfold x_X1_buysIt
            rw [b1, bd_some, b2, bd_some, b4, bd_some, b3, bd_some, iI_sub]
            simp (disch := omega) only [iI_ltD, iI_leD]
            rw [if_neg q3, if_neg (by omega)]
          rw [if_pos q4, qa1, qa1] at em
          rw [bu, bd2_some, if_pos rfl, put, bd_some, qa1] at ec
          obtain ⟨w1, w2, w3⟩ := keep _ _ rfl rfl hb23
          exact ⟨hh + 1, b + 1, n + 1, _, _, s, ec, em, w1, by omega, w2, w3, Or.inl ⟨rfl, rfl⟩⟩
        · rw [if_neg q4, iI_sub] at em
          -- he buys it
          have hC2 : TdC 0 (sI σ 21 v) T := hC1
          have hSC1 : SkC (sI σ 21 v) 4 s := hSC.eq (fun _ _ _ => rfl)
          have hSM1 : SkM (sI τ 16 v) (tS T) s := hSM.eq (fun _ _ => rfl)
          have hbl1 : gI (sI τ 16 v) 19 = 0 := (gI_sIn _ (by omega) _).trans hbl
          have hsd1 : gI (sI σ 21 v) 21 = gI (sI τ 16 v) 16 := by rw [gI_sI, gI_sI]
          have hhl1 : ∀ q, q < b → ∃ y, y < tS T ∧ gA (sI σ 21 v) 42 q = iI (y : Nat) ∧ gA (sI τ 16 v) 27 q = iI (y : Nat) ∧ skW s y ≠ -1 ∧ ∃ p, p < i ∧ skL s p = y := hhl
          have fc0 : FrC σ (sI σ 21 v) := FrC.sI (by omega)
          have fm0 : FrM τ (sI τ 16 v) := FrM.sI (by omega)
          clear d1 d2 keep sto put base
          generalize sI σ 21 v = σ1 at *
          generalize sI τ 16 v = τ1 at *
          obtain ⟨k1, k2⟩ := c_sell (t := 4) (by omega) hSC1 (k := x) (by omega)
          have k1 : x_X5_sell 4 (iI x) σ1 = some (sA σ1 31 (upd (gA σ1 31) x (-1))) := k1
          have k2 : SkC (sA σ1 31 (upd (gA σ1 31) x (-1))) 4 (takeSk s x) := k2
          have bu : x_X1_buysIt (iI k) (iI x) σ1 = some (1, sA (sA (sA σ1 31 (upd (gA σ1 31) x (-1))) 36 (upd (gA σ1 36) k (gA σ1 36 k + 1))) 37 (upd (gA σ1 37) k (gA σ1 37 k + iI (tSp T x 1)))) := by
            unfold x_X1_buysIt
            rw [b1, bd_some, b2, bd_some, b4, bd_some, b3, bd_some, iI_sub]
            simp (disch := omega) only [iI_ltD, iI_leD]
            rw [if_neg q3, if_pos (by omega), k1, bd_some, f_add, bd_some, f_add, bd_some, gA_sAn _ (show 36 ≠ 31 by omega), gA_sAn _ (show 37 ≠ 36 by omega), gA_sAn _ (show 37 ≠ 31 by omega), atF_in (show k < lenN 36 from (show k < 6 by omega)) (by decide), putF_in (show k < lenN 36 from (show k < 6 by omega)) (by decide), atF_in (show k < lenN 37 from (show k < 6 by omega)) (by decide), putF_in (show k < lenN 37 from (show k < 6 by omega)) (by decide)]
          rw [bu, bd2_some, if_neg (show ¬ (1 : Int32) = 0 by decide)] at ec
          rw [stI_in (show k < lenM 21 from (show k < 6 by omega)) (by decide), bd_some, gA_sAn _ (show 23 ≠ 21 by omega), ldI_in (show k < lenM 23 from (show k < 6 by omega)) (by decide), bd_some, stI_in (show k < lenM 23 from (show k < 6 by omega)) (by decide), bd_some, gA_sAn _ (show 23 ≠ 21 by omega), gA_sAn _ (show 22 ≠ 23 by omega), gA_sAn _ (show 22 ≠ 21 by omega), ldI_in (show k < lenM 22 from (show k < 6 by omega)) (by decide), bd_some, stI_in (show k < lenM 22 from (show k < 6 by omega)) (by decide), bd_some, gA_sAn _ (show 22 ≠ 23 by omega), gA_sAn _ (show 22 ≠ 21 by omega), bd_some, gI_sA, gI_sA, gI_sA] at em
          have hSM2 : SkM (sI (sA (sA (sA τ1 21 (upd (gA τ1 21) k (iI (tLk T k 4 - spn k - tSp T x 1)))) 23 (upd (gA τ1 23) k (gA τ1 23 k + iI (tSp T x 1)))) 22 (upd (gA τ1 22) k (gA τ1 22 k + 1))) 17 (gI τ1 17 + 1)) (tS T) s := hSM1.eq (fun j hj => (gA_sAn _ (by omega) _).trans ((gA_sAn _ (by omega) _).trans (gA_sAn _ (by omega) _)))
          obtain ⟨τ6, g1, g2, g3⟩ := m_take hSM2 hs hC8 hS24 hx (by rw [hw]; omega)
          rw [g1, bd_some, show (n : Int) + 1 + -1 = (n : Int) from by omega] at em
          have fc1 : FrC σ1 (sA (sA (sA σ1 31 (upd (gA σ1 31) x (-1))) 36 (upd (gA σ1 36) k (gA σ1 36 k + 1))) 37 (upd (gA σ1 37) k (gA σ1 37 k + iI (tSp T x 1)))) := ((FrC.sA (by omega)).trans (FrC.sA (by omega))).trans (FrC.sA (by omega))
          have fm1 : FrM τ1 (sI (sA (sA (sA τ1 21 (upd (gA τ1 21) k (iI (tLk T k 4 - spn k - tSp T x 1)))) 23 (upd (gA τ1 23) k (gA τ1 23 k + iI (tSp T x 1)))) 22 (upd (gA τ1 22) k (gA τ1 22 k + 1))) 17 (gI τ1 17 + 1)) := (((FrM.sA (by omega)).trans (FrM.sA (by omega))).trans (FrM.sA (by omega))).trans (FrM.sI (by omega))
          have a21 : gA τ6 21 = upd (gA τ1 21) k (iI (tLk T k 4 - spn k - tSp T x 1)) := by
            rw [g2.2.1 21 (by omega), gA_sI, gA_sAn _ (by omega), gA_sAn _ (by omega), gA_sA]
          have a23 : gA τ6 23 = upd (gA τ1 23) k (gA τ1 23 k + iI (tSp T x 1)) := by
            rw [g2.2.1 23 (by omega), gA_sI, gA_sAn _ (by omega), gA_sA]
          have a22 : gA τ6 22 = upd (gA τ1 22) k (gA τ1 22 k + 1) := by
            rw [g2.2.1 22 (by omega), gA_sI, gA_sA]
          have a17 : gI τ6 17 = gI τ1 17 + 1 := by rw [g2.1, gI_sI]
          have a16 : gI τ6 16 = gI τ1 16 := by rw [g2.1, gI_sIn _ (by omega)]; rfl
          have a19 : gI τ6 19 = gI τ1 19 := by rw [g2.1, gI_sIn _ (by omega)]; rfl
          have a27 : gA τ6 27 = gA τ1 27 := by
            rw [g2.2.1 27 (by omega), gA_sI, gA_sAn _ (by omega), gA_sAn _ (by omega), gA_sAn _ (by omega)]
          refine ⟨hh + 1, b, n, _, _, takeSk s x, ec, em, ⟨hC1.fr fc1, (hM1.fr fm1).fr g2.fr, hs.take hx, ?_, g3, ?_, ⟨updZ spn k (spn k + tSp T x 1), fun q hq => ?_, fun q h1 h2 => ?_, ?_⟩, hb24, a19.trans hbl1, fun q hq => ?_⟩, by omega, fc0.trans fc1, (fm0.trans fm1).trans g2.fr, Or.inr ⟨rfl, rfl⟩⟩
          · exact k2.eq (fun j hj1 hj2 => (gA_sAn _ (by omega) _).trans (gA_sAn _ (by omega) _))
          · rw [a16]; exact hsd1
          · obtain ⟨m1, m2, m3, m4, m5, m6⟩ := hmn1.1 q hq
            rw [gA_sA, gA_sAn _ (by omega), gA_sA, a21, a22, a23]
            unfold upd updZ
            by_cases z : q = k
            · subst z
              rw [if_pos rfl, if_pos rfl, if_pos rfl, if_pos rfl, if_pos rfl, if_pos rfl, m1, m3, m4, iI_add]
              refine ⟨rfl, by congr 1; omega, rfl, rfl, by omega, by omega⟩
            · rw [if_neg z, if_neg z, if_neg z, if_neg z, if_neg z, if_neg z]
              exact ⟨m1, m2, m3, m4, m5, m6⟩
          · obtain ⟨m1, m2⟩ := hmn1.2.1 q h1 h2
            rw [gA_sA, gA_sAn _ (by omega), gA_sA]
            unfold upd
            rw [if_neg (by omega), if_neg (by omega)]
            exact ⟨m1, m2⟩
          · rw [a17, gA_sAn _ (by omega), gA_sA, sumF_upd _ _ _ 6 (by omega), hmn1.2.2]
          · obtain ⟨y, y1, y2, y3, y4, p, p1, p2⟩ := hhl1 q hq
            rw [gA_sAn _ (by omega), gA_sAn _ (by omega), gA_sAn _ (by omega), a27]
            refine ⟨y, y1, y2, y3, ?_, p, by omega, p2⟩
            show updZ (skW s) x (-1) y ≠ -1
            unfold updZ
            have hne : y ≠ x := by
              intro e
              have := hs.2.2.1.2.1 p i (by omega) hi (by rw [p2, hli, e])
              omega
            rw [if_neg hne]; exact y4
