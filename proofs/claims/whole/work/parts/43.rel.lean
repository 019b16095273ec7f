/-! the abstract shop as told; what the class's and the reference's cells have of it -/
abbrev Td : Type := (Nat × Nat × Nat × Int) × (Nat → Int) × (Nat → Nat → Int) × (Nat → Nat → Int) × (Nat → Int) × (Nat → Int)
def tC (T : Td) : Nat := T.1.1
def tS (T : Td) : Nat := T.1.2.1
def tL (T : Td) : Nat := T.1.2.2.1
def tH (T : Td) : Int := T.1.2.2.2
def tLe (T : Td) : Nat → Int := T.2.1
def tSp (T : Td) : Nat → Nat → Int := T.2.2.1
def tLk (T : Td) : Nat → Nat → Int := T.2.2.2.1
def tMi (T : Td) : Nat → Int := T.2.2.2.2.1
def tWt (T : Td) : Nat → Int := T.2.2.2.2.2
def ownN (le : Nat → Int) (x : Int) : Nat → Nat
  | 0 => 0
  | c + 1 => if le c ≤ x then c else ownN le x c
def tOwn (T : Td) (k : Nat) : Nat := ownN (tLe T) (tSp T k 0) (tC T)
theorem ownN_lt (le : Nat → Int) (x : Int) {n : Nat} (h : 0 < n) : ownN le x n < n := by
  induction n with
  | zero => omega
  | succ n ih =>
    unfold ownN
    split
    · omega
    · by_cases e : n = 0
      · subst e; exact Nat.zero_lt_one
      · have := ih (by omega); omega
def TdOk (T : Td) : Prop :=
  tC T ≤ 8 ∧ tS T ≤ 24 ∧ tL T ≤ 6 ∧ (0 ≤ tH T ∧ tH T ≤ 30) ∧ (tC T = 0 → tS T = 0 ∧ tL T = 0) ∧ (∀ c, c < tC T → 0 ≤ tLe T c ∧ tLe T c ≤ 25) ∧ (∀ k, k < tS T → 0 ≤ tSp T k 0 ∧ tSp T k 0 ≤ 25 ∧ 1 ≤ tSp T k 1 ∧ tSp T k 1 ≤ 99 ∧ 0 ≤ tSp T k 2 ∧ tSp T k 2 ≤ 9) ∧
  (∀ k, k < tL T → 0 ≤ tLk T k 0 ∧ tLk T k 0 ≤ 600 ∧ 1 ≤ tLk T k 1 ∧ tLk T k 1 ≤ 8 ∧ 0 ≤ tLk T k 2 ∧ tLk T k 2 ≤ 9 ∧ 0 ≤ tLk T k 3 ∧ tLk T k 3 ≤ 99 ∧ 0 ≤ tLk T k 4 ∧ tLk T k 4 ≤ 999 ∧ 0 ≤ tLk T k 5 ∧ tLk T k 5 ≤ 1) ∧
  (∀ f, 1 ≤ f → f ≤ 8 → 0 ≤ tMi T f ∧ tMi T f ≤ 8) ∧ (∀ i, i < 4 → 0 ≤ tWt T i ∧ tWt T i ≤ 9) ∧ 1 ≤ tWt T 0 + tWt T 1 + tWt T 2 + tWt T 3
def TdC (u : Nat) (σ : St) (T : Td) : Prop :=
  gI σ (4 * u) = iI (tC T) ∧ gI σ (4 * u + 1) = iI (tS T) ∧ gI σ (4 * u + 2) = iI (tL T) ∧ gI σ (4 * u + 3) = iI (tH T) ∧
  (∀ c, c < tC T → gA σ (1 + 7 * u) c = iI (tLe T c)) ∧ (∀ k w, k < tS T → w < 3 → gA σ (1 + 7 * u + 1) (4 * k + w) = iI (tSp T k w)) ∧ (∀ k, k < tS T → gA σ (1 + 7 * u + 1) (4 * k + 3) = iI (tOwn T k)) ∧
  (∀ k w, k < tL T → w < 6 → gA σ (1 + 7 * u + 4) (6 * k + w) = iI (tLk T k w)) ∧ (∀ f, 1 ≤ f → f ≤ 8 → gA σ (1 + 7 * u + 5) f = iI (tMi T f)) ∧ (∀ i, i < 4 → gA σ (1 + 7 * u + 6) i = iI (tWt T i))
def TdM (u : Nat) (τ : St) (T : Td) : Prop :=
  gI τ (8 + 4 * u) = iI (tC T) ∧ gI τ (9 + 4 * u) = iI (tS T) ∧ gI τ (10 + 4 * u) = iI (tL T) ∧ gI τ (11 + 4 * u) = iI (tH T) ∧
  (∀ c, c < tC T → gA τ (2 + 7 * u) c = iI (tLe T c)) ∧ (∀ k w, k < tS T → w < 3 → gA τ (3 + 7 * u) (3 * k + w) = iI (tSp T k w)) ∧
  (∀ k w, k < tL T → w < 6 → gA τ (4 + 7 * u) (6 * k + w) = iI (tLk T k w)) ∧ (∀ f, 1 ≤ f → f ≤ 8 → gA τ (5 + 7 * u) f = iI (tMi T f)) ∧ (∀ i, i < 4 → gA τ (6 + 7 * u) i = iI (tWt T i))
/-- a stock of the class -/
def SkC (σ : St) (t : Nat) (s : Sk) : Prop :=
  (∀ k, k < 24 → gA σ (15 + 4 * t) k = iI (skW s k)) ∧ (∀ k, k < 24 → gA σ (15 + 4 * t + 1) k = iI (skL s k)) ∧ (∀ k, k < 24 → gA σ (15 + 4 * t + 2) k = iI (skD s k)) ∧ (∀ k, k < 8 → gA σ (15 + 4 * t + 3) k = iI (skV s k))
/-- a stock of the reference: rows, how many, where each lies, discs, dividers -/
def RwM (fr fm : Nat → Int32) (R : Nat → List Nat) : Prop := (∀ c, c < 8 → fm c = iI (R c).length) ∧ (∀ c i k : Nat, c < 8 → (R c)[i]? = some k → fr (24 * c + i) = iI k)
def SkMf (fr fm fs fl fd : Nat → Int32) (nS : Nat) (s : Sk) : Prop :=
  RwM fr fm (rowL s) ∧ (∀ k, k < nS → fl k = iI (skW s k)) ∧ (∀ k, k < nS → fd k = iI (skD s k)) ∧ (∀ p, p < 8 → fs p = iI (skV s p))
def SkM (τ : St) (nS : Nat) (s : Sk) : Prop := SkMf (gA τ 17) (gA τ 16) (gA τ 18) (gA τ 7) (gA τ 8) nS s
def ImM (τ : St) (i : Nat) (nS : Nat) (s : Sk) : Prop := SkMf (fun k => gA τ 35 (256 * i + k)) (fun k => gA τ 35 (256 * i + 192 + k)) (fun k => gA τ 35 (256 * i + 200 + k)) (fun k => gA τ 35 (256 * i + 208 + k)) (fun k => gA τ 35 (256 * i + 232 + k)) nS s
/-- what both have alike besides -/
def ShB (σ τ : St) (n : Nat) : Prop := n ≤ 600 ∧ gI σ 8 = iI n ∧ gI τ 1 = iI n ∧ (∀ k, k < n → gA σ 0 k = gA τ 1 k) ∧ gI σ 9 = gI τ 7 ∧ (∀ k, k < 4 → gA σ 35 k = gA τ 0 k)
def ImB (σ τ : St) (nC nS : Nat) (ims : List Sk) : Prop := ims.length ≤ 3 ∧ gI σ 10 = iI ims.length ∧ gI τ 23 = iI ims.length ∧ ∀ i s, ims[i]? = some s → SkOk nC nS s ∧ SkC σ (1 + i) s ∧ ImM τ i nS s
def InvX (T : Td) (s : Sk) (n : Nat) (ims : List Sk) (σ τ : St) : Prop :=
  TdOk T ∧ SkOk (tC T) (tS T) s ∧ TdC 0 σ T ∧ TdM 0 τ T ∧ SkC σ 0 s ∧ SkM τ (tS T) s ∧ ShB σ τ n ∧ ImB σ τ (tC T) (tS T) ims ∧ gI τ 19 = 0
def Inv (σ τ : St) : Prop := ∃ T s n ims, InvX T s n ims σ τ
/-- a call that may refuse: 'cds' are the class's codes with the wrapper's numbers -/
def StT {α : Type} (cds : List (Nat × Int32)) (x : Option ((α × St) ⊕ (Nat × St))) (y : Option (α × St)) : Prop :=
  (∃ r σ2 τ2, x = some (.inl (r, σ2)) ∧ y = some (r, τ2) ∧ gI τ2 0 = 0 ∧ Inv σ2 τ2) ∨ (∃ c σ2 r τ2, x = some (.inr (c, σ2)) ∧ y = some (r, τ2) ∧ (c, gI τ2 0) ∈ cds ∧ Inv σ2 τ2)
def StN {α : Type} (x : Option (α × St)) (y : Option (α × St)) : Prop := ∃ r σ2 τ2, x = some (r, σ2) ∧ y = some (r, τ2) ∧ Inv σ2 τ2
def StR {α : Type} (σ : St) (x : Option α) (y : Option (α × St)) : Prop := ∃ r τ2, x = some r ∧ y = some (r, τ2) ∧ Inv σ τ2
theorem TdC.eq {u : Nat} {σ σ2 : St} {T : Td} (h : TdC u σ T) (h1 : ∀ k, 4 * u ≤ k → k < 4 * u + 4 → gI σ2 k = gI σ k) (h2 : ∀ j, 1 + 7 * u ≤ j → j < 8 + 7 * u → gA σ2 j = gA σ j) : TdC u σ2 T := by
  unfold TdC at h ⊢
  rw [h1 (4 * u) (by omega) (by omega), h1 (4 * u + 1) (by omega) (by omega), h1 (4 * u + 2) (by omega) (by omega), h1 (4 * u + 3) (by omega) (by omega), h2 (1 + 7 * u) (by omega) (by omega), h2 (1 + 7 * u + 1) (by omega) (by omega), h2 (1 + 7 * u + 4) (by omega) (by omega), h2 (1 + 7 * u + 5) (by omega) (by omega), h2 (1 + 7 * u + 6) (by omega) (by omega)]
  exact h
theorem TdM.eq {u : Nat} {τ τ2 : St} {T : Td} (h : TdM u τ T) (h1 : ∀ k, 8 + 4 * u ≤ k → k < 12 + 4 * u → gI τ2 k = gI τ k) (h2 : ∀ j, 2 + 7 * u ≤ j → j < 7 + 7 * u → gA τ2 j = gA τ j) : TdM u τ2 T := by
  unfold TdM at h ⊢
  rw [h1 (8 + 4 * u) (by omega) (by omega), h1 (9 + 4 * u) (by omega) (by omega), h1 (10 + 4 * u) (by omega) (by omega), h1 (11 + 4 * u) (by omega) (by omega), h2 (2 + 7 * u) (by omega) (by omega), h2 (3 + 7 * u) (by omega) (by omega), h2 (4 + 7 * u) (by omega) (by omega), h2 (5 + 7 * u) (by omega) (by omega), h2 (6 + 7 * u) (by omega) (by omega)]
  exact h
theorem SkC.eq {σ σ2 : St} {t : Nat} {s : Sk} (h : SkC σ t s) (h2 : ∀ j, 15 + 4 * t ≤ j → j < 19 + 4 * t → gA σ2 j = gA σ j) : SkC σ2 t s := by
  unfold SkC at h ⊢
  rw [h2 (15 + 4 * t) (by omega) (by omega), h2 (15 + 4 * t + 1) (by omega) (by omega), h2 (15 + 4 * t + 2) (by omega) (by omega), h2 (15 + 4 * t + 3) (by omega) (by omega)]
  exact h
theorem SkM.eq {τ τ2 : St} {nS : Nat} {s : Sk} (h : SkM τ nS s) (h2 : ∀ j, j = 7 ∨ j = 8 ∨ j = 16 ∨ j = 17 ∨ j = 18 → gA τ2 j = gA τ j) : SkM τ2 nS s := by
  unfold SkM at h ⊢
  rw [h2 7 (by omega), h2 8 (by omega), h2 16 (by omega), h2 17 (by omega), h2 18 (by omega)]
  exact h
theorem ImM.eq {τ τ2 : St} {i nS : Nat} {s : Sk} (h : ImM τ i nS s) (h2 : gA τ2 35 = gA τ 35) : ImM τ2 i nS s := by
  unfold ImM at h ⊢
  rw [h2]
  exact h
/-- what the relation looks at -/
def CEq (σ σ2 : St) : Prop := (∀ k, k ≤ 10 → gI σ2 k = gI σ k) ∧ (∀ j, j ≤ 30 → gA σ2 j = gA σ j) ∧ gA σ2 35 = gA σ 35
def MEq (τ τ2 : St) : Prop := (∀ k, k = 1 ∨ (7 ≤ k ∧ k ≤ 11) ∨ k = 19 ∨ k = 23 → gI τ2 k = gI τ k) ∧ (∀ j, j ≤ 8 ∨ (16 ≤ j ∧ j ≤ 18) ∨ j = 35 → gA τ2 j = gA τ j)
theorem CEq.rfl {σ : St} : CEq σ σ := ⟨fun _ _ => Eq.refl _, fun _ _ => Eq.refl _, Eq.refl _⟩
theorem MEq.rfl {σ : St} : MEq σ σ := ⟨fun _ _ => Eq.refl _, fun _ _ => Eq.refl _⟩
theorem CEq.trans {a b c : St} (h : CEq a b) (k : CEq b c) : CEq a c := ⟨fun i hi => (k.1 i hi).trans (h.1 i hi), fun i hi => (k.2.1 i hi).trans (h.2.1 i hi), k.2.2.trans h.2.2⟩
theorem MEq.trans {a b c : St} (h : MEq a b) (k : MEq b c) : MEq a c := ⟨fun i hi => (k.1 i hi).trans (h.1 i hi), fun i hi => (k.2 i hi).trans (h.2 i hi)⟩
theorem CEq.sA {σ : St} {j : Nat} {f : Nat → Int32} (h : 30 < j ∧ j ≠ 35) : CEq σ (sA σ j f) := ⟨fun _ _ => Eq.refl _, fun i hi => gA_sAn σ (by omega) f, gA_sAn σ (by omega) f⟩
theorem CEq.sI {σ : St} {j : Nat} {f : Int32} (h : 10 < j) : CEq σ (sI σ j f) := ⟨fun i hi => gI_sIn σ (by omega) f, fun _ _ => Eq.refl _, Eq.refl _⟩
theorem CEq.sJ {σ : St} {j : Nat} {f : Nat → Int64} : CEq σ (sJ σ j f) := ⟨fun _ _ => Eq.refl _, fun _ _ => Eq.refl _, Eq.refl _⟩
theorem CEq.sL {σ : St} {j : Nat} {f : Int64} : CEq σ (sL σ j f) := ⟨fun _ _ => Eq.refl _, fun _ _ => Eq.refl _, Eq.refl _⟩
theorem MEq.sA {σ : St} {j : Nat} {f : Nat → Int32} (h : ¬ (j ≤ 8 ∨ (16 ≤ j ∧ j ≤ 18) ∨ j = 35)) : MEq σ (sA σ j f) := ⟨fun _ _ => Eq.refl _, fun i hi => gA_sAn σ (by omega) f⟩
theorem MEq.sI {σ : St} {j : Nat} {f : Int32} (h : ¬ (j = 1 ∨ (7 ≤ j ∧ j ≤ 11) ∨ j = 19 ∨ j = 23)) : MEq σ (sI σ j f) := ⟨fun i hi => gI_sIn σ (by omega) f, fun _ _ => Eq.refl _⟩
theorem MEq.sJ {σ : St} {j : Nat} {f : Nat → Int64} : MEq σ (sJ σ j f) := ⟨fun _ _ => Eq.refl _, fun _ _ => Eq.refl _⟩
theorem MEq.sL {σ : St} {j : Nat} {f : Int64} : MEq σ (sL σ j f) := ⟨fun _ _ => Eq.refl _, fun _ _ => Eq.refl _⟩
theorem InvX.eq {T : Td} {s : Sk} {n : Nat} {ims : List Sk} {σ τ σ2 τ2 : St} (h : InvX T s n ims σ τ) (hc : CEq σ σ2) (hm : MEq τ τ2) : InvX T s n ims σ2 τ2 := by
  obtain ⟨h1, h2, h3, h4, h5, h6, h7, h8, h9⟩ := h
  refine ⟨h1, h2, h3.eq (fun k _ hk => hc.1 k (by omega)) (fun j _ hj => hc.2.1 j (by omega)), h4.eq (fun k _ hk => hm.1 k (by omega)) (fun j _ hj => hm.2 j (by omega)), h5.eq (fun j _ hj => hc.2.1 j (by omega)), h6.eq (fun j hj => hm.2 j (by omega)), ?_, ?_, (hm.1 19 (by omega)).trans h9⟩
  · unfold ShB at h7 ⊢
    rw [hc.1 8 (by omega), hm.1 1 (by omega), hc.2.1 0 (by omega), hm.2 1 (by omega), hc.1 9 (by omega), hm.1 7 (by omega), hc.2.2, hm.2 0 (by omega)]
    exact h7
  · unfold ImB at h8 ⊢
    rw [hc.1 10 (by omega), hm.1 23 (by omega)]
    refine ⟨h8.1, h8.2.1, h8.2.2.1, fun i s hi => ?_⟩
    obtain ⟨k1, k2, k3⟩ := h8.2.2.2 i s hi
    have hl : i < ims.length := (List.getElem?_eq_some_iff.mp hi).1
    exact ⟨k1, k2.eq (fun j _ hj => hc.2.1 j (by omega)), k3.eq (hm.2 35 (by omega))⟩
/-- a refusal -/
def refC (σ : St) (k : Nat) : St := sA σ 35 (upd (gA σ 35) k (gA σ 35 k + 1))
def refM (τ : St) (c : Int32) (k : Nat) : St := sA (sI τ 0 c) 0 (upd (gA τ 0) k (gA τ 0 k + 1))
theorem InvX.ref {T : Td} {s : Sk} {n : Nat} {ims : List Sk} {σ τ : St} (h : InvX T s n ims σ τ) {k : Nat} (c : Int32) : InvX T s n ims (refC σ k) (refM τ c k) := by
  obtain ⟨h1, h2, h3, h4, h5, h6, h7, h8, h9⟩ := h
  have e1 : ∀ j, j ≠ 35 → gA (refC σ k) j = gA σ j := fun j hj => gA_sAn _ hj _
  have e2 : ∀ j, gI (refC σ k) j = gI σ j := fun j => gI_sA _ _ _ _
  have e3 : ∀ j, j ≠ 0 → gA (refM τ c k) j = gA τ j := fun j hj => (gA_sAn _ hj _).trans (gA_sI _ _ _ _)
  have e4 : ∀ j, j ≠ 0 → gI (refM τ c k) j = gI τ j := fun j hj => (gI_sA _ _ _ _).trans (gI_sIn _ hj _)
  refine ⟨h1, h2, h3.eq (fun k _ hk => e2 k) (fun j _ hj => e1 j (by omega)), h4.eq (fun k _ hk => e4 k (by omega)) (fun j _ hj => e3 j (by omega)), h5.eq (fun j _ hj => e1 j (by omega)), h6.eq (fun j hj => e3 j (by omega)), ?_, ?_, (e4 19 (by omega)).trans h9⟩
  · unfold ShB at h7 ⊢
    rw [e2 8, e4 1 (by omega), e1 0 (by omega), e3 1 (by omega), e2 9, e4 7 (by omega)]
    refine ⟨h7.1, h7.2.1, h7.2.2.1, h7.2.2.2.1, h7.2.2.2.2.1, fun q hq => ?_⟩
    unfold refC refM
    rw [gA_sA, gA_sA]
    have := h7.2.2.2.2.2 q hq
    unfold upd
    split
    · next e => rw [← e, this]
    · exact this
  · unfold ImB at h8 ⊢
    rw [e2 10, e4 23 (by omega)]
    refine ⟨h8.1, h8.2.1, h8.2.2.1, fun i s hi => ?_⟩
    obtain ⟨k1, k2, k3⟩ := h8.2.2.2 i s hi
    have hl : i < ims.length := (List.getElem?_eq_some_iff.mp hi).1
    exact ⟨k1, k2.eq (fun j _ hj => e1 j (by omega)), k3.eq (e3 35 (by omega))⟩
theorem InvX.z {T : Td} {s : Sk} {n : Nat} {ims : List Sk} {σ τ : St} (h : InvX T s n ims σ τ) : InvX T s n ims σ (sI τ 0 0) := h.eq CEq.rfl (MEq.sI (by omega))
theorem lenM_le (j : Nat) : lenM j ≤ 1000 := by
  by_cases h : j < 36
  · exact (show ∀ k, k < 36 → lenM k ≤ 1000 by decide) j h
  · unfold lenM
    rw [List.getD_eq_getElem?_getD, List.getElem?_eq_none (by simp only [List.length_cons, List.length_nil]; omega)]
    exact Nat.zero_le _
theorem refM_0 (τ : St) (c : Int32) (k : Nat) : gI (refM τ c k) 0 = c := by unfold refM; rw [gI_sA, gI_sI]
theorem m_may1 {τ : St} {c k v : Int32} (h : gI τ 0 = 0) (hv : v ≠ 0) : x_X10_may v c k τ = some (1, τ) := by
  unfold x_X10_may x_X10_may_b26
  rw [if_neg hv, if_pos h]
theorem m_may0 {τ : St} {c : Int32} {k : Nat} (h : gI τ 0 = 0) (hc : c ≠ 0) (hk : k < 4) : x_X10_may 0 c (iI k) τ = some (0, refM τ c k) := by
  unfold x_X10_may x_X10_may_b26
  rw [if_pos rfl, if_pos h, bd_some, gA_sI, ldI_in (show k < lenM 0 from hk) (by decide), bd_some, stI_in (show k < lenM 0 from hk) (by decide), bd_some, gA_sI, gI_sA, gI_sI, if_neg hc]
  rfl
theorem m_within {a b c : Int} (ha : ok32 a) (hb : ok32 b) (hc : ok32 c) : x_X10_within (iI a) (iI b) (iI c) = some (if b ≤ a ∧ a ≤ c then 1 else 0) := by
  obtain ⟨h1, h2⟩ := ha; obtain ⟨h3, h4⟩ := hb; obtain ⟨h5, h6⟩ := hc
  unfold x_X10_within
  simp (disch := omega) only [iI_ltD]
  by_cases c1 : a < b
  · rw [if_pos c1, if_neg (by omega)]
  · rw [if_neg c1]
    by_cases c2 : c < a
    · rw [if_pos c2, if_neg (by omega)]
    · rw [if_neg c2, if_pos (by omega)]
theorem c_add35 {σ : St} {k : Nat} (hk : k < 4) : x_X2_add 35 (iI k) 1 σ = some (refC σ k) := by
  rw [f_add, atF_in (show k < lenN 35 from hk) (by decide), putF_in (show k < lenN 35 from hk) (by decide)]
  rfl
theorem c_need1 {σ : St} {v : Int32} (hv : v ≠ 0) : x_X9_need v σ = some (.inl σ) := by unfold x_X9_need; rw [if_neg hv]
theorem c_need0 {σ : St} : x_X9_need 0 σ = some (.inr (3, refC σ 2)) := by
  unfold x_X9_need; rw [if_pos rfl]
  show bd (x_X2_add 35 (iI ((2 : Nat) : Int)) 1 σ) _ = _
  rw [c_add35 (by omega)]; rfl
theorem bt_inl {α ρ δ : Type} (x : α) (f : α → Option (δ ⊕ ρ)) : bt (some (.inl x)) f = f x := rfl
theorem bt_inr {α ρ δ : Type} (x : ρ) (f : α → Option (δ ⊕ ρ)) : bt (some (.inr x)) f = some (.inr x) := rfl
theorem bt2_inl {α β ρ δ : Type} (x : α) (y : β) (f : α → β → Option (δ ⊕ ρ)) : bt2 (some (.inl (x, y))) f = f x y := rfl
theorem bt2_inr {α β ρ δ : Type} (x : ρ) (f : α → β → Option (δ ⊕ ρ)) : bt2 (some (.inr x)) f = some (.inr x) := rfl
theorem c_hasCrate {u : Nat} {σ : St} {z : Int} {n : Nat} (hz : ok32 z) (hn : gI σ (4 * u) = iI n) (hn2 : n < 1000) : x_X7_hasCrate u (iI z) σ = some (if 0 ≤ z ∧ z < n then 1 else 0) := by
  obtain ⟨h1, h2⟩ := hz
  unfold x_X7_hasCrate
  rw [hn]
  simp (disch := omega) only [i0, iI_ltD, iI_leD]
  by_cases c1 : z < 0
  · rw [if_pos c1, if_neg (by omega)]
  · rw [if_neg c1]
    by_cases c2 : (n : Int) ≤ z
    · rw [if_pos c2, if_neg (by omega)]
    · rw [if_neg c2, if_pos (by omega)]
