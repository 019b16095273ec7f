/-! the law's world: the class's, the law's own row, the reference's; either first -/
theorem va_P_comm {D : va_G} {cl : List vw_C} {V W9 : va_W} {H : Heap} (h : va_P D cl (V ++ W9) H) : va_P D cl (W9 ++ V) H := by
  intro k q hq
  have hm : q ∈ V ++ W9 := by
    rcases List.mem_append.mp (List.mem_of_getElem? hq) with h | h
    · exact List.mem_append_right _ h
    · exact List.mem_append_left _ h
  obtain ⟨j, hj⟩ := List.getElem?_of_mem hm
  exact h j q hj
theorem va_D_comm {A : Nat → Prop} {V W9 : va_W} (h : va_D A (V ++ W9)) : va_D A (W9 ++ V) := by
  have key : ∀ (i : Nat) (p : Nat × va_E), (W9 ++ V)[i]? = some p → (V ++ W9)[if i < W9.length then V.length + i else i - W9.length]? = some p := by
    intro i p hp
    by_cases hi : i < W9.length
    · rw [if_pos hi]
      rw [List.getElem?_append_left hi] at hp
      rw [List.getElem?_append_right (by omega), Nat.add_sub_cancel_left]
      exact hp
    · rw [if_neg hi]
      rw [List.getElem?_append_right (by omega)] at hp
      have hl := (List.getElem?_eq_some_iff.mp hp).1
      rw [List.getElem?_append_left hl]
      exact hp
  refine ⟨fun i j p q hp hq e => ?_, fun k q hq => h.2 _ q (key k q hq)⟩
  have h1 := h.1 _ _ p q (key i p hp) (key j q hq) e
  have li := (List.getElem?_eq_some_iff.mp hp).1
  have lj := (List.getElem?_eq_some_iff.mp hq).1
  rw [List.length_append] at li lj
  by_cases hi : i < W9.length <;> by_cases hj : j < W9.length <;> simp only [hi, hj, if_true, if_false] at h1 <;> omega
theorem AtW.comm {E : EV} {V W9 : va_W} {A : Nat → Prop} {s : State} {H : Heap} {locs : List Loc} (h : AtW E (V ++ W9) A s H locs) : AtW E (W9 ++ V) A s H locs := ⟨h.1, h.2.1, va_D_comm h.2.2.1, va_P_comm h.2.2.2.1, h.2.2.2.2.1, h.2.2.2.2.2⟩
