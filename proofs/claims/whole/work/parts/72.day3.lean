/-! a day: one goes through the whole row -/
theorem rowP_take_at {nC nS : Nat} {s : Sk} (h : SkOk nC nS s) {i : Nat} (hi : i < 24) (c : Nat) : rowP (takeSk s (skL s i)) c (i + 1) = rowP s c i := by
  rw [rowP_succ]
  have e1 : skW (takeSk s (skL s i)) (skL (takeSk s (skL s i)) i) = -1 := by
    show updZ (skW s) (skL s i) (-1) (skL s i) = -1
    unfold updZ; rw [if_pos rfl]
  rw [e1, if_neg (by omega), List.append_nil]
  unfold rowP
  refine List.filter_congr (fun a ha => ?_)
  obtain ⟨p, hp, rfl⟩ := List.mem_map.mp ha
  have hp := List.mem_range.mp hp
  show decide (updZ (skW s) (skL s i) (-1) (skL s p) = (c : Int)) = _
  unfold updZ
  rw [if_neg (fun e => by
    have := h.2.2.1.2.1 p i (by omega) hi e
    omega)]
  rfl
theorem rowP_at {s : Sk} {i c : Nat} (hi : i < 24) (hw : skW s (skL s i) = (c : Int)) : (rowL s c)[(rowP s c i).length]? = some (skL s i) ∧ (rowP s c i).length < (rowL s c).length := by
  obtain ⟨tl, e⟩ := rowP_pre s c (23 - i) (i + 1) (by omega)
  rw [rowP_succ, if_pos hw] at e
  have e2 : rowL s c = rowP s c i ++ (skL s i :: tl) := by rw [e, List.append_assoc]; rfl
  constructor
  · rw [e2, List.getElem?_append_right (Nat.le_refl _), Nat.sub_self]; rfl
  · rw [e2, List.length_append, List.length_cons]; omega
theorem m_rowAt {τ : St} {nS : Nat} {s : Sk} (h : SkM τ nS s) {c n x : Nat} (hc : c < 8) (e : (rowL s c)[n]? = some x) : gA τ 17 (24 * c + n) = iI (x : Nat) := h.1.2 c n x hc e
theorem both_pass1 {σ τ : St} {T : Td} {s : Sk} {k c : Nat} {p3 : Int32} (hT : TdOk T) (hk : k < tL T) (hc : c < tC T) (h : SeeR σ τ T s 0 0) :
    ∃ (hh : Int32) (b n : Nat) (σ2 τ2 : St) (s2 : Sk), lp (fun v : (Int32 × Int32 × Int32 × St) => x_X1_goThrough_L8 (iI k) (iI c) v.1 v.2.1 v.2.2.1 v.2.2.2) FU (0, 0, 0, σ) = some (hh, iI (b : Nat), 24, σ2) ∧ lp (fun v : (Int32 × Int32 × Int32 × Int32 × St) => x_X10_comes_L27 (iI k) (iI c) p3 (iI (rowL s c).length) v.1 v.2.1 v.2.2.1 v.2.2.2.1 v.2.2.2.2) FU (0, 0, 0, 0, τ) = some (hh, iI (b : Nat), iI (n : Nat), iI ((rowL s c).length : Nat), τ2) ∧ SeeR σ2 τ2 T s2 24 b ∧ FrC σ σ2 ∧ FrM τ τ2 := by
  have hC8 := hT.1
  have hS24 := hT.2.1
  have hsz := rowL_len s c
  let G : Nat → (Int32 × Int32 × Int32 × St) → Prop := fun i v => ∃ (hh : Int32) (b n : Nat) (σi τi : St) (si : Sk), v = (hh, iI (b : Nat), iI (i : Nat), σi) ∧ lp (fun v : (Int32 × Int32 × Int32 × Int32 × St) => x_X10_comes_L27 (iI k) (iI c) p3 (iI (rowL s c).length) v.1 v.2.1 v.2.2.1 v.2.2.2.1 v.2.2.2.2) FU (0, 0, 0, 0, τ) = lp (fun v : (Int32 × Int32 × Int32 × Int32 × St) => x_X10_comes_L27 (iI k) (iI c) p3 (iI (rowL s c).length) v.1 v.2.1 v.2.2.1 v.2.2.2.1 v.2.2.2.2) (FU - (rowP s c i).length) (hh, iI (b : Nat), iI (n : Nat), iI ((rowP s c i).length : Nat), τi) ∧ SeeR σi τi T si i b ∧ b ≤ i ∧ n = (rowP si c i).length ∧ skL si = skL s ∧ (∀ p, i ≤ p → p < 24 → skW si (skL s p) = skW s (skL s p)) ∧ FrC σ σi ∧ FrM τ τi
  let K : (Int32 × Int32 × Int32 × St) → Prop := fun w => ∃ (hh : Int32) (b n : Nat) (σ2 τ2 : St) (s2 : Sk), w = (hh, iI (b : Nat), 24, σ2) ∧ lp (fun v : (Int32 × Int32 × Int32 × Int32 × St) => x_X10_comes_L27 (iI k) (iI c) p3 (iI (rowL s c).length) v.1 v.2.1 v.2.2.1 v.2.2.2.1 v.2.2.2.2) FU (0, 0, 0, 0, τ) = some (hh, iI (b : Nat), iI (n : Nat), iI ((rowL s c).length : Nat), τ2) ∧ SeeR σ2 τ2 T s2 24 b ∧ FrC σ σ2 ∧ FrM τ τ2
  have key := lp_inv (f := fun v : (Int32 × Int32 × Int32 × St) => x_X1_goThrough_L8 (iI k) (iI c) v.1 v.2.1 v.2.2.1 v.2.2.2) G K 24 FU (by unfold FU; omega) (fun i v hi hg => ?_) (fun v hg => ?_) (0, 0, 0, σ) ⟨0, 0, 0, σ, τ, s, rfl, rfl, h, Nat.le_refl _, rfl, rfl, fun _ _ _ => rfl, FrC.rfl, FrM.rfl⟩
  · obtain ⟨w, e, hh, b, n, σ2, τ2, s2, rfl, r⟩ := key
    exact ⟨hh, b, n, σ2, τ2, s2, e, r⟩
  · obtain ⟨hh, b, n, σi, τi, si, rfl, hlp, hsee, hbi, hn, hL, hW, fc, fm⟩ := hg
    obtain ⟨hCi, hMi, hsi, hSCi, hSMi, hrest⟩ := hsee
    have hLi : skL si i = skL s i := by rw [hL]
    have hx24 := hsi.2.2.1.1 i hi
    by_cases q : skW s (skL s i) = (c : Int)
    · have qi : skW si (skL si i) = (c : Int) := by rw [hLi, hW i (Nat.le_refl _) hi, q]
      obtain ⟨a1, a2⟩ := rowP_at hi qi
      obtain ⟨b1, b2⟩ := rowP_at hi q
      have hxS : skL si i < tS T := by
        by_cases z : skL si i < tS T
        · exact z
        · have := hsi.2.1 (skL si i) (by omega) hx24
          omega
      have hlen := rowL_len si c
      rw [← hn] at a1 a2
      obtain ⟨hh2, b3, n2, σ2, τ2, s2, e1, e2, e3, e4, e5, e6, e7⟩ := both_one (x := skL si i) (p3 := p3) (hh := hh) (j := (rowP s c i).length) (size := (rowL s c).length) (v1 := 0) hT hk hc hxS hi rfl qi ⟨hCi, hMi, hsi, hSCi, hSMi, hrest⟩ (n := n) (by omega) (m_rowAt hSMi (by omega) a1) b2 hsz hbi
      refine ⟨_, e1, hh2, b3, n2, σ2, τ2, s2, rfl, ?_, e3, e4, ?_, ?_, fun p hp1 hp2 => ?_, fc.trans e5, fm.trans e6⟩
      · have hF : FU - (rowP s c i).length = (FU - ((rowP s c i).length + 1)) + 1 := by
          have : FU = 5000 := rfl
          omega
        rw [hlp, hF, lp_t (w := (hh2, iI (b3 : Nat), iI (n2 : Nat), iI (((rowP s c i).length + 1 : Nat) : Int), τ2)) e2, rowP_succ, if_pos q, List.length_append]
        rfl
      · rcases e7 with ⟨rfl, rfl⟩ | ⟨rfl, rfl⟩
        · rw [rowP_succ, if_pos qi, List.length_append, ← hn]; rfl
        · rw [rowP_take_at hsi hi]; exact hn
      · rcases e7 with ⟨rfl, rfl⟩ | ⟨rfl, rfl⟩
        · exact hL
        · exact hL
      · rcases e7 with ⟨rfl, rfl⟩ | ⟨rfl, rfl⟩
        · exact hW p (by omega) hp2
        · rw [← hW p (by omega) hp2]
          show updZ (skW si) (skL si i) (-1) (skL s p) = _
          unfold updZ
          rw [if_neg (fun e => by
            rw [← hL] at e
            have := hsi.2.2.1.2.1 p i hp2 hi e
            omega)]
    · have qi : ¬ skW si (skL si i) = (c : Int) := by rw [hLi, hW i (Nat.le_refl _) hi]; exact q
      have ec : x_X1_goThrough_L8 (iI k) (iI c) hh (iI b) (iI i) σi = some (true, (hh, iI b, iI ((i + 1 : Nat) : Int), σi)) := by
        unfold x_X1_goThrough_L8
        simp (disch := omega) only [qM24]
        have hw8 := hsi.wb hC8 hx24
        rw [if_neg (by omega), show x_X2_at 32 (iI (i : Int)) σi = _ from c_line (t := 4) (by omega) hSCi hi, bd_some, show x_X2_at 31 (iI ((skL si i : Nat) : Int)) σi = _ from c_where (t := 4) (by omega) hSCi hx24, bd_some, if_neg (fun e => qi ((iI_inj ⟨by omega, by omega⟩ ⟨by omega, by omega⟩).mp e)), qa1]
        rfl
      refine ⟨_, ec, hh, b, n, σi, τi, si, rfl, ?_, ?_, by omega, ?_, hL, fun p hp1 hp2 => hW p (by omega) hp2, fc, fm⟩
      · rw [hlp, rowP_succ, if_neg q, List.append_nil]
      · obtain ⟨r1, r2, r3, r4, r5⟩ := hrest
        refine ⟨hCi, hMi, hsi, hSCi, hSMi, r1, r2, r3, r4, fun p hp => ?_⟩
        obtain ⟨y, y1, y2, y3, y4, u, u1, u2⟩ := r5 p hp
        exact ⟨y, y1, y2, y3, y4, u, by omega, u2⟩
      · rw [rowP_succ, if_neg qi, List.append_nil]; exact hn
  · obtain ⟨hh, b, n, σi, τi, si, rfl, hlp, hsee, hbi, hn, hL, hW, fc, fm⟩ := hg
    refine ⟨(hh, iI b, 24, σi), ?_, hh, b, n, σi, τi, si, rfl, ?_, hsee, fc, fm⟩
    · show x_X1_goThrough_L8 _ _ _ _ (iI ((24 : Nat) : Int)) _ = _
      unfold x_X1_goThrough_L8
      rw [if_pos (by decide)]
      rfl
    · rw [hlp, rowP_24]
      have hF : FU - (rowL s c).length = (FU - ((rowL s c).length + 1)) + 1 := by
        have : FU = 5000 := rfl
        omega
      rw [hF, lp_f (w := (hh, iI (b : Nat), iI (n : Nat), iI ((rowL s c).length : Nat), τi))]
      show x_X10_comes_L27 _ _ _ _ _ _ _ _ _ = _
      unfold x_X10_comes_L27
      rw [if_pos (show iI ((rowL s c).length : Int) ≤ iI ((rowL s c).length : Int) from Int32.le_refl _)]
theorem SeeR.draw {σ τ : St} {T : Td} {s : Sk} {i b : Nat} (h : SeeR σ τ T s i b) (v : Int32) : SeeR (sI σ 21 v) (sI τ 16 v) T s i b := by
  obtain ⟨hC, hM, hs, hSC, hSM, hsd, ⟨spn, hmn⟩, hb24, hbl, hhl⟩ := h
  exact ⟨hC.fr (FrC.sI (by omega)), hM.fr (FrM.sI (by omega)), hs, hSC.eq (fun _ _ _ => rfl), hSM.eq (fun _ _ => rfl), by rw [gI_sI, gI_sI], ⟨spn, hmn.seed v v⟩, hb24, (gI_sIn _ (by omega) _).trans hbl, hhl⟩
theorem both_pass2 {σ τ : St} {T : Td} {s : Sk} {c b : Nat} {z p1 p3 p4 p5 : Int32} (hT : TdOk T) (hc : c < tC T) (h : SeeR σ τ T s 24 b) :
    ∃ (σ2 τ2 : St) (s2 : Sk), lp (fun v : (Int32 × St) => x_X1_goThrough_L91 (iI c) z (iI b) v.1 v.2) FU (0, σ) = some (iI b, σ2) ∧ lp (fun v : (Int32 × St) => x_X10_comes_L229 p1 (iI c) p3 p4 p5 (iI b) v.1 v.2) FU (0, τ) = some (iI b, τ2) ∧ SeeR σ2 τ2 T s2 24 b ∧ FrC σ σ2 ∧ FrM τ τ2 := by
  have hC8 := hT.1
  have hS24 := hT.2.1
  have hb := h.2.2.2.2.2.2.2.1
  have key := lp2_inv (f := fun v : (Int32 × St) => x_X1_goThrough_L91 (iI c) z (iI b) v.1 v.2) (g := fun v : (Int32 × St) => x_X10_comes_L229 p1 (iI c) p3 p4 p5 (iI b) v.1 v.2)
    (fun i v x => ∃ σi τi si, v = (iI (i : Nat), σi) ∧ x = (iI (i : Nat), τi) ∧ SeeR σi τi T si 24 b ∧ FrC σ σi ∧ FrM τ τi)
    (fun v x => ∃ σi τi si, v = (iI (b : Nat), σi) ∧ x = (iI (b : Nat), τi) ∧ SeeR σi τi T si 24 b ∧ FrC σ σi ∧ FrM τ τi) b FU FU (by unfold FU; omega) (by unfold FU; omega) (fun i v x hi hg => ?_) (fun v x hg => ?_) (0, σ) (0, τ) ⟨σ, τ, s, rfl, rfl, h, FrC.rfl, FrM.rfl⟩
  · obtain ⟨v2, x2, e1, e2, σi, τi, si, rfl, rfl, r⟩ := key
    exact ⟨σi, τi, si, e1, e2, r⟩
  · obtain ⟨σi, τi, si, rfl, rfl, hsee, fc, fm⟩ := hg
    obtain ⟨x, x1, x2, x3, x4, p, pp1, pp2⟩ := hsee.2.2.2.2.2.2.2.2.2 i hi
    obtain ⟨c2, v, hc2, d1, d2⟩ := both_put hT hsee.1 hsee.2.1 hsee.2.2.2.2.2.1 x1 hc
    have hs1 := hsee.draw v
    have fc1 : FrC σ (sI σi 21 v) := fc.trans (FrC.sI (by omega))
    have fm1 : FrM τ (sI τi 16 v) := fm.trans (FrM.sI (by omega))
    have a1 : x_X2_at 42 (iI (i : Int)) σi = some (iI (x : Nat)) := by
      rw [f_at, atF_in (show i < lenN 42 from (show i < 24 by omega)) (by decide), x2]
    have a2 : ldI (gA τi 27) (lenM 27) (iI (i : Int)) = some (iI (x : Nat)) := by
      rw [ldI_in (show i < lenM 27 from (show i < 24 by omega)) (by decide), x3]
    have a3 : ldI (gA (sI τi 16 v) 27) (lenM 27) (iI (i : Int)) = some (iI (x : Nat)) := a2
    have ec : x_X1_goThrough_L91 (iI c) z (iI b) (iI (i : Int)) σi = x_X1_goThrough_L91 (iI c) z (iI b) (iI (i : Int)) σi := rfl
    have em : x_X10_comes_L229 p1 (iI c) p3 p4 p5 (iI b) (iI (i : Int)) τi = x_X10_comes_L229 p1 (iI c) p3 p4 p5 (iI b) (iI (i : Int)) τi := rfl
    conv at ec => rhs; unfold x_X1_goThrough_L91
    conv at em => rhs; unfold x_X10_comes_L229
    simp (disch := omega) only [iI_leD] at ec em
    rw [if_neg (by omega), a1, bd_some, d1, bd2_some] at ec
    rw [if_neg (by omega), a2, bd_some, d2, bd2_some, a3, bd_some] at em
    have x2 : gA (sI σi 21 v) 42 i = iI (x : Nat) := x2
    have x3 : gA (sI τi 16 v) 27 i = iI (x : Nat) := x3
    clear d1 d2 a1 a2 a3 hsee fc fm
    generalize sI σi 21 v = σ1 at *
    generalize sI τi 16 v = τ1 at *
    obtain ⟨hC, hM, hs, hSC, hSM, hsd, ⟨spn, hmn⟩, hb24, hbl, hhl⟩ := hs1
    obtain ⟨p, F, G, hp, hpk, k1, k2⟩ := c_putBehind (t := 4) (by omega) hSC hs (k := x) (by omega) c2
    have k1 : x_X5_putBehind 4 (iI x) (iI c2) σ1 = some (sA (sA σ1 32 F) 31 G) := k1
    have k2 : SkC (sA (sA σ1 32 F) 31 G) 4 (putSk si p x c2) := k2
    obtain ⟨τ2, τ3, g1, g2, g3, g4, g5⟩ := m_move hSM hs hC8 hS24 x1 x4 hp hpk (c := c2) (by omega)
    have a4 : ldI (gA τ2 27) (lenM 27) (iI (i : Int)) = some (iI (x : Nat)) := by
      rw [g3.2.1 27 (by omega), ldI_in (show i < lenM 27 from (show i < 24 by omega)) (by decide), x3]
    rw [k1, bd_some, qa1] at ec
    rw [g1, bd_some, a4, bd_some, g2, bd_some, qa1] at em
    have hsk : SkOk (tC T) (tS T) (putSk si p x c2) := by
      have := hs.put hp hc2 (show skL si p < tS T by rw [hpk]; exact x1)
      rw [hpk] at this; exact this
    have fc2 : FrC σ1 (sA (sA σ1 32 F) 31 G) := (FrC.sA (by omega)).trans (FrC.sA (by omega))
    refine ⟨_, _, ec, em, _, _, putSk si p x c2, rfl, rfl, ⟨hC.fr fc2, hM.fr g4.fr, hsk, k2, g5, ?_, ⟨spn, ?_, ?_, ?_⟩, hb24, ?_, fun q hq => ?_⟩, fc1.trans fc2, fm1.trans g4.fr⟩
    · rw [g4.1]; exact hsd
    · intro q hq
      rw [gA_sAn _ (by omega), gA_sAn _ (by omega), gA_sAn _ (by omega), gA_sAn _ (by omega), g4.2.1 21 (by omega), g4.2.1 22 (by omega), g4.2.1 23 (by omega)]
      exact hmn.1 q hq
    · intro q h1 h2
      rw [gA_sAn _ (by omega), gA_sAn _ (by omega), gA_sAn _ (by omega), gA_sAn _ (by omega)]
      exact hmn.2.1 q h1 h2
    · rw [g4.1, gA_sAn _ (by omega), gA_sAn _ (by omega)]; exact hmn.2.2
    · rw [g4.1]; exact hbl
    · obtain ⟨y, y1, y2, y3, y4, u, u1, u2⟩ := hhl q hq
      rw [gA_sAn _ (by omega), gA_sAn _ (by omega), g4.2.1 27 (by omega)]
      obtain ⟨u', w1, w2⟩ := hsk.2.2.1.2.2 y (by omega)
      refine ⟨y, y1, y2, y3, ?_, u', w1, w2⟩
      show updZ (skW si) x c2 y ≠ -1
      unfold updZ
      by_cases z : y = x
      · rw [if_pos z]; omega
      · rw [if_neg z]; exact y4
  · obtain ⟨σi, τi, si, rfl, rfl, hsee, fc, fm⟩ := hg
    refine ⟨(iI b, σi), (iI b, τi), ?_, ?_, σi, τi, si, rfl, rfl, hsee, fc, fm⟩
    · show x_X1_goThrough_L91 _ _ _ _ _ = _
      unfold x_X1_goThrough_L91
      rw [if_pos (Int32.le_refl _)]
    · show x_X10_comes_L229 _ _ _ _ _ _ _ _ = _
      unfold x_X10_comes_L229
      rw [if_pos (Int32.le_refl _)]
