/-! the law, from its entry -/
theorem va_D_to {A : Nat → Prop} {V : va_W} (h : va_D A V) : V.Pairwise (fun p q => p.1 ≠ q.1) ∧ ∀ q ∈ V, A q.1 := by
  refine ⟨List.pairwise_iff_getElem.mpr (fun i j hi hj hij e => ?_), fun q hq => ?_⟩
  · have := h.1 i j _ _ (List.getElem?_eq_getElem hi) (List.getElem?_eq_getElem hj) e
    omega
  · obtain ⟨k, hk⟩ := List.getElem?_of_mem hq
    exact h.2 k q hk
theorem va_D_of {A : Nat → Prop} {V : va_W} (h : V.Pairwise (fun p q => p.1 ≠ q.1)) (h2 : ∀ q ∈ V, A q.1) : va_D A V := by
  have hp := List.pairwise_iff_getElem.mp h
  refine ⟨fun i j p q hi hj e => ?_, fun k q hk => h2 q (List.mem_of_getElem? hk)⟩
  obtain ⟨li, ei⟩ := List.getElem?_eq_some_iff.mp hi
  obtain ⟨lj, ej⟩ := List.getElem?_eq_some_iff.mp hj
  rcases Nat.lt_trichotomy i j with c | c | c
  · exact absurd (by rw [ei, ej]; exact e) (hp i j li lj c)
  · exact c
  · exact absurd (by rw [ei, ej]; exact e.symm) (hp j i lj li c)
theorem lw_perm {E : EV} {V V' : va_W} {A : Nat → Prop} {s : State} {H : Heap} {locs : List Loc} (hp : V.Perm V') (h : AtW E V A s H locs) : AtW E V' A s H locs := by
  obtain ⟨h1, h2, h3, h4, h5⟩ := h
  obtain ⟨d1, d2⟩ := va_D_to h3
  refine ⟨h1, h2, va_D_of ((hp.pairwise_iff (fun e => fun q => e q.symm)).mp d1) (fun q hq => d2 q (hp.mem_iff.mpr hq)), fun k q hq => ?_, h5⟩
  obtain ⟨j, hj⟩ := List.getElem?_of_mem (hp.mem_iff.mpr (List.mem_of_getElem? hq))
  exact h4 j q hj
theorem eA_eW {E : EV} {ad : Nat → Nat} {k : Nat} : eA (eW E ad) k = ad k := rfl
theorem eI_eW {E : EV} {ad : Nat → Nat} : eI (eW E ad) = eI E := rfl
theorem eJ_eW {E : EV} {ad : Nat → Nat} : eJ (eW E ad) = eJ E := rfl
theorem eO_eW {E : EV} {ad : Nat → Nat} : eO (eW E ad) = eO E := rfl
set_option maxHeartbeats 4000000 in
set_option maxRecDepth 100000 in
theorem wC_ad {E : EV} {ad ad2 : Nat → Nat} {σ : St} (h : ∀ k, k < 1000 → ad2 k = ad k) : wC (eW E ad2) σ = wC (eW E ad) σ := by
  have hs : (fun i : Nat => if i < 3 then some (eA (eW E ad2) (pS (i + 1))) else none) = (fun i : Nat => if i < 3 then some (eA (eW E ad) (pS (i + 1))) else none) := by
    funext i
    by_cases q : i < 3
    · rw [if_pos q, if_pos q, eA_eW, eA_eW, h]
      have : i = 0 ∨ i = 1 ∨ i = 2 := by omega
      rcases this with rfl | rfl | rfl <;> decide
    · rw [if_neg q, if_neg q]
  unfold wC
  rw [hs]
  simp only [eA_eW, eI_eW, eJ_eW, eO_eW]
  simp (disch := decide) only [h]
set_option maxHeartbeats 4000000 in
set_option maxRecDepth 100000 in
theorem wM_ad {E : EV} {ad ad2 : Nat → Nat} {σ : St} (h : ∀ k, k < 1000 → ad2 k = ad k) : wM (eW E ad2) σ = wM (eW E ad) σ := by
  unfold wM
  simp only [eA_eW, eI_eW, eJ_eW, eO_eW]
  simp (disch := decide) only [h]
def adJ (u ad0 : Nat → Nat) : Nat → Nat := fun k => if k < 1000 then u k else ad0 k
theorem adJ_lt {u ad0 : Nat → Nat} (k : Nat) (h : k < 1000) : adJ u ad0 k = u k := if_pos h
theorem adJ_ge {u ad0 : Nat → Nat} (k : Nat) (h : 1000 ≤ k) : adJ u ad0 k = ad0 k := if_neg (by omega)
section START
variable {p : Program} {l : Launch} {e : Env} {R : Room} {s : State} {m : MethodId} {a : Array Value} {below : List Frame} {meth : Method} {c : Code} {H : Heap} {locs : List Loc} {cells slots : Nat} {Q : State → Prop}
variable {cc : ByteArray} {own : String} {nL pc : Nat} {ls : Array Slot} {rest st : List Value} {E : EV} {V V' : va_W} {A : Nat → Prop}
theorem r_ctorA {y : MethodName} {bytes : ByteArray} {maxL idx n a0 ci : Nat} {fs : List Value} {rm : Room} {As : List Value} {S : Type} {V1 : S → va_W} {W1 : va_W} {mc ms : Nat}
    (hM : CIA l y bytes maxL rm (.ref a0 :: As) E [(a0, .inr (ci, fs))] V1 mc ms)
    (w2 : Cond.instanceMethod y ∈ TBL) (w4 : Cond.initialized y.cls ∈ TBL) (w5 : Cond.code y bytes maxL none ∈ TBL) (hy1 : y.name = "<init>")
    (hd : y.cls ≠ "java/lang/invoke/MethodHandle" ∧ y.cls ≠ "java/lang/invoke/VarHandle" ∧ (parseMethodDescriptor y.desc).map (fun d => d.parameters.length) = some n) (hn : As.length = n) (hrm : rm.cells = mc ∧ rm.slots = ms)
    (cx : CallFix p m c cc nL s a TBL own) (hV : AtW E (W1 ++ [(a0, .inr (ci, fs))]) A s H locs) (hao : va_AO "FlickedCrates$Stock" s) (w1 : Cond.methodLink own idx y ∈ TBL) (hR : rm.frames + 1 ≤ R.frames ∧ 8 + (maxL + 11) + rm.locals ≤ R.locals) (hcs : cells + mc ≤ R.cells ∧ slots + ms ≤ R.slots)
    (hls : ls.size = nL) (hst : st = As.reverse ++ .ref a0 :: rest) (hcat : (rest.map fun v => v.category).sum ≤ 8) (hdg : decode cc pc = .ok (.invokespecial idx, 3))
    (kk : ∀ (u : S) (H1 : Heap) (locs1 : List Loc), AtW E (W1 ++ V1 u) A s H1 locs1 → W p l e R s m a below meth c H1 locs1 (cells + mc) (slots + ms) Q (F0 m (pc + 3) ls rest)) : W p l e R s m a below meth c H locs cells slots Q (F0 m pc ls st) := by
  refine va_callv (va_runI (As := As) (rest := rest) cx (hM H.size) (cwI n cx.2.2.2.2 (tb_gC w5) rfl hrm.1 hrm.2 (cx.2.2.2.2 _ w4) (cx.2.2.2.2 _ w1) (cx.2.2.2.2 _ w2) hy1 hd hR) ⟨PreA.blind, fun U hU hW => ?_⟩ rfl hn hls hst (lv_room hcat) hdg hcs) hV.2.2.2.2.1 (fun q _ h => c_free hV q h) (c_free hV) (fun u t H1 locs1 ht hvm hw hB hz1 hk1 hS => ?_)
  · obtain ⟨h1, h2⟩ := c_pre hV (args := .ref a0 :: As) U hU hW
    exact ⟨h1, h2, va_AO.moved hW.alike hao⟩
  · obtain ⟨hB, hD⟩ := hB
    rw [ht] at hB
    obtain ⟨j1, j2⟩ := va_join_last hV.2.2.2.1 hV.2.2.1 hk1 (c_free hV) hB hD
    exact kk u H1 locs1 ⟨hV.1, hV.2.1, j2, j1, hS, hV.2.2.2.2.2⟩
end START
set_option maxHeartbeats 4000000 in
set_option maxRecDepth 100000 in
theorem whole_start {p : Program} {e : Env} {s : State} {m : MethodId} {below : List Frame} {meth : Method} {c : Code} (l : Launch) (hflags : l.flags = flags0) {b L : Nat} {xs : Nat → Int32} (hL : L ≤ 3072) (C0 : lw_At p s m meth c b L xs) : W p l e room_1 s m #[Value.ref b] below meth c s.heap [] 0 0 (lw_Z below #[Value.ref b] s) (entryFrame m ([Value.ref b] : List Value).toArray 8) := by
  obtain ⟨hx, hb, hr, hml, hown, hts, hX, hbl, hlk, hgv⟩ := id C0
  have hT : l.stackTraces = false := by
    unfold Launch.stackTraces
    rw [hflags]
    decide
  have hgv : NR.before #[Value.ref b] s = true := hgv
  obtain ⟨D, cI, cJ, cO, hK⟩ := lw_K hts
  obtain ⟨ad0, hFZ⟩ := lw_FZ0 hts hgv
  obtain ⟨E0, hE0⟩ : ∃ E0 : EV, E0 = (D, cI, cJ, cO, ad0) := ⟨_, rfl⟩
  have hF0 : FZ E0 (lwA s) s s.heap := by rw [hE0]; exact hFZ D cI cJ cO
  have hK0 : va_K (eD E0) vwCl (eT E0) s := by rw [hE0]; exact hK
  have hN := lw_NC hgv
  have hao := lw_AO hts
  have cx : CallFix p m c cL_law 8 s #[Value.ref b] TBL RL := ⟨hx, hb, hml, hown, fun w h => hts w (tb_lw w h)⟩
  have hV : AtW E0 [] (lwA s) s s.heap [] := ⟨hK0, lw_NW hts, ⟨fun i j p q h => by simp at h, fun k q h => by simp at h⟩, fun k q h => by simp at h, va_S.rf, fun q h => h⟩
  obtain ⟨σf, τf, hc1, hc2, hI⟩ := op_fresh
  have hl := lv_entry ([.ref b]) (n := 8) (Nat.le_of_ble_eq_true rfl)
  rw [lg_entry_eq]
  generalize (lg_sl ([.ref b]) ++ List.replicate (8 - (lg_sl ([.ref b])).length) Slot.unset).toArray = ls at hl ⊢
  have hl : lv_has ls 8 [(0, .ref b)] := hl
  refine r_newo (ci := 9) (N := 14) cx hV iX9 tyX9_ok rfl mk_1_25 mk_1_26 mk_1_1 df_X9 ⟨Nat.le_of_ble_eq_true rfl, Nat.le_of_ble_eq_true rfl⟩ dL_law_0 (fun q1 H hV => ?_)
  have hV : AtW E0 ([] ++ [(q1, .inr (9, [.null, .int 0, .int 0, .null, .null, .null, .int 0, .null, .null, .null, .null, .null, .null, .null]))]) (lwA s) s H [] := hV
  refine W.widen (k := 1) (n := 14) (Nat.le_of_ble_eq_true rfl) (Nat.le_of_ble_eq_true rfl) ?_
  refine lv_dup hx hb dL_law_3 rfl ?_
  refine r_ctorA (n := 0) (As := []) (c_X9_init hc1) mk_1_28 mk_1_1 mk_1_29 rfl (by decide +kernel) rfl ⟨rfl, rfl⟩ cx hV hao mk_1_27 ⟨Nat.le_of_ble_eq_true rfl, Nat.le_of_ble_eq_true rfl⟩ ⟨Nat.le_of_ble_eq_true rfl, Nat.le_of_ble_eq_true rfl⟩ hl.1 rfl (Nat.le_of_ble_eq_true rfl) dL_law_4 (fun u1 H locs hV => ?_)
  obtain ⟨u1, hu1⟩ := u1
  have hV : AtW E0 (wC (eW E0 u1) σf) (lwA s) s H locs := hV
  refine W.widen (k := 115) (n := 3695) (Nat.le_of_ble_eq_true rfl) (Nat.le_of_ble_eq_true rfl) ?_
  refine lv_astore_n (lv' := [(1, .ref q1), (0, .ref b)]) hx hb dL_law_7 rfl hl (by decide) rfl (fun ls hl => ?_)
  refine r_newo (ci := 10) (N := 64) cx hV iX10 tyX10_ok rfl mk_6_79 mk_6_80 mk_1_11 df_X10 ⟨Nat.le_of_ble_eq_true rfl, Nat.le_of_ble_eq_true rfl⟩ dL_law_8 (fun q2 H hV => ?_)
  have hV : AtW E0 (wC (eW E0 u1) σf ++ [(q2, .inr (10, [.int 0, .null, .int 0, .int 0, .int 0, .int 0, .int 0, .int 0, .int 0, .null, .null, .null, .null, .null, .null, .null, .null, .null, .null, .null, .null, .null, .null, .null, .int 0, .int 0, .int 0, .int 0, .int 0, .int 0, .int 0, .int 0, .null, .null, .null, .null, .null, .null, .null, .null, .null, .null, .null, .null, .null, .null, .null, .int 0, .int 0, .int 0, .int 0, .null, .null, .long 0, .null, .int 0, .int 0, .null, .null, .null, .int 0, .null, .null, .int 0]))]) (lwA s) s H locs := hV
  refine W.widen (k := 116) (n := 3759) (Nat.le_of_ble_eq_true rfl) (Nat.le_of_ble_eq_true rfl) ?_
  refine lv_dup hx hb dL_law_11 rfl ?_
  refine r_ctor (n := 0) (As := []) (c_X10_init hc2) mk_6_82 mk_1_11 mk_6_83 rfl (by decide +kernel) rfl ⟨rfl, rfl⟩ cx hV mk_6_81 ⟨Nat.le_of_ble_eq_true rfl, Nat.le_of_ble_eq_true rfl⟩ ⟨Nat.le_of_ble_eq_true rfl, Nat.le_of_ble_eq_true rfl⟩ hl.1 rfl (Nat.le_of_ble_eq_true rfl) dL_law_12 (fun u2 H locs hV => ?_)
  obtain ⟨u2, hu2⟩ := u2
  have hV : AtW E0 (wC (eW E0 u1) σf ++ wM (eW E0 u2) τf) (lwA s) s H locs := hV
  refine W.widen (k := 155) (n := 7065) (Nat.le_of_ble_eq_true rfl) (Nat.le_of_ble_eq_true rfl) ?_
  refine lv_astore_n (lv' := [(2, .ref q2), (1, .ref q1), (0, .ref b)]) hx hb dL_law_15 rfl hl (by decide) rfl (fun ls hl => ?_)
  refine lv_iconst (v := 1) hx hb dL_law_16 (by decide) ?_
  refine r_newJ cx hV (N := 1) (by decide) (by decide) (by decide) ⟨Nat.le_of_ble_eq_true rfl, Nat.le_of_ble_eq_true rfl⟩ dL_law_17 (fun o H hV => ?_)
  refine W.widen (k := 156 + 0) (n := 7066 + 6 * 0) (Nat.le_of_ble_eq_true rfl) (Nat.le_of_ble_eq_true rfl) ?_
  refine lv_astore_n (lv' := [(3, .ref o), (2, .ref q2), (1, .ref q1), (0, .ref b)]) hx hb dL_law_19 rfl hl (by decide) rfl (fun ls hl => ?_)
  refine lv_iconst (v := 0) hx hb dL_law_20 (by decide) ?_
  refine lv_istore (lv' := [(4, .int 0), (3, .ref o), (2, .ref q2), (1, .ref q1), (0, .ref b)]) hx hb dL_law_21 hl (by decide) rfl (fun ls hl => ?_)
  have hw1 : wC (eW E0 (adJ u1 ad0)) σf = wC (eW E0 u1) σf := wC_ad (fun k hk => adJ_lt k hk)
  have hw2 : wM (eW E0 (adJ u2 ad0)) τf = wM (eW E0 u2) τf := wM_ad (fun k hk => adJ_lt k hk)
  have hV2 : AtW E0 (lwW (eW E0 (adJ u1 ad0)) (adJ u2 ad0) σf τf o (fun _ => 0)) (lwA s) s H locs := by
    have hp : ∀ x : Nat × va_E, (wC (eW E0 u1) σf ++ wM (eW E0 u2) τf ++ [x]).Perm (wC (eW E0 (adJ u1 ad0)) σf ++ (x :: wM (eW E0 (adJ u2 ad0)) τf)) := fun x => by
      rw [hw1, hw2, List.append_assoc]
      exact List.Perm.append_left _ (List.perm_append_singleton _ _)
    exact lw_perm (hp _) hV
  have hV3 : AtW (eW E0 (adJ u1 ad0)) (lwW (eW E0 (adJ u1 ad0)) (adJ u2 ad0) σf τf o (fun _ => 0)) (lwA s) s H locs := hV2
  have hD : LwD p l s m c b L xs (eW E0 (adJ u1 ad0)) (adJ u2 ad0) := by
    have h1 : ∀ k, 1000 ≤ k → adJ u1 ad0 k = eA E0 k := fun k hk => by rw [adJ_ge k hk, hE0]; rfl
    have h2 : ∀ k, 1000 ≤ k → adJ u2 ad0 k = eA (eW E0 (adJ u1 ad0)) k := fun k hk => by rw [adJ_ge k hk, eA_eW, adJ_ge k hk]
    exact ⟨cx, hX, hbl, lw_FZ h1 hF0, lw_FZ h2 (lw_FZ h1 hF0), hN, hT⟩
  have e1 : eA (eW E0 (adJ u1 ad0)) 0 = q1 := by rw [eA_eW, adJ_lt 0 (by omega)]; exact hu1
  have e2 : eA (eW (eW E0 (adJ u1 ad0)) (adJ u2 ad0)) 0 = q2 := by rw [eA_eW, adJ_lt 0 (by omega)]; exact hu2
  have hl2 : lv_has ls 8 [(0, .ref b), (1, .ref (eA (eW E0 (adJ u1 ad0)) 0)), (2, .ref (eA (eW (eW E0 (adJ u1 ad0)) (adJ u2 ad0)) 0)), (3, .ref o), (4, .int (nI (6 * 0)))] := by
    rw [e1, e2]
    exact lv_sub hl [4, 3, 2, 1, 0] rfl
  exact law_loop hL hD hr hlk 513 0 rfl (by omega) σf τf _ H locs ls hV3 hI hl2
