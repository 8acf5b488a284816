
section SKN

variable {M M' : sk_M} {d d' kc ks kc' ks' : Nat} {Po Po' : Option Value → sk_H → Prop} {Z : sk_P} {w : sk_H} {pc : Nat} {lv lv' : List (Nat × Value)} {st stk As : List Value} {k n : Nat}

theorem sk_rep0 (N j : Nat) : (List.replicate N (0 : Int32)).getD j 0 = 0 := by
  rw [List.getD_eq_getElem?_getD, List.getElem?_replicate]
  split <;> rfl
theorem sk_repn (N j : Nat) : (List.replicate N (none : Option Nat)).getD j none = none := by
  rw [List.getD_eq_getElem?_getD, List.getElem?_replicate]
  split <;> rfl
theorem g_newa (F : sk_F M d kc ks Z) {at_ : ArrayType} {t N : Nat} {ty : FieldType} {x : Int32} (hd : decode M.2.1 pc = .ok (.newarray at_, 2)) (hty : newarray.typeOf at_ = ty) (hw : Cond.arrayClass ty ∈ sk_ws) (ht : sk_tys[t]? = some ty) (hdef : defaultValue ty = .int 0) (hra : ∀ (U : State) (q : ClassId), va_RA U q ty → U.vm.findClass ("[" ++ ty.toString) = some q)
    (h0 : ¬ x < 0) (hN : x.toNatClampNeg = N) (hby : N * componentBytes ty ≤ 536870912) (hk : k + 1 ≤ kc) (hn : n + N ≤ ks) (h : Z (w ++ [.inl (t, List.replicate N 0)]) (pc + 2) lv (.ref w.length :: st) (k + 1) (n + N)) : Z w pc lv (.int x :: st) k n := by
  obtain ⟨p, l, e, R, s, m, args, below, meth, c, E, ad0, n0, Q, rfl, ⟨hx, hb, hml, hown, hts, hK, hO, hA, hn0, had, hnm⟩, hR⟩ := F
  intro ad H locs ls a1 a2 a3 a4 a5 a6 a7 a8 a9
  refine va_newa (a0 := (N, .inl (fun j => (List.replicate N (0 : Int32)).getD j 0))) hx hb (by rw [hty]; exact hts _ hw) hty hK a7 a8 a9 hA (fun cA => ?_) h0 hN hby (Nat.le_trans hk hR.2.1) (Nat.le_trans hn hR.2.2.1) hd (fun q cA H1 b0 b1 b2 b3 => ?_)
  · rw [vp_cell_i, hdef]
    congr 1
    funext j
    rw [sk_rep0]
  · have e1 : cA = eT E t := by
      have g1 := hra _ _ (b0.2 (sk_t (eT E)).length (cA, ty) (by rw [List.getElem?_append_right (Nat.le_refl _), Nat.sub_self]; rfl)).2
      have g2 := hra _ _ (hK.2 t (eT E t, ty) (sk_ty ht)).2
      exact Option.some.inj (g1.symm.trans g2)
    subst e1
    have e2 : sk_c (eT E) ad (.inl (t, List.replicate N 0)) = .inl (eT E t, N, .inl (fun j => (List.replicate N (0 : Int32)).getD j 0)) := by
      show Sum.inl (eT E t, (List.replicate N (0 : Int32)).length, _) = _
      rw [List.length_replicate]
    rw [← e2] at b1 b2
    exact sk_born h trivial a1 a2 a3 (sk_tail a4) a5 a6 b1 b2 b3
theorem g_newq (F : sk_F M d kc ks Z) {idx t N : Nat} {C : String} {x : Int32} (hd : decode M.2.1 pc = .ok (.anewarray idx, 3)) (hw : Cond.classLink M.1.cls idx C ∈ sk_ws) (hC2 : C = "PackShelf$Thing") (ht : sk_tys[t]? = some (.object C))
    (h0 : ¬ x < 0) (hN : x.toNatClampNeg = N) (hby : N * 4 ≤ 536870912) (hk : k + 1 ≤ kc) (hn : n + N ≤ ks) (h : Z (w ++ [.inr (.inl (t, List.replicate N none))]) (pc + 3) lv (.ref w.length :: st) (k + 1) (n + N)) : Z w pc lv (.int x :: st) k n := by
  obtain ⟨p, l, e, R, s, m, args, below, meth, c, E, ad0, n0, Q, rfl, ⟨hx, hb, hml, hown, hts, hK, hO, hA, hn0, had, hnm⟩, hR⟩ := F
  intro ad H locs ls a1 a2 a3 a4 a5 a6 a7 a8 a9
  refine va_newq (C := C) hx hb hown (hts _ hw) (by rw [hC2]; exact oZ_AO hO.2.2.2.2.2) hK a7 a8 a9 hA h0 hN hby (Nat.le_trans hk hR.2.1) (Nat.le_trans hn hR.2.2.1) hd (fun q cA H1 b0 b1 b2 b3 => ?_)
  have e1 : cA = eT E t := by
    obtain ⟨kA, comp, -, -, -, g1⟩ := (b0.2 (sk_t (eT E)).length (cA, .object C) (by rw [List.getElem?_append_right (Nat.le_refl _), Nat.sub_self]; rfl)).2
    obtain ⟨kB, comp2, -, -, -, g2⟩ := (hK.2 t (eT E t, .object C) (sk_ty ht)).2
    exact Option.some.inj (g1.symm.trans g2)
  subst e1
  have e2 : sk_c (eT E) ad (.inr (.inl (t, List.replicate N none))) = .inl (eT E t, N, .inr (.inr (.inr (.inr (fun _ => none))))) := by
    show Sum.inl (eT E t, (List.replicate N (none : Option Nat)).length, _) = _
    rw [List.length_replicate]
    congr 7
    funext j
    show Option.map ad ((List.replicate N (none : Option Nat)).getD j none) = none
    rw [sk_repn]
    rfl
  rw [← e2] at b1 b2
  exact sk_born h (fun i hi => by rw [List.mem_replicate] at hi; cases hi.2) a1 a2 a3 (sk_tail a4) a5 a6 b1 b2 b3
theorem sk_after {p : Program} {l : Launch} {e : Env} {R : Room} {s : State} {m : MethodId} {args : Array Value} {below : List Frame} {meth : Method} {c : Code} {H : Heap} {locs : List Loc} {E : sk_E} {ad : Nat → Nat} {nw mc ms : Nat} {Q : State → Prop} {ls : Array Slot} {st0 rest : List Value} {a : Array Value}
    (hr : va_Run p l e R s m args below meth c H locs k n mc ms (F0 m pc ls st0) rest (sk_Q E ad nw Po' a) (eA E)) (hS : va_S (eA E) s.heap H locs)
    (kk : ∀ (r : Option Value) (w' : sk_H) (ad' : Nat → Nat) (H1 : Heap) (locs1 : List Loc), Po' r w' → nw ≤ w'.length → sk_oW w' → (∀ v, r = some v → sk_oV w'.length v) → (∀ i, i < nw → ad' i = ad i) → va_P (eD E) vwCl (sk_w (eT E) ad' w') H1 → va_D (eA E) (sk_w (eT E) ad' w') → va_S (eA E) s.heap H1 locs1 →
      W p l e R s m args below meth c H1 locs1 (k + mc) (n + ms) Q (F0 m (pc + 3) ls ((r.map (sk_v ad')).toList ++ rest))) : W p l e R s m args below meth c H locs k n Q (F0 m pc ls st0) := by
  intro T hT X
  obtain ⟨v, st₀, t, T', L, h0, X', hL, e1, e2, ⟨⟨r, w', ad', hv, g1, g2, g3, g4, g5, g6, g7⟩, hz, hk⟩, stp⟩ := hr T hT X
  cases hv
  rw [h0] at hz hk
  obtain ⟨t2, b1, b2⟩ := kk r w' ad' T'.heap (locs ++ L) g1 g2 g3 g4 g5 (by rw [e1]; exact g6) g7
    ⟨Nat.le_trans hS.1 (by rw [e1]; exact hz), fun q h1 h2 => by rw [e1, hk q (Nat.lt_of_lt_of_le h1 hS.1) h2]; exact hS.2.1 q h1 h2, fun q hq => by
      rcases List.mem_append.mp hq with h | h
      · exact hS.2.2 q h
      · exact hL q h⟩ T' rfl X'
  exact ⟨t2, stp t2 b1, b2⟩
theorem sk_blind {E : sk_E} {ad : Nat → Nat} {as : List Value} : FrameBlind (va_Pc as (sk_pre E ad w)) := fun a U g mk q => by
  obtain ⟨q0, q1, q2, q3, q4, q5⟩ := q
  exact ⟨q0, q1, q2, va_K.moved (u := U) (U := U.calling g mk a) (Vm.Alike.refl U.vm) q3, q4, sk_old_same (u := U) (U := U.calling g mk a) rfl q5⟩
theorem sk_at {E : sk_E} {ad : Nat → Nat} {as : List Value} {s : State} {H : Heap} {locs : List Loc} (hK : va_K (eD E) vwCl (sk_t (eT E)) s) (hO : sk_old E s s.heap) (hA : ∀ q, s.heap.size ≤ q → eA E q) (a7 : va_P (eD E) vwCl (sk_w (eT E) ad w) H) (a8 : va_D (eA E) (sk_w (eT E) ad w)) (a9 : va_S (eA E) s.heap H locs) : ∀ U : State, U.heap = H → s.WarmedH U.vm → va_Pc as (sk_pre E ad w) as.toArray U := by
  intro U hU hW
  refine ⟨rfl, fun q hq => hA q (Nat.le_trans a9.1 (by rw [hU] at hq; exact hq)), by rw [hU]; exact a7, va_K.moved hW.alike hK, a8, ?_⟩
  rw [hU]
  exact sk_old_kept (sk_old_warm hW hO) a9.1 a9.2.1
theorem sk_goodM (h : Cond.code M'.1 M'.2.1 M'.2.2.1 M'.2.2.2 ∈ sk_ws) : GoodIn sk_ws (Cond.code M'.1 M'.2.1 M'.2.2.1 M'.2.2.2 :: sk_ws) := by
  intro x hx
  rcases List.mem_cons.mp hx with e | e
  · rw [e]; exact ⟨h, Or.inl rfl⟩
  · exact ⟨e, good_of_word (List.mem_filter.mp e).2⟩
def sk_cB (own : String) (idx : Nat) (M : sk_M) : Prop := Cond.methodLink own idx M.1 ∈ sk_ws ∧ Cond.initialized M.1.cls ∈ sk_ws ∧ Cond.code M.1 M.2.1 M.2.2.1 M.2.2.2 ∈ sk_ws ∧ M.1.cls ≠ "java/lang/invoke/MethodHandle" ∧ M.1.cls ≠ "java/lang/invoke/VarHandle" ∧ 19 + M.2.2.1 ≤ 32
def sk_nP (M : sk_M) (q : Nat) : Prop := (parseMethodDescriptor M.1.desc).map (fun d => d.parameters.length) = some q
theorem sk_callB {R : Room} {s : State} {args : Array Value} {own : String} {idx q : Nat} (h : sk_cB own idx M') (hp : sk_nP M' q) (hts : ∀ w ∈ sk_ws, w.before args s = true) (hR : sk_r R d kc ks) (hd : d' + 1 ≤ d) : CallB R s args own idx M'.1 M'.2.1 M'.2.2.1 M'.2.2.2 (Cond.code M'.1 M'.2.1 M'.2.2.1 M'.2.2.2 :: sk_ws) (sk_R d' kc' ks') kc' ks' q :=
  callB_of q hts (sk_goodM h.2.2.1) rfl rfl rfl (hts _ h.2.1) (hts _ h.1) ⟨h.2.2.2.1, h.2.2.2.2.1, hp⟩ ⟨Nat.le_trans hd hR.1, by show 8 + (M'.2.2.1 + 11) + 32 * d' ≤ R.locals; have := h.2.2.2.2.2; have := hR.2.2.2; omega⟩
theorem sk_mapok {N : Nat} {stk : List Value} (e : stk = As.reverse ++ st) (h : ∀ v ∈ stk, sk_oV N v) : (∀ v ∈ As, sk_oV N v) ∧ ∀ v ∈ st, sk_oV N v := by
  subst e
  exact ⟨fun v hv => h v (List.mem_append_left _ (List.mem_reverse.mpr hv)), fun v hv => h v (List.mem_append_right _ hv)⟩
theorem sk_push {N : Nat} {r : Option Value} {st : List Value} (hr : ∀ v, r = some v → sk_oV N v) (h : ∀ v ∈ st, sk_oV N v) : ∀ v ∈ r.toList ++ st, sk_oV N v := by
  cases r with
  | none => exact h
  | some x => exact sk_cons (hr x rfl) h
theorem sk_pushm {ad : Nat → Nat} {r : Option Value} {st : List Value} : (r.toList ++ st).map (sk_v ad) = (r.map (sk_v ad)).toList ++ st.map (sk_v ad) := by cases r <;> rfl
theorem g_callV (F : sk_F M d kc ks Z) {idx ci b : Nat} {T : u_T} {N : Nat} {fs : List Value} (hd : decode M.2.1 pc = .ok (.invokevirtual idx, 3)) (hB : sk_cB M.1.cls idx M') (hI : Cond.instanceMethod M'.1 ∈ sk_ws ∧ Cond.selects M'.1.cls M'.1 M'.1 ∈ sk_ws) (hp : sk_nP M' As.length) (he : w[b]? = some (.inr (.inr (ci, fs)))) (hc : vwCl[ci]? = some (M'.1.cls, T, N))
    (hC : Ct M' d' kc' ks' w (.ref b :: As) Po') (hstk : stk = As.reverse ++ .ref b :: st) (hdd : d' + 1 ≤ d) (hk : k + kc' ≤ kc) (hn : n + ks' ≤ ks) (hcat : (st.map fun v => v.category).sum ≤ 8)
    (h : ∀ r w', Po' r w' → w.length ≤ w'.length → Z w' (pc + 3) lv (r.toList ++ st) (k + kc') (n + ks')) : Z w pc lv stk k n := by
  obtain ⟨p, l, e, R, s, m, args, below, meth, c, E, ad0, n0, Q, rfl, ⟨hx, hb, hml, hown, hts, hK, hO, hA, hn0, had, hnm⟩, hR⟩ := F
  intro ad H locs ls a1 a2 a3 a4 a5 a6 a7 a8 a9
  obtain ⟨o1, o2⟩ := sk_mapok (st := .ref b :: st) hstk a4
  have hg := sk_ge a2 he (sk_nd hc)
  have hat := sk_w_at (tc := eT E) (ad := ad) he hg
  have hrun := va_runV (e := e) (below := below) (meth := meth) (Ts := sk_ws) (As := As.map (sk_v ad)) (rest := st.map (sk_v ad)) (b := ad b) (g := F0 m pc ls (stk.map (sk_v ad))) (H := H) (locs := locs) (cells := k) (slots := n) ⟨hx, hb, hml, hown, hts⟩ (hC l E ad a2 (sk_cons (sk_hd o2) o1) (fun i hi => (a5 i (Nat.lt_of_lt_of_le hi hn0)).trans (had i hi)))
    ⟨sk_callB (kc := kc) (ks := ks) hB hp hts hR hdd, hts _ hI.1, hts _ hI.2⟩ ⟨sk_blind, va_recv hK a7 hc hat, sk_at hK hO hA a7 a8 a9⟩ rfl (List.length_map _) a6.1 (by rw [hstk, List.map_append, List.map_reverse]; rfl) (lv_room (by rw [sk_cats]; exact hcat)) hd ⟨Nat.le_trans hk hR.2.1, Nat.le_trans hn hR.2.2.1⟩
  refine sk_after hrun a9 (fun r w' ad' H1 locs1 c1 c2 c3 c4 c5 c6 c7 c8 => ?_)
  have e2 : st.map (sk_v ad) = st.map (sk_v ad') := List.map_congr_left (fun v hv => (sk_v_agree c5 (sk_tail o2 v hv)).symm)
  have e3 : sk_l ad lv = sk_l ad' lv := List.map_congr_left (fun v hv => by rw [sk_v_agree c5 (a3 v hv)])
  rw [e2, ← sk_pushm]
  exact h r w' c1 c2 ad' H1 locs1 ls (Nat.le_trans a1 c2) c3 (fun q hq => sk_oV_mono (a3 q hq) c2) (sk_push c4 (fun v hv => sk_oV_mono (sk_tail o2 v hv) c2)) (fun i hi => (c5 i (Nat.lt_of_lt_of_le hi a1)).trans (a5 i hi)) (by rw [← e3]; exact a6) c6 c7 c8
theorem g_callI (F : sk_F M d kc ks Z) {idx b : Nat} (hd : decode M.2.1 pc = .ok (.invokespecial idx, 3)) (hB : sk_cB M.1.cls idx M') (hI : Cond.instanceMethod M'.1 ∈ sk_ws ∧ M'.1.name = "<init>" ∧ M'.2.2.2 = none) (hp : sk_nP M' As.length)
    (hC : Ct M' d' kc' ks' w (.ref b :: As) Po') (hstk : stk = As.reverse ++ .ref b :: st) (hdd : d' + 1 ≤ d) (hk : k + kc' ≤ kc) (hn : n + ks' ≤ ks) (hcat : (st.map fun v => v.category).sum ≤ 8)
    (h : ∀ r w', Po' r w' → w.length ≤ w'.length → Z w' (pc + 3) lv (r.toList ++ st) (k + kc') (n + ks')) : Z w pc lv stk k n := by
  obtain ⟨p, l, e, R, s, m, args, below, meth, c, E, ad0, n0, Q, rfl, ⟨hx, hb, hml, hown, hts, hK, hO, hA, hn0, had, hnm⟩, hR⟩ := F
  intro ad H locs ls a1 a2 a3 a4 a5 a6 a7 a8 a9
  obtain ⟨o1, o2⟩ := sk_mapok (st := .ref b :: st) hstk a4
  have hcb := sk_callB (kc := kc) (ks := ks) (kc' := kc') (ks' := ks') hB hp hts hR hdd
  have hCt := hC l E ad a2 (sk_cons (sk_hd o2) o1) (fun i hi => (a5 i (Nat.lt_of_lt_of_le hi hn0)).trans (had i hi))
  rw [hI.2.2] at hcb hCt
  have hrun := va_runI (e := e) (below := below) (meth := meth) (Ts := sk_ws) (As := As.map (sk_v ad)) (rest := st.map (sk_v ad)) (b := ad b) (g := F0 m pc ls (stk.map (sk_v ad))) (H := H) (locs := locs) (cells := k) (slots := n) ⟨hx, hb, hml, hown, hts⟩ hCt
    ⟨hcb, hI.2.1, hts _ hI.1⟩ ⟨sk_blind, sk_at hK hO hA a7 a8 a9⟩ rfl (List.length_map _) a6.1 (by rw [hstk, List.map_append, List.map_reverse]; rfl) (lv_room (by rw [sk_cats]; exact hcat)) hd ⟨Nat.le_trans hk hR.2.1, Nat.le_trans hn hR.2.2.1⟩
  refine sk_after hrun a9 (fun r w' ad' H1 locs1 c1 c2 c3 c4 c5 c6 c7 c8 => ?_)
  have e2 : st.map (sk_v ad) = st.map (sk_v ad') := List.map_congr_left (fun v hv => (sk_v_agree c5 (sk_tail o2 v hv)).symm)
  have e3 : sk_l ad lv = sk_l ad' lv := List.map_congr_left (fun v hv => by rw [sk_v_agree c5 (a3 v hv)])
  rw [e2, ← sk_pushm]
  exact h r w' c1 c2 ad' H1 locs1 ls (Nat.le_trans a1 c2) c3 (fun q hq => sk_oV_mono (a3 q hq) c2) (sk_push c4 (fun v hv => sk_oV_mono (sk_tail o2 v hv) c2)) (fun i hi => (c5 i (Nat.lt_of_lt_of_le hi a1)).trans (a5 i hi)) (by rw [← e3]; exact a6) c6 c7 c8
theorem g_callS (F : sk_F M d kc ks Z) {idx : Nat} (hd : decode M.2.1 pc = .ok (.invokestatic idx, 3)) (hB : sk_cB M.1.cls idx M') (hI : Cond.static M'.1 ∈ sk_ws) (hp : sk_nP M' As.length)
    (hC : Ct M' d' kc' ks' w As Po') (hstk : stk = As.reverse ++ st) (hdd : d' + 1 ≤ d) (hk : k + kc' ≤ kc) (hn : n + ks' ≤ ks) (hcat : (st.map fun v => v.category).sum ≤ 8)
    (h : ∀ r w', Po' r w' → w.length ≤ w'.length → Z w' (pc + 3) lv (r.toList ++ st) (k + kc') (n + ks')) : Z w pc lv stk k n := by
  obtain ⟨p, l, e, R, s, m, args, below, meth, c, E, ad0, n0, Q, rfl, ⟨hx, hb, hml, hown, hts, hK, hO, hA, hn0, had, hnm⟩, hR⟩ := F
  intro ad H locs ls a1 a2 a3 a4 a5 a6 a7 a8 a9
  obtain ⟨o1, o2⟩ := sk_mapok hstk a4
  have hrun := va_runS (e := e) (below := below) (meth := meth) (Ts := sk_ws) (As := As.map (sk_v ad)) (rest := st.map (sk_v ad)) (g := F0 m pc ls (stk.map (sk_v ad))) (H := H) (locs := locs) (cells := k) (slots := n) ⟨hx, hb, hml, hown, hts⟩ (hC l E ad a2 o1 (fun i hi => (a5 i (Nat.lt_of_lt_of_le hi hn0)).trans (had i hi)))
    ⟨sk_callB (kc := kc) (ks := ks) hB hp hts hR hdd, hts _ hI⟩ ⟨sk_blind, sk_at hK hO hA a7 a8 a9⟩ rfl (List.length_map _) a6.1 (by rw [hstk, ← List.map_reverse, ← List.map_append]) (lv_room (by rw [sk_cats]; exact hcat)) hd ⟨Nat.le_trans hk hR.2.1, Nat.le_trans hn hR.2.2.1⟩
  refine sk_after hrun a9 (fun r w' ad' H1 locs1 c1 c2 c3 c4 c5 c6 c7 c8 => ?_)
  have e2 : st.map (sk_v ad) = st.map (sk_v ad') := List.map_congr_left (fun v hv => (sk_v_agree c5 (o2 v hv)).symm)
  have e3 : sk_l ad lv = sk_l ad' lv := List.map_congr_left (fun v hv => by rw [sk_v_agree c5 (a3 v hv)])
  rw [e2, ← sk_pushm]
  exact h r w' c1 c2 ad' H1 locs1 ls (Nat.le_trans a1 c2) c3 (fun q hq => sk_oV_mono (a3 q hq) c2) (sk_push c4 (fun v hv => sk_oV_mono (o2 v hv) c2)) (fun i hi => (c5 i (Nat.lt_of_lt_of_le hi a1)).trans (a5 i hi)) (by rw [← e3]; exact a6) c6 c7 c8
theorem g_objInit (F : sk_F M d kc ks Z) {idx b : Nat} (hd : decode M.2.1 pc = .ok (.invokespecial idx, 3)) (hw : Cond.methodLink M.1.cls idx Lib.objectInit ∈ sk_ws) (hw2 : Cond.instanceMethod Lib.objectInit ∈ sk_ws) (hw3 : Cond.code Lib.objectInit ⟨#[0xb1]⟩ 1 none ∈ sk_ws) (hdd : 1 ≤ d) (h : Z w (pc + 3) lv [] k n) : Z w pc lv [.ref b] k n := by
  obtain ⟨p, l, e, R, s, m, args, below, meth, c, E, ad0, n0, Q, rfl, ⟨hx, hb, hml, hown, hts, hK, hO, hA, hn0, had, hnm⟩, hR⟩ := F
  intro ad H locs ls a1 a2 a3 a4 a5 a6 a7 a8 a9
  refine W.objInit hx hb hown (hts _ hw) (hts _ hw2) (hts _ hw3) (g := F0 m pc ls [.ref (ad b)]) rfl (by rw [hml]; exact a6.1) rfl hd (Nat.le_trans hdd hR.1) (by show 2 * 0 + 0 + 12 ≤ R.locals; have := hR.2.2.2; omega) ?_
  exact h ad H locs ls a1 a2 a3 (sk_tail a4) a5 a6 a7 a8 a9
theorem g_mmin (F : sk_F M d kc ks Z) {idx : Nat} {x y : Int32} (hd : decode M.2.1 pc = .ok (.invokestatic idx, 3)) (hw : Cond.methodLink M.1.cls idx Lib.Math.min.name ∈ sk_ws) (hw2 : Cond.static Lib.Math.min.name ∈ sk_ws) (hw3 : Cond.initialized "java/lang/Math" ∈ sk_ws) (hw4 : Cond.code Lib.Math.min.name Lib.Math.min.code 2 (some .int) ∈ sk_ws) (hdd : 1 ≤ d) (hk : k ≤ kc) (hn : n ≤ ks) (hcat : (st.map fun v => v.category).sum ≤ 8) (h : Z w (pc + 3) lv (.int (c_min x y) :: st) k n) : Z w pc lv (.int y :: .int x :: st) k n := by
  obtain ⟨p, l, e, R, s, m, args, below, meth, c, E, ad0, n0, Q, rfl, ⟨hx, hb, hml, hown, hts, hK, hO, hA, hn0, had, hnm⟩, hR⟩ := F
  intro ad H locs ls a1 a2 a3 a4 a5 a6 a7 a8 a9
  exact va_mmin hx hb (hml.trans a6.1.symm) hown (hts _ hw) (hts _ hw2) (hts _ hw3) (hts _ hw4) (Nat.le_trans hdd hR.1) (by rw [sk_cats]; have := hR.2.2.2; omega) (Nat.le_trans hk hR.2.1) (Nat.le_trans hn hR.2.2.1) hd (h ad H locs ls a1 a2 a3 (sk_cons sk_oV_int (sk_tail (sk_tail a4))) a5 a6 a7 a8 a9)
def sk_cpy (L K : List Int32) (sp dp N : Nat) : List Int32 := K.take dp ++ (L.drop sp).take N ++ K.drop (dp + N)
theorem sk_cpy_len {L K : List Int32} {sp dp N : Nat} (h4 : sp + N ≤ L.length) (h5 : dp + N ≤ K.length) : (sk_cpy L K sp dp N).length = K.length := by
  unfold sk_cpy
  simp only [List.length_append, List.length_take, List.length_drop]
  omega
theorem sk_cpy_f {L K : List Int32} {sp dp N : Nat} (h4 : sp + N ≤ L.length) (h5 : dp + N ≤ K.length) : va_cpy (fun j => L.getD j 0) (fun j => K.getD j 0) sp dp N = fun j => (sk_cpy L K sp dp N).getD j 0 := by
  funext j
  unfold va_cpy sk_cpy
  simp only [List.getD_eq_getElem?_getD]
  by_cases h1 : j < dp
  · rw [if_neg (by omega), List.append_assoc, List.getElem?_append_left (by rw [List.length_take]; omega), List.getElem?_take_of_lt h1]
  · by_cases h2 : j < dp + N
    · rw [if_pos (by omega), List.append_assoc, List.getElem?_append_right (by rw [List.length_take]; omega), List.getElem?_append_left (by simp only [List.length_take, List.length_drop]; omega), List.length_take, Nat.min_eq_left (by omega), List.getElem?_take_of_lt (by omega), List.getElem?_drop]
    · rw [if_neg (by omega), List.getElem?_append_right (by simp only [List.length_append, List.length_take, List.length_drop]; omega), List.getElem?_drop]
      congr 2
      simp only [List.length_append, List.length_take, List.length_drop]
      omega
theorem sk_natw {ad : Nat → Nat} {R : Room} (hcat : (st.map fun v => v.category).sum ≤ 8) (hR : sk_r R d kc ks) (hdd : 1 ≤ d) : ((st.map (sk_v ad)).map fun v => v.category).sum + (nativeFrameWords "java/lang/System" "arraycopy" 5 + 11) ≤ R.locals := by
  rw [sk_cats]
  have h1 : nativeFrameWords "java/lang/System" "arraycopy" 5 ≤ 10 := by decide +kernel
  have := hR.2.2.2
  omega
theorem g_copy (F : sk_F M d kc ks Z) {idx i0 i1 t : Nat} {L K : List Int32} {sp dp N : Int32} {sp' dp' N' : Nat} (hd : decode M.2.1 pc = .ok (.invokestatic idx, 3)) (hw : Cond.methodLink M.1.cls idx arraycopyName ∈ sk_ws) (hw2 : Cond.native arraycopyName ∈ sk_ws) (hw3 : Cond.static arraycopyName ∈ sk_ws) (hw4 : Cond.initialized "java/lang/System" ∈ sk_ws)
    (he0 : w[i0]? = some (.inl (t, L))) (he1 : w[i1]? = some (.inl (t, K))) (ht : sk_tys[t]? = some .int) (h1 : ¬ sp < 0) (h2 : ¬ dp < 0) (h3 : ¬ N < 0) (es : sp.toNatClampNeg = sp') (ed : dp.toNatClampNeg = dp') (eN : N.toNatClampNeg = N') (h4 : sp' + N' ≤ L.length) (h5 : dp' + N' ≤ K.length) (hdd : 1 ≤ d) (hcat : (st.map fun v => v.category).sum ≤ 8)
    (h : Z (w.set i1 (.inl (t, sk_cpy L K sp' dp' N'))) (pc + 3) lv st k n) : Z w pc lv (.int N :: .int dp :: .ref i1 :: .int sp :: .ref i0 :: st) k n := by
  obtain ⟨p, l, e, R, s, m, args, below, meth, c, E, ad0, n0, Q, rfl, ⟨hx, hb, hml, hown, hts, hK, hO, hA, hn0, had, hnm⟩, hR⟩ := F
  intro ad H locs ls a1 a2 a3 a4 a5 a6 a7 a8 a9
  have hg0 := sk_ge a2 he0 sk_nd1
  have hg := sk_ge a2 he1 sk_nd1
  have hat0 := sk_w_at (tc := eT E) (ad := ad) he0 hg0
  have hat := sk_w_at (tc := eT E) (ad := ad) he1 hg
  subst es; subst ed; subst eN
  have hset : sk_w (eT E) ad (w.set i1 (.inl (t, sk_cpy L K sp.toNatClampNeg dp.toNatClampNeg N.toNatClampNeg))) = (sk_w (eT E) ad w).set (i1 - sk_k) (ad i1, .inl (eT E t, K.length, .inl (va_cpy (fun j => L.getD j 0) (fun j => K.getD j 0) sp.toNatClampNeg dp.toNatClampNeg N.toNatClampNeg))) := by
    rw [sk_w_set hg, sk_cpy_f h4 h5]
    show (sk_w (eT E) ad w).set (i1 - sk_k) (ad i1, .inl (eT E t, (sk_cpy L K sp.toNatClampNeg dp.toNatClampNeg N.toNatClampNeg).length, .inl (fun q => (sk_cpy L K sp.toNatClampNeg dp.toNatClampNeg N.toNatClampNeg).getD q 0))) = _
    rw [sk_cpy_len h4 h5]
  refine va_copyi hx hb (hml.trans a6.1.symm) hown (hts _ hw) (hts _ hw2) (hts _ hw3) (hts _ hw4) hK a7 a8 a9 (i0 - sk_k) (i1 - sk_k) t t hat0 hat (sk_ty ht) (sk_ty ht) rfl h1 h2 h3 h4 h5 (fun _ _ => rfl) (Nat.le_trans hdd hR.1) (sk_natw hcat hR hdd) hd (fun H1 locs1 b1 b2 b3 => ?_)
  rw [← hset] at b1 b2
  exact h ad H1 locs1 ls (by rw [List.length_set]; exact a1) (sk_oW_set a2 hg trivial) (by rw [List.length_set]; exact a3) (by rw [List.length_set]; exact sk_tail (sk_tail (sk_tail (sk_tail (sk_tail a4))))) a5 a6 b1 b2 b3
theorem g_widen (F : sk_F M d kc ks Z) {k' n' : Nat} (hk : k ≤ k') (hn : n ≤ n') (h : Z w pc lv st k' n') : Z w pc lv st k n := by
  obtain ⟨p, l, e, R, s, m, args, below, meth, c, E, ad0, n0, Q, rfl, ⟨hx, hb, hml, hown, hts, hK, hO, hA, hn0, had, hnm⟩, hR⟩ := F
  intro ad H locs ls a1 a2 a3 a4 a5 a6 a7 a8 a9
  exact W.widen hk hn (h ad H locs ls a1 a2 a3 a4 a5 a6 a7 a8 a9)
theorem g_iret (T : sk_T M d kc ks Po Z) {v : Int32} (hd : decode M.2.1 pc = .ok (.ireturn, 1)) (hret : M.2.2.2 = some .int) (hk : k ≤ kc) (hn : n ≤ ks) (hp : Po (some (.int v)) w) : Z w pc lv [.int v] k n := by
  obtain ⟨p, l, e, s, m, args, below, meth, c, E, ad0, n0, rfl, ⟨hx, hb, hml, hown, hts, hK, hO, hA, hn0, had, hnm⟩, hr, hlocks⟩ := T
  intro ad H locs ls a1 a2 a3 a4 a5 a6 a7 a8 a9
  exact W.widen hk hn (W.iret (v := v) hx hb (hr.trans hret) (fun t ht hW => ⟨⟨some (.int v), w, ad, rfl, hp, a1, a2, (fun _ e9 => by cases e9; exact sk_oV_int), a5, by rw [ht]; exact a7, a8⟩, a9.F ht⟩) a9.2.2 hd hlocks)
theorem g_zret (T : sk_T M d kc ks Po Z) {v : Int32} {ty : FieldType} (hd : decode M.2.1 pc = .ok (.ireturn, 1)) (hret : M.2.2.2 = some ty) (hnr : narrow ty (.int v) = .int v) (hk : k ≤ kc) (hn : n ≤ ks) (hp : Po (some (.int v)) w) : Z w pc lv [.int v] k n := by
  obtain ⟨p, l, e, s, m, args, below, meth, c, E, ad0, n0, rfl, ⟨hx, hb, hml, hown, hts, hK, hO, hA, hn0, had, hnm⟩, hr, hlocks⟩ := T
  intro ad H locs ls a1 a2 a3 a4 a5 a6 a7 a8 a9
  exact W.widen hk hn (W.zret (v := v) hx hb (hr.trans hret) hnr (fun t ht hW => ⟨⟨some (.int v), w, ad, rfl, hp, a1, a2, (fun _ e9 => by cases e9; exact sk_oV_int), a5, by rw [ht]; exact a7, a8⟩, a9.F ht⟩) a9.2.2 hd hlocks)
theorem g_lret (T : sk_T M d kc ks Po Z) {v : Int64} (hd : decode M.2.1 pc = .ok (.lreturn, 1)) (hret : M.2.2.2 = some .long) (hk : k ≤ kc) (hn : n ≤ ks) (hp : Po (some (.long v)) w) : Z w pc lv [.long v] k n := by
  obtain ⟨p, l, e, s, m, args, below, meth, c, E, ad0, n0, rfl, ⟨hx, hb, hml, hown, hts, hK, hO, hA, hn0, had, hnm⟩, hr, hlocks⟩ := T
  intro ad H locs ls a1 a2 a3 a4 a5 a6 a7 a8 a9
  exact W.widen hk hn (W.lret (v := v) hx hb (hr.trans hret) (fun t ht hW => ⟨⟨some (.long v), w, ad, rfl, hp, a1, a2, (fun _ e9 => by cases e9; exact sk_oV_long), a5, by rw [ht]; exact a7, a8⟩, a9.F ht⟩) a9.2.2 hd hlocks)
theorem g_aret (T : sk_T M d kc ks Po Z) {i : Nat} {rt : FieldType} (hd : decode M.2.1 pc = .ok (.areturn, 1)) (hret : M.2.2.2 = some rt) (hrt : (∃ q, rt = .object q) ∨ ∃ t, rt = .array t) (hk : k ≤ kc) (hn : n ≤ ks) (hp : Po (some (.ref i)) w) : Z w pc lv [.ref i] k n := by
  obtain ⟨p, l, e, s, m, args, below, meth, c, E, ad0, n0, rfl, ⟨hx, hb, hml, hown, hts, hK, hO, hA, hn0, had, hnm⟩, hr, hlocks⟩ := T
  intro ad H locs ls a1 a2 a3 a4 a5 a6 a7 a8 a9
  exact W.widen hk hn (W.aret (v := .ref (ad i)) hx hb (hr.trans hret) hrt (Or.inr ⟨_, rfl⟩) (fun t ht hW => ⟨⟨some (.ref i), w, ad, rfl, hp, a1, a2, (fun _ e9 => by cases e9; exact sk_hd a4), a5, by rw [ht]; exact a7, a8⟩, a9.F ht⟩) a9.2.2 hd hlocks)
theorem g_vret (T : sk_T M d kc ks Po Z) (hd : decode M.2.1 pc = .ok (.return_, 1)) (hret : M.2.2.2 = none) (hk : k ≤ kc) (hn : n ≤ ks) (hp : Po none w) : Z w pc lv [] k n := by
  obtain ⟨p, l, e, s, m, args, below, meth, c, E, ad0, n0, rfl, ⟨hx, hb, hml, hown, hts, hK, hO, hA, hn0, had, hnm⟩, hr, hlocks⟩ := T
  intro ad H locs ls a1 a2 a3 a4 a5 a6 a7 a8 a9
  exact W.widen hk hn (W.vret hx hb (hr.trans hret) (fun t ht hW => ⟨⟨none, w, ad, rfl, hp, a1, a2, (fun _ e9 => by cases e9), a5, by rw [ht]; exact a7, a8⟩, a9.F ht⟩) a9.2.2 hd hlocks)
end SKN
