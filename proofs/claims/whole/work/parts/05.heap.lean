
def sk_fl (own : String) (idx ci f : Nat) : Prop := ∃ (C : String) (T : u_T) (N : Nat), vwCl[ci]? = some (C, T, N) ∧ (∀ x ∈ u_ws C T N, x ∈ sk_ws) ∧ f < N ∧ Cond.fieldLink own idx (T f).1 (T f).2.1 (T f).2.2.1 ∈ sk_ws
def sk_cl (ci : Nat) : Prop := ∃ (C : String) (T : u_T) (N : Nat) (ty : Nat → FieldType), vwCl[ci]? = some (C, T, N) ∧ (∀ x ∈ u_ws C T N, x ∈ sk_ws) ∧ (∀ k, k < N → parseFieldDescriptor (T k).2.2.1 = some (ty k)) ∧ (∀ a, a < N → ∀ b, b < N → a ≠ b → (T a).2.1 ≠ (T b).2.1)
def sk_fp (M : sk_M) (idx ci f : Nat) (ty : FieldType) : Prop := ∃ (C : String) (T : u_T) (N : Nat), vwCl[ci]? = some (C, T, N) ∧ f < N ∧ Cond.fieldLink M.1.cls idx (T f).1 (T f).2.1 (T f).2.2.1 ∈ sk_ws ∧ ((T f).2.2.2 = false ∨ ((T f).2.2.2 = true ∧ M.1.name = "<init>" ∧ (T f).1 = M.1.cls)) ∧ parseFieldDescriptor (T f).2.2.1 = some ty
theorem sk_nd {ci : Nat} {fs : List Value} {r : vw_C} (h : vwCl[ci]? = some r) : (Sum.inr (Sum.inr (ci, fs)) : sk_C) ≠ sk_dum := by
  intro e
  have h1 : ci = 999 := by injection e with e; injection e with e; exact congrArg Prod.fst e
  have h2 := (List.getElem?_eq_some_iff.mp h).1
  rw [h1] at h2
  exact absurd h2 (by decide +kernel)
theorem sk_nd1 {a : Nat × List Int32} : (Sum.inl a : sk_C) ≠ sk_dum := fun e => by cases e
theorem sk_nd2 {a : Nat × List (Option Nat)} : (Sum.inr (Sum.inl a) : sk_C) ≠ sk_dum := fun e => by injection e with e; cases e
theorem sk_ty {tc : Nat → ClassId} {t : Nat} {ty : FieldType} (h : sk_tys[t]? = some ty) : (sk_t tc)[t]? = some (tc t, ty) := by
  unfold sk_t
  rw [List.getElem?_mapIdx, h]
  rfl
theorem sk_upd {L : List Int32} {j : Nat} {v : Int32} (h : j < L.length) : upd (fun i => L.getD i 0) j v = fun i => (L.set j v).getD i 0 := by
  funext i
  unfold upd
  by_cases hi : i = j
  · subst hi
    rw [if_pos rfl, List.getD_eq_getElem?_getD, List.getElem?_set_self h]
    rfl
  · rw [if_neg hi]
    show L.getD i 0 = _
    rw [List.getD_eq_getElem?_getD, List.getD_eq_getElem?_getD, List.getElem?_set_ne (Ne.symm hi)]
theorem sk_upq {ad : Nat → Nat} {L : List (Option Nat)} {j : Nat} {v : Option Nat} (h : j < L.length) : va_up (fun i => (L.getD i none).map ad) j (v.map ad) = fun i => ((L.set j v).getD i none).map ad := by
  funext i
  unfold va_up
  by_cases hi : i = j
  · subst hi
    rw [if_pos rfl, List.getD_eq_getElem?_getD, List.getElem?_set_self h]
    rfl
  · rw [if_neg hi]
    show Option.map ad (L.getD i none) = _
    rw [List.getD_eq_getElem?_getD, List.getD_eq_getElem?_getD, List.getElem?_set_ne (Ne.symm hi)]
theorem sk_lt {w : sk_H} {i : Nat} {c : sk_C} (h : w[i]? = some c) : i < w.length := (List.getElem?_eq_some_iff.mp h).1
section SKH

variable {M : sk_M} {d kc ks : Nat} {Po : Option Value → sk_H → Prop} {Z : sk_P} {w : sk_H} {pc : Nat} {lv lv' : List (Nat × Value)} {st : List Value} {k n : Nat}

theorem g_get (F : sk_F M d kc ks Z) {idx ci f i : Nat} {fs : List Value} {v : Value} (hd : decode M.2.1 pc = .ok (.getfield idx, 3)) (hf : sk_fl M.1.cls idx ci f) (he : w[i]? = some (.inr (.inr (ci, fs)))) (hv : fs[f]? = some v) (h : Z w (pc + 3) lv (v :: st) k n) : Z w pc lv (.ref i :: st) k n := by
  obtain ⟨p, l, e, R, s, m, args, below, meth, c, E, ad0, n0, Q, rfl, ⟨hx, hb, hml, hown, hts, hK, hO, hA, hn0, had, hnm⟩, hR⟩ := F
  intro ad H locs ls a1 a2 a3 a4 a5 a6 a7 a8 a9
  obtain ⟨C, T, N, h1, h2, h3, h4⟩ := hf
  have hg := sk_ge a2 he (sk_nd h1)
  have hat := sk_w_at (tc := eT E) (ad := ad) he hg
  refine va_get (ref := (T f).1) (v := sk_v ad v) hx hb hts h2 hown hK a7 (i - sk_k) hat h1 f h3 (hts _ h4) (fun _ h9 => h9) (by rw [List.getElem?_map, hv]; rfl) hd ?_
  exact h ad H locs ls a1 a2 a3 (sk_cons (a2.2 _ (List.mem_of_getElem? he) v (List.mem_of_getElem? hv)) (sk_tail a4)) a5 a6 a7 a8 a9
theorem g_put (F : sk_F M d kc ks Z) {idx ci f i : Nat} {ty : FieldType} {fs : List Value} {v : Value} (hd : decode M.2.1 pc = .ok (.putfield idx, 3)) (hc : sk_cl ci) (hf : sk_fp M idx ci f ty) (he : w[i]? = some (.inr (.inr (ci, fs)))) (hl : f < fs.length) (hn : ∀ ad, narrow ty (sk_v ad v) = sk_v ad v) (hfit : ∀ ad, fits ty (sk_v ad v) = true)
    (h : Z (w.set i (.inr (.inr (ci, fs.set f v)))) (pc + 3) lv st k n) : Z w pc lv (v :: .ref i :: st) k n := by
  obtain ⟨p, l, e, R, s, m, args, below, meth, c, E, ad0, n0, Q, rfl, ⟨hx, hb, hml, hown, hts, hK, hO, hA, hn0, had, hnm⟩, hR⟩ := F
  intro ad H locs ls a1 a2 a3 a4 a5 a6 a7 a8 a9
  obtain ⟨C, T, N, ty0, g1, g2, g3, g4⟩ := hc
  obtain ⟨C', T', N', h1, h3, h4, h5, h6⟩ := hf
  cases g1.symm.trans h1
  have hg := sk_ge a2 he (sk_nd h1)
  have hat := sk_w_at (tc := eT E) (ad := ad) he hg
  have hset : sk_w (eT E) ad (w.set i (.inr (.inr (ci, fs.set f v)))) = (sk_w (eT E) ad w).set (i - sk_k) (ad i, .inr (ci, (fs.map (sk_v ad)).set f (sk_v ad v))) := by
    rw [sk_w_set hg]
    show _ = (sk_w (eT E) ad w).set (i - sk_k) (ad i, .inr (ci, (fs.map (sk_v ad)).set f (sk_v ad v)))
    rw [← List.map_set]
    rfl
  have hw : sk_oW (w.set i (.inr (.inr (ci, fs.set f v)))) := by
    refine sk_oW_set a2 hg ?_
    intro x hx9
    rcases List.mem_or_eq_of_mem_set hx9 with h9 | h9
    · exact a2.2 _ (List.mem_of_getElem? he) x h9
    · rw [h9]; exact sk_hd a4
  have hk : ∀ (H1 : Heap) (locs1 : List Loc), va_P (eD E) vwCl ((sk_w (eT E) ad w).set (i - sk_k) (ad i, .inr (ci, (fs.map (sk_v ad)).set f (sk_v ad v)))) H1 → va_D (eA E) ((sk_w (eT E) ad w).set (i - sk_k) (ad i, .inr (ci, (fs.map (sk_v ad)).set f (sk_v ad v)))) → va_S (eA E) s.heap H1 locs1 → W p l e R s m args below meth c H1 locs1 k n Q (F0 m (pc + 3) ls (st.map (sk_v ad))) := by
    intro H1 locs1 b1 b2 b3
    rw [← hset] at b1 b2
    exact h ad H1 locs1 ls (by rw [List.length_set]; exact a1) hw (by rw [List.length_set]; exact a3) (by rw [List.length_set]; exact sk_tail (sk_tail a4)) a5 a6 b1 b2 b3
  rcases h5 with h5 | ⟨h5, h7, h8⟩
  · exact va_put (ref := (T f).1) (v := sk_v ad v) hx hb hts g2 ty0 g3 g4 hown hK a7 a8 a9 (i - sk_k) hat h1 f h3 (hts _ h4) (fun _ h9 => h9) h5 h6 (hn ad) (hfit ad) (by rw [List.length_map]; exact hl) hd hk
  · exact va_putF (ref := (T f).1) (v := sk_v ad v) hx hb hts g2 ty0 g3 g4 hown hK a7 a8 a9 (i - sk_k) hat h1 f h3 (hts _ h4) (fun _ h9 => h9) h5 ((hnm h7).trans h7) h8 h6 (hn ad) (hfit ad) (by rw [List.length_map]; exact hl) hd hk
theorem g_iald (F : sk_F M d kc ks Z) {i t j : Nat} {L : List Int32} {x : Int32} (hd : decode M.2.1 pc = .ok (.iaload, 1)) (he : w[i]? = some (.inl (t, L))) (ht : sk_tys[t]? = some .int) (hin : vp_in x L.length) (hj : x.toNatClampNeg = j) (h : Z w (pc + 1) lv (.int (L.getD j 0) :: st) k n) : Z w pc lv (.int x :: .ref i :: st) k n := by
  obtain ⟨p, l, e, R, s, m, args, below, meth, c, E, ad0, n0, Q, rfl, ⟨hx, hb, hml, hown, hts, hK, hO, hA, hn0, had, hnm⟩, hR⟩ := F
  intro ad H locs ls a1 a2 a3 a4 a5 a6 a7 a8 a9
  have hg := sk_ge a2 he sk_nd1
  have hat := sk_w_at (tc := eT E) (ad := ad) he hg
  subst hj
  exact va_iald hx hb hK a7 (i - sk_k) t hat (sk_ty ht) hin hd (h ad H locs ls a1 a2 a3 (sk_cons sk_oV_int (sk_tail (sk_tail a4))) a5 a6 a7 a8 a9)
theorem g_zald (F : sk_F M d kc ks Z) {i t j : Nat} {L : List Int32} {x : Int32} (hd : decode M.2.1 pc = .ok (.baload, 1)) (he : w[i]? = some (.inl (t, L))) (ht : sk_tys[t]? = some .boolean) (hin : vp_in x L.length) (hj : x.toNatClampNeg = j) (h : Z w (pc + 1) lv (.int (L.getD j 0) :: st) k n) : Z w pc lv (.int x :: .ref i :: st) k n := by
  obtain ⟨p, l, e, R, s, m, args, below, meth, c, E, ad0, n0, Q, rfl, ⟨hx, hb, hml, hown, hts, hK, hO, hA, hn0, had, hnm⟩, hR⟩ := F
  intro ad H locs ls a1 a2 a3 a4 a5 a6 a7 a8 a9
  have hg := sk_ge a2 he sk_nd1
  have hat := sk_w_at (tc := eT E) (ad := ad) he hg
  subst hj
  exact va_zald hx hb hK a7 (i - sk_k) t hat (sk_ty ht) hin hd (h ad H locs ls a1 a2 a3 (sk_cons sk_oV_int (sk_tail (sk_tail a4))) a5 a6 a7 a8 a9)
theorem sk_in {x : Int32} {N : Nat} (h : vp_in x N) : x.toNatClampNeg < N := Nat.not_le.mp (fun z => h (Or.inr z))
theorem g_iast (F : sk_F M d kc ks Z) {i t j : Nat} {L : List Int32} {x v : Int32} (hd : decode M.2.1 pc = .ok (.iastore, 1)) (he : w[i]? = some (.inl (t, L))) (ht : sk_tys[t]? = some .int) (hin : vp_in x L.length) (hj : x.toNatClampNeg = j) (h : Z (w.set i (.inl (t, L.set j v))) (pc + 1) lv st k n) : Z w pc lv (.int v :: .int x :: .ref i :: st) k n := by
  obtain ⟨p, l, e, R, s, m, args, below, meth, c, E, ad0, n0, Q, rfl, ⟨hx, hb, hml, hown, hts, hK, hO, hA, hn0, had, hnm⟩, hR⟩ := F
  intro ad H locs ls a1 a2 a3 a4 a5 a6 a7 a8 a9
  have hg := sk_ge a2 he sk_nd1
  have hat := sk_w_at (tc := eT E) (ad := ad) he hg
  subst hj
  have hset : sk_w (eT E) ad (w.set i (.inl (t, L.set x.toNatClampNeg v))) = (sk_w (eT E) ad w).set (i - sk_k) (ad i, .inl (eT E t, L.length, .inl (upd (fun q => L.getD q 0) x.toNatClampNeg v))) := by
    rw [sk_w_set hg, sk_upd (sk_in hin)]
    show (sk_w (eT E) ad w).set (i - sk_k) (ad i, .inl (eT E t, (L.set x.toNatClampNeg v).length, .inl (fun q => (L.set x.toNatClampNeg v).getD q 0))) = _
    rw [List.length_set]
  refine va_iast hx hb hK a7 a8 a9 (i - sk_k) t hat (sk_ty ht) hin hd (fun H1 locs1 b1 b2 b3 => ?_)
  rw [← hset] at b1 b2
  exact h ad H1 locs1 ls (by rw [List.length_set]; exact a1) (sk_oW_set a2 hg trivial) (by rw [List.length_set]; exact a3) (by rw [List.length_set]; exact sk_tail (sk_tail (sk_tail a4))) a5 a6 b1 b2 b3
theorem g_zast (F : sk_F M d kc ks Z) {i t j : Nat} {L : List Int32} {x v : Int32} (hd : decode M.2.1 pc = .ok (.bastore, 1)) (he : w[i]? = some (.inl (t, L))) (ht : sk_tys[t]? = some .boolean) (hin : vp_in x L.length) (hj : x.toNatClampNeg = j) (hv : vp_nar .boolean v = v) (h : Z (w.set i (.inl (t, L.set j v))) (pc + 1) lv st k n) : Z w pc lv (.int v :: .int x :: .ref i :: st) k n := by
  obtain ⟨p, l, e, R, s, m, args, below, meth, c, E, ad0, n0, Q, rfl, ⟨hx, hb, hml, hown, hts, hK, hO, hA, hn0, had, hnm⟩, hR⟩ := F
  intro ad H locs ls a1 a2 a3 a4 a5 a6 a7 a8 a9
  have hg := sk_ge a2 he sk_nd1
  have hat := sk_w_at (tc := eT E) (ad := ad) he hg
  subst hj
  have hset : sk_w (eT E) ad (w.set i (.inl (t, L.set x.toNatClampNeg v))) = (sk_w (eT E) ad w).set (i - sk_k) (ad i, .inl (eT E t, L.length, .inl (upd (fun q => L.getD q 0) x.toNatClampNeg v))) := by
    rw [sk_w_set hg, sk_upd (sk_in hin)]
    show (sk_w (eT E) ad w).set (i - sk_k) (ad i, .inl (eT E t, (L.set x.toNatClampNeg v).length, .inl (fun q => (L.set x.toNatClampNeg v).getD q 0))) = _
    rw [List.length_set]
  refine va_zast hx hb hK a7 a8 a9 (i - sk_k) t hat (sk_ty ht) hin hd (fun H1 locs1 b1 b2 b3 => ?_)
  rw [hv, ← hset] at b1 b2
  exact h ad H1 locs1 ls (by rw [List.length_set]; exact a1) (sk_oW_set a2 hg trivial) (by rw [List.length_set]; exact a3) (by rw [List.length_set]; exact sk_tail (sk_tail (sk_tail a4))) a5 a6 b1 b2 b3
theorem g_aald (F : sk_F M d kc ks Z) {i t j r : Nat} {C : String} {L : List (Option Nat)} {x : Int32} (hd : decode M.2.1 pc = .ok (.aaload, 1)) (he : w[i]? = some (.inr (.inl (t, L)))) (ht : sk_tys[t]? = some (.object C)) (hin : vp_in x L.length) (hj : x.toNatClampNeg = j) (hr : L[j]? = some (some r)) (h : Z w (pc + 1) lv (.ref r :: st) k n) : Z w pc lv (.int x :: .ref i :: st) k n := by
  obtain ⟨p, l, e, R, s, m, args, below, meth, c, E, ad0, n0, Q, rfl, ⟨hx, hb, hml, hown, hts, hK, hO, hA, hn0, had, hnm⟩, hR⟩ := F
  intro ad H locs ls a1 a2 a3 a4 a5 a6 a7 a8 a9
  have hg := sk_ge a2 he sk_nd2
  have hat := sk_w_at (tc := eT E) (ad := ad) he hg
  subst hj
  refine va_aldq hx hb hK a7 (i - sk_k) t hat (sk_ty ht) hin hd ?_
  rw [List.getD_eq_getElem?_getD, hr]
  exact h ad H locs ls a1 a2 a3 (sk_cons (sk_oV_ref (a2.2 _ (List.mem_of_getElem? he) r (List.mem_of_getElem? hr))) (sk_tail (sk_tail a4))) a5 a6 a7 a8 a9
theorem g_aast (F : sk_F M d kc ks Z) {i t j v ci : Nat} {C : String} {T : u_T} {N : Nat} {fs : List Value} {L : List (Option Nat)} {x : Int32} (hd : decode M.2.1 pc = .ok (.aastore, 1)) (he : w[i]? = some (.inr (.inl (t, L)))) (ht : sk_tys[t]? = some (.object C)) (hv : w[v]? = some (.inr (.inr (ci, fs)))) (hc : vwCl[ci]? = some (C, T, N)) (hin : vp_in x L.length) (hj : x.toNatClampNeg = j)
    (h : Z (w.set i (.inr (.inl (t, L.set j (some v))))) (pc + 1) lv st k n) : Z w pc lv (.ref v :: .int x :: .ref i :: st) k n := by
  obtain ⟨p, l, e, R, s, m, args, below, meth, c, E, ad0, n0, Q, rfl, ⟨hx, hb, hml, hown, hts, hK, hO, hA, hn0, had, hnm⟩, hR⟩ := F
  intro ad H locs ls a1 a2 a3 a4 a5 a6 a7 a8 a9
  have hg := sk_ge a2 he sk_nd2
  have hg2 := sk_ge a2 hv (sk_nd hc)
  have hat := sk_w_at (tc := eT E) (ad := ad) he hg
  have hat2 := sk_w_at (tc := eT E) (ad := ad) hv hg2
  subst hj
  have hset : sk_w (eT E) ad (w.set i (.inr (.inl (t, L.set x.toNatClampNeg (some v))))) = (sk_w (eT E) ad w).set (i - sk_k) (ad i, .inl (eT E t, L.length, .inr (.inr (.inr (.inr (va_up (fun q => (L.getD q none).map ad) x.toNatClampNeg (some (ad v)))))))) := by
    rw [sk_w_set hg, show (some (ad v) : Option Nat) = (some v).map ad from rfl, sk_upq (sk_in hin)]
    show (sk_w (eT E) ad w).set (i - sk_k) (ad i, .inl (eT E t, (L.set x.toNatClampNeg (some v)).length, .inr (.inr (.inr (.inr (fun q => ((L.set x.toNatClampNeg (some v)).getD q none).map ad)))))) = _
    rw [List.length_set]
  refine va_astq hx hb hK a7 a8 a9 (i - sk_k) t (v - sk_k) ci (r := (C, T, N)) hat (sk_ty ht) hat2 hc hin hd (fun H1 locs1 b1 b2 b3 => ?_)
  rw [← hset] at b1 b2
  refine h ad H1 locs1 ls (by rw [List.length_set]; exact a1) (sk_oW_set a2 hg ?_) (by rw [List.length_set]; exact a3) (by rw [List.length_set]; exact sk_tail (sk_tail (sk_tail a4))) a5 a6 b1 b2 b3
  intro z hz
  rcases List.mem_or_eq_of_mem_set hz with h9 | h9
  · exact a2.2 _ (List.mem_of_getElem? he) z h9
  · cases h9; exact sk_lt hv
theorem g_alen1 (F : sk_F M d kc ks Z) {i t : Nat} {ty : FieldType} {L : List Int32} (hd : decode M.2.1 pc = .ok (.arraylength, 1)) (he : w[i]? = some (.inl (t, L))) (ht : sk_tys[t]? = some ty) (h : Z w (pc + 1) lv (.int (nI L.length) :: st) k n) : Z w pc lv (.ref i :: st) k n := by
  obtain ⟨p, l, e, R, s, m, args, below, meth, c, E, ad0, n0, Q, rfl, ⟨hx, hb, hml, hown, hts, hK, hO, hA, hn0, had, hnm⟩, hR⟩ := F
  intro ad H locs ls a1 a2 a3 a4 a5 a6 a7 a8 a9
  have hg := sk_ge a2 he sk_nd1
  have hat := sk_w_at (tc := eT E) (ad := ad) he hg
  exact va_alen hx hb hK a7 (i - sk_k) t hat (sk_ty ht) rfl hd (h ad H locs ls a1 a2 a3 (sk_cons sk_oV_int (sk_tail a4)) a5 a6 a7 a8 a9)
theorem g_alen2 (F : sk_F M d kc ks Z) {i t : Nat} {ty : FieldType} {L : List (Option Nat)} (hd : decode M.2.1 pc = .ok (.arraylength, 1)) (he : w[i]? = some (.inr (.inl (t, L)))) (ht : sk_tys[t]? = some ty) (h : Z w (pc + 1) lv (.int (nI L.length) :: st) k n) : Z w pc lv (.ref i :: st) k n := by
  obtain ⟨p, l, e, R, s, m, args, below, meth, c, E, ad0, n0, Q, rfl, ⟨hx, hb, hml, hown, hts, hK, hO, hA, hn0, had, hnm⟩, hR⟩ := F
  intro ad H locs ls a1 a2 a3 a4 a5 a6 a7 a8 a9
  have hg := sk_ge a2 he sk_nd2
  have hat := sk_w_at (tc := eT E) (ad := ad) he hg
  exact va_alen hx hb hK a7 (i - sk_k) t hat (sk_ty ht) rfl hd (h ad H locs ls a1 a2 a3 (sk_cons sk_oV_int (sk_tail a4)) a5 a6 a7 a8 a9)
/-- what a new cell does to the tie between indices and addresses -/
def sk_up (ad : Nat → Nat) (i q : Nat) : Nat → Nat := fun j => if j = i then q else ad j
theorem sk_up_lt {ad : Nat → Nat} {i q j : Nat} (h : j < i) : sk_up ad i q j = ad j := if_neg (by omega)
theorem sk_up_self {ad : Nat → Nat} {i q : Nat} : sk_up ad i q i = q := if_pos rfl
theorem sk_map_up {ad : Nat → Nat} {q N : Nat} {st : List Value} (h : ∀ v ∈ st, sk_oV N v) : st.map (sk_v (sk_up ad N q)) = st.map (sk_v ad) := List.map_congr_left (fun v hv => sk_v_agree (fun i hi => sk_up_lt hi) (h v hv))
theorem sk_l_up {ad : Nat → Nat} {q N : Nat} {lv : List (Nat × Value)} (h : ∀ x ∈ lv, sk_oV N x.2) : sk_l (sk_up ad N q) lv = sk_l ad lv := List.map_congr_left (fun v hv => by rw [sk_v_agree (fun i hi => sk_up_lt hi) (h v hv)])
/-- a new cell, whatever it is: the state goes on with the longer world -/
theorem sk_born {p : Program} {l : Launch} {e : Env} {R : Room} {s : State} {m : MethodId} {args : Array Value} {below : List Frame} {meth : Method} {c : Code} {E : sk_E} {ad0 ad : Nat → Nat} {n0 q : Nat} {Q : State → Prop} {x : sk_C} {pc' k' n' : Nat} {H1 : Heap} {locs : List Loc} {ls : Array Slot} {st' : List Value}
    (h : sk_G p l e R s m args below meth c M.2.2.1 E ad0 n0 Q (w ++ [x]) pc' lv (.ref w.length :: st') k' n') (hx : sk_oC w.length x) (a1 : n0 ≤ w.length) (a2 : sk_oW w) (a3 : ∀ q ∈ lv, sk_oV w.length q.2) (a4 : ∀ v ∈ st', sk_oV w.length v) (a5 : ∀ i, i < n0 → ad i = ad0 i) (a6 : lv_has ls M.2.2.1 (sk_l ad lv))
    (b1 : va_P (eD E) vwCl (sk_w (eT E) ad w ++ [(q, sk_c (eT E) ad x)]) H1) (b2 : va_D (eA E) (sk_w (eT E) ad w ++ [(q, sk_c (eT E) ad x)])) (b3 : va_S (eA E) s.heap H1 locs) :
    W p l e R s m args below meth c H1 locs k' n' Q (F0 m pc' ls (.ref q :: st'.map (sk_v ad))) := by
  have ha : ∀ i, i < w.length → sk_up ad w.length q i = ad i := fun i hi => sk_up_lt hi
  have e1 : sk_w (eT E) (sk_up ad w.length q) (w ++ [x]) = sk_w (eT E) ad w ++ [(q, sk_c (eT E) ad x)] := by
    rw [sk_w_push a2 (sk_oW_len a2) ha, sk_up_self, sk_c_agree ha hx]
  have hlen : (w ++ [x]).length = w.length + 1 := by rw [List.length_append, List.length_singleton]
  have h2 := h (sk_up ad w.length q) H1 locs ls (by rw [hlen]; omega) (sk_oW_push a2 (sk_oC_mono hx (Nat.le_succ _))) (fun z hz => by rw [hlen]; exact sk_oV_mono (a3 z hz) (Nat.le_succ _)) (sk_cons (by rw [hlen]; exact sk_oV_ref (Nat.lt_succ_self _)) (fun v hv => by rw [hlen]; exact sk_oV_mono (a4 v hv) (Nat.le_succ _)))
    (fun i hi => by rw [ha i (by omega)]; exact a5 i hi) (by rw [sk_l_up a3]; exact a6) (by rw [e1]; exact b1) (by rw [e1]; exact b2) b3
  have e2 : (Value.ref w.length :: st').map (sk_v (sk_up ad w.length q)) = .ref q :: st'.map (sk_v ad) := by
    rw [List.map_cons, sk_map_up a4]
    show Value.ref (sk_up ad w.length q w.length) :: _ = _
    rw [sk_up_self]
  rw [e2] at h2
  exact h2
def sk_nw (own : String) (idx ci : Nat) (fs : List Value) : Prop := ∃ (C : String) (T : u_T) (N : Nat) (ty : Nat → FieldType), vwCl[ci]? = some (C, T, N) ∧ (∀ x ∈ u_ws C T N, x ∈ sk_ws) ∧ (∀ k, k < N → parseFieldDescriptor (T k).2.2.1 = some (ty k)) ∧ Cond.classLink own idx C ∈ sk_ws ∧ Cond.instantiable C N ∈ sk_ws ∧ Cond.initialized C ∈ sk_ws ∧ fs.length = N ∧ (∀ j, j < N → defaultValue (ty j) = vp_V fs j) ∧ ∀ v ∈ fs, ∀ i, v ≠ .ref i
theorem g_new (F : sk_F M d kc ks Z) {idx ci : Nat} {fs : List Value} (hd : decode M.2.1 pc = .ok (.new idx, 3)) (hw : sk_nw M.1.cls idx ci fs) (hk : k + 1 ≤ kc) (hn : n + fs.length ≤ ks) (h : Z (w ++ [.inr (.inr (ci, fs))]) (pc + 3) lv (.ref w.length :: st) (k + 1) (n + fs.length)) : Z w pc lv st k n := by
  obtain ⟨p, l, e, R, s, m, args, below, meth, c, E, ad0, n0, Q, rfl, ⟨hx, hb, hml, hown, hts, hK, hO, hA, hn0, had, hnm⟩, hR⟩ := F
  intro ad H locs ls a1 a2 a3 a4 a5 a6 a7 a8 a9
  obtain ⟨C, T, N, ty, h1, h2, h3, h4, h5, h6, h7, h8, h9⟩ := hw
  subst h7
  have e1 : fs.map (sk_v ad) = fs := by
    conv => rhs; rw [← List.map_id fs]
    exact List.map_congr_left (fun v hv => by
      cases v with
      | ref i => exact absurd rfl (h9 _ hv i)
      | _ => rfl)
  refine va_new (fs := fs) hx hb hts h2 ty h3 hown (hts _ h4) (hts _ h5) (hts _ h6) hK a7 a8 a9 hA h1 h8 (Nat.le_trans hk hR.2.1) (Nat.le_trans hn hR.2.2.1) hd (fun q H1 b1 b2 b3 => ?_)
  have e2 : sk_c (eT E) ad (.inr (.inr (ci, fs))) = .inr (ci, fs) := by
    show Sum.inr (ci, fs.map (sk_v ad)) = _
    rw [e1]
  rw [← e2] at b1 b2
  exact sk_born h (fun v hv i e => absurd e (h9 v hv i)) a1 a2 a3 a4 a5 a6 b1 b2 b3
end SKH
