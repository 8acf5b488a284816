
def w_put (w : sk_H) (i ci f : Nat) (v : Value) : Option sk_H := match w[i]? with
  | some (.inr (.inr (c, fs))) => if c = ci ∧ f < fs.length then some (w.set i (.inr (.inr (ci, fs.set f v)))) else none
  | _ => none
theorem w_put_s {w w' : sk_H} {i ci f : Nat} {v : Value} (h : w_put w i ci f v = some w') : ∃ fs, w[i]? = some (.inr (.inr (ci, fs))) ∧ f < fs.length ∧ w' = w.set i (.inr (.inr (ci, fs.set f v))) := by
  unfold w_put at h
  cases hc : w[i]? with
  | none => rw [hc] at h; cases h
  | some x =>
    rw [hc] at h
    rcases x with x | x | ⟨c, fs⟩
    · cases h
    · cases h
    · by_cases h1 : c = ci ∧ f < fs.length
      · have h2 : (if c = ci ∧ f < fs.length then some (w.set i (.inr (.inr (ci, fs.set f v)))) else none) = some w' := h
        rw [if_pos h1] at h2
        obtain ⟨rfl, h3⟩ := h1
        exact ⟨fs, rfl, h3, (Option.some.inj h2).symm⟩
      · have h2 : (if c = ci ∧ f < fs.length then some (w.set i (.inr (.inr (ci, fs.set f v)))) else none) = some w' := h
        rw [if_neg h1] at h2
        cases h2
def w_get (w : sk_H) (i ci f : Nat) : Option Nat := match w[i]? with
  | some (.inr (.inr (c, fs))) => if c = ci then (match fs[f]? with
    | some (.ref r) => some r
    | _ => none) else none
  | _ => none
theorem w_get_s {w : sk_H} {i ci f r : Nat} (h : w_get w i ci f = some r) : ∃ fs, w[i]? = some (.inr (.inr (ci, fs))) ∧ fs[f]? = some (.ref r) := by
  unfold w_get at h
  cases hc : w[i]? with
  | none => rw [hc] at h; cases h
  | some x =>
    rw [hc] at h
    rcases x with x | x | ⟨c, fs⟩
    · cases h
    · cases h
    · by_cases h1 : c = ci
      · subst h1
        have h2 : (if c = c then (match fs[f]? with
          | some (.ref r) => some r
          | _ => none) else none) = some r := h
        rw [if_pos rfl] at h2
        cases hf : fs[f]? with
        | none => rw [hf] at h2; cases h2
        | some y =>
          rw [hf] at h2
          cases y with
          | ref q => cases h2; exact ⟨fs, rfl, hf⟩
          | _ => cases h2
      · have h2 : (if c = ci then (match fs[f]? with
          | some (.ref r) => some r
          | _ => none) else none) = some r := h
        rw [if_neg h1] at h2
        cases h2
def w_ist (w : sk_H) (i j : Nat) (v : Int32) : Option sk_H := match w[i]? with
  | some (.inl (t, L)) => if t = 0 ∧ j < L.length then some (w.set i (.inl (0, L.set j v))) else none
  | _ => none
theorem w_ist_s {w w' : sk_H} {i j : Nat} {v : Int32} (h : w_ist w i j v = some w') : ∃ L, w[i]? = some (.inl (0, L)) ∧ j < L.length ∧ w' = w.set i (.inl (0, L.set j v)) := by
  unfold w_ist at h
  cases hc : w[i]? with
  | none => rw [hc] at h; cases h
  | some x =>
    rw [hc] at h
    rcases x with ⟨t, L⟩ | x | x
    · by_cases h1 : t = 0 ∧ j < L.length
      · have h2 : (if t = 0 ∧ j < L.length then some (w.set i (.inl (0, L.set j v))) else none) = some w' := h
        rw [if_pos h1] at h2
        obtain ⟨rfl, h3⟩ := h1
        exact ⟨L, rfl, h3, (Option.some.inj h2).symm⟩
      · have h2 : (if t = 0 ∧ j < L.length then some (w.set i (.inl (0, L.set j v))) else none) = some w' := h
        rw [if_neg h1] at h2
        cases h2
    · cases h
    · cases h
def w_ast (w : sk_H) (i j v : Nat) : Option sk_H := match w[i]?, w[v]? with
  | some (.inr (.inl (t, L))), some (.inr (.inr (c, _))) => if t = 2 ∧ c = 3 ∧ j < L.length then some (w.set i (.inr (.inl (2, L.set j (some v))))) else none
  | _, _ => none
theorem w_ast_s {w w' : sk_H} {i j v : Nat} (h : w_ast w i j v = some w') : ∃ L fs, w[i]? = some (.inr (.inl (2, L))) ∧ w[v]? = some (.inr (.inr (3, fs))) ∧ j < L.length ∧ w' = w.set i (.inr (.inl (2, L.set j (some v)))) := by
  unfold w_ast at h
  cases hc : w[i]? with
  | none => rw [hc] at h; cases h
  | some x =>
    rw [hc] at h
    cases hv : w[v]? with
    | none => rw [hv] at h; rcases x with x | x | x <;> cases h
    | some y =>
      rw [hv] at h
      rcases x with x | ⟨t, L⟩ | x
      · cases h
      · rcases y with y | y | ⟨c, fs⟩
        · cases h
        · cases h
        · by_cases h1 : t = 2 ∧ c = 3 ∧ j < L.length
          · have h2 : (if t = 2 ∧ c = 3 ∧ j < L.length then some (w.set i (.inr (.inl (2, L.set j (some v))))) else none) = some w' := h
            rw [if_pos h1] at h2
            obtain ⟨rfl, rfl, h3⟩ := h1
            exact ⟨L, fs, rfl, rfl, h3, (Option.some.inj h2).symm⟩
          · have h2 : (if t = 2 ∧ c = 3 ∧ j < L.length then some (w.set i (.inr (.inl (2, L.set j (some v))))) else none) = some w' := h
            rw [if_neg h1] at h2
            cases h2
      · cases h
def w_fil (w : sk_H) (i : Nat) (v : Int32) : Option sk_H := match w[i]? with
  | some (.inl (t, L)) => if t = 0 ∧ L.length < 1000 then some (w.set i (.inl (0, List.replicate L.length v))) else none
  | _ => none
theorem w_fil_s {w w' : sk_H} {i : Nat} {v : Int32} (h : w_fil w i v = some w') : ∃ L, w[i]? = some (.inl (0, L)) ∧ L.length < 1000 ∧ w' = w.set i (.inl (0, List.replicate L.length v)) := by
  unfold w_fil at h
  cases hc : w[i]? with
  | none => rw [hc] at h; cases h
  | some x =>
    rw [hc] at h
    rcases x with ⟨t, L⟩ | x | x
    · by_cases h1 : t = 0 ∧ L.length < 1000
      · have h2 : (if t = 0 ∧ L.length < 1000 then some (w.set i (.inl (0, List.replicate L.length v))) else none) = some w' := h
        rw [if_pos h1] at h2
        obtain ⟨rfl, h3⟩ := h1
        exact ⟨L, rfl, h3, (Option.some.inj h2).symm⟩
      · have h2 : (if t = 0 ∧ L.length < 1000 then some (w.set i (.inl (0, List.replicate L.length v))) else none) = some w' := h
        rw [if_neg h1] at h2
        cases h2
    · cases h
    · cases h
def PoW (w' : sk_H) : Option Value → sk_H → Prop := fun r w0 => r = none ∧ w0 = w'
theorem k_fill {w : sk_H} {i : Nat} {v : Int32} {L : List Int32} (he : w[i]? = some (.inl (0, L))) (hL : L.length < 1000) : Ct M_JArr_fill 0 0 0 w [.ref i, .int v] (PoW (w.set i (.inl (0, List.replicate L.length v)))) := by
  refine Ct.of (by decide +kernel) (Nat.le_of_ble_eq_true rfl) (fun Z T => ?_)
  have F := T.F
  show Z w 0 [(0, .ref i), (1, .int v)] [] 0 0
  have loop : ∀ n j : Nat, j + n = L.length → Z (w.set i (.inl (0, List.replicate j v ++ L.drop j))) 5 [(0, .ref i), (1, .int v), (2, .int (nI j)), (3, .int (nI L.length))] [] 0 0 := by
    intro n
    induction n with
    | zero =>
      intro j hj
      have e1 : j = L.length := by omega
      subst e1
      rw [List.drop_length, List.append_nil]
      refine g_iload_n F (pc := 5) d_JArr_fill_5 2 rfl (g_iload_n F (pc := 6) d_JArr_fill_6 3 rfl (g_icmp_ge (tgt := 20) F (pc := 7) d_JArr_fill_7 (by decide) (fun _ => ?_) (fun h => absurd (nI_le (Nat.le_refl _) (by omega)) h)))
      exact g_vret T (pc := 20) d_JArr_fill_20 rfl (Nat.le_refl _) (Nat.le_refl _) ⟨rfl, rfl⟩
    | succ n ih =>
      intro j hj
      have hi : i < w.length := (List.getElem?_eq_some_iff.mp he).1
      have he' : (w.set i (.inl (0, List.replicate j v ++ L.drop j)))[i]? = some (.inl (0, List.replicate j v ++ L.drop j)) := List.getElem?_set_self hi
      have hlen : (List.replicate j v ++ L.drop j).length = L.length := by rw [List.length_append, List.length_replicate, List.length_drop]; omega
      refine g_iload_n F (pc := 5) d_JArr_fill_5 2 rfl (g_iload_n F (pc := 6) d_JArr_fill_6 3 rfl (g_icmp_ge (tgt := 20) F (pc := 7) d_JArr_fill_7 (by decide) (fun h => absurd h (nI_ge (by omega) (by omega))) (fun _ => ?_)))
      refine g_aload_n F (pc := 10) d_JArr_fill_10 0 rfl (g_iload_n F (pc := 11) d_JArr_fill_11 2 rfl (g_iload_n F (pc := 12) d_JArr_fill_12 1 rfl (g_iast F (pc := 13) d_JArr_fill_13 he' rfl (by rw [hlen]; exact vp_in_nI (by omega) (by omega)) (nI_clamp (by omega)) ?_)))
      rw [List.set_set]
      refine g_iinc (v := nI (j + 1)) (lv' := [(2, .int (nI (j + 1))), (0, .ref i), (1, .int v), (3, .int (nI L.length))]) F (pc := 14) d_JArr_fill_14 2 rfl (by rw [nI_succ]; rfl) (by decide) rfl (g_goto (tgt := 5) F (pc := 17) d_JArr_fill_17 (by decide) (g_lv (lv' := [(0, .ref i), (1, .int v), (2, .int (nI (j + 1))), (3, .int (nI L.length))]) F [1, 2, 0, 3] rfl ?_))
      have e2 : (List.replicate j v ++ L.drop j).set j v = List.replicate (j + 1) v ++ L.drop (j + 1) := by
        apply List.ext_getElem?
        intro a
        rw [List.getElem?_set, hlen]
        by_cases h1 : j = a
        · subst h1
          rw [if_pos rfl, if_pos (by omega), List.getElem?_append_left (by rw [List.length_replicate]; omega), List.getElem?_replicate, if_pos (by omega)]
        · rw [if_neg h1]
          by_cases h2 : a < j
          · rw [List.getElem?_append_left (by rw [List.length_replicate]; omega), List.getElem?_append_left (by rw [List.length_replicate]; omega), List.getElem?_replicate, List.getElem?_replicate, if_pos h2, if_pos (by omega)]
          · rw [List.getElem?_append_right (by rw [List.length_replicate]; omega), List.getElem?_append_right (by rw [List.length_replicate]; omega), List.length_replicate, List.length_replicate, List.getElem?_drop, List.getElem?_drop, show j + (a - j) = j + 1 + (a - (j + 1)) by omega]
      rw [e2]
      exact ih (j + 1) (by omega)
  have h0 := loop L.length 0 (by omega)
  rw [List.drop_zero, List.replicate_zero, List.nil_append] at h0
  have e3 : w.set i (.inl (0, L)) = w := by
    apply List.ext_getElem?
    intro a
    by_cases ha : i = a
    · subst ha; rw [List.getElem?_set_self (List.getElem?_eq_some_iff.mp he).1, he]
    · rw [List.getElem?_set_ne ha]
  rw [e3] at h0
  refine g_iconst (v := nI 0) F (pc := 0) d_JArr_fill_0 (by decide) (g_istore_n (lv' := [(2, .int (nI 0)), (0, .ref i), (1, .int v)]) F (pc := 1) d_JArr_fill_1 (by decide) rfl (g_aload_n F (pc := 2) d_JArr_fill_2 1 rfl (g_alen1 (ty := .int) F (pc := 3) d_JArr_fill_3 he rfl (g_istore_n (lv' := [(3, .int (nI L.length)), (2, .int (nI 0)), (0, .ref i), (1, .int v)]) F (pc := 4) d_JArr_fill_4 (by decide) rfl (g_lv (lv' := [(0, .ref i), (1, .int v), (2, .int (nI 0)), (3, .int (nI L.length))]) F [2, 3, 1, 0] rfl ?_)))))
  exact h0

theorem nw_P_9 : sk_nw "PackShelf" 9 4 [.null, .int 0, .null, .null, .null, .int 0] := ⟨R_Store, F_Store, 6, t_Store, rfl, uw_Store, t_Store_ok, wi 82 (by decide +kernel) rfl, wi 83 (by decide +kernel) rfl, wi 58 (by decide +kernel) rfl, rfl, by decide +kernel, by intro v hv i e; subst e; simp at hv⟩
theorem nq_P_9 : Cond.classLink "PackShelf" 9 "PackShelf$Store" ∈ sk_ws := wi 82 (by decide +kernel) rfl
theorem nw_P_16 : sk_nw "PackShelf" 16 1 [.null, .int 0] := ⟨R_Row, F_Row, 2, t_Row, rfl, uw_Row, t_Row_ok, wi 169 (by decide +kernel) rfl, wi 96 (by decide +kernel) rfl, wi 60 (by decide +kernel) rfl, rfl, by decide +kernel, by intro v hv i e; subst e; simp at hv⟩
theorem nq_P_16 : Cond.classLink "PackShelf" 16 "PackShelf$Row" ∈ sk_ws := wi 169 (by decide +kernel) rfl
theorem nw_P_42 : sk_nw "PackShelf" 42 2 [.null, .null, .null, .int 0] := ⟨R_Sum, F_Sum, 4, t_Sum, rfl, uw_Sum, t_Sum_ok, wi 172 (by decide +kernel) rfl, wi 173 (by decide +kernel) rfl, wi 62 (by decide +kernel) rfl, rfl, by decide +kernel, by intro v hv i e; subst e; simp at hv⟩
theorem nq_P_42 : Cond.classLink "PackShelf" 42 "PackShelf$Sum" ∈ sk_ws := wi 172 (by decide +kernel) rfl
theorem nw_P_49 : sk_nw "PackShelf" 49 3 [.int 0, .null, .null] := ⟨R_Thing, F_Thing, 3, t_Thing, rfl, uw_Thing, t_Thing_ok, wi 194 (by decide +kernel) rfl, wi 90 (by decide +kernel) rfl, wi 59 (by decide +kernel) rfl, rfl, by decide +kernel, by intro v hv i e; subst e; simp at hv⟩
theorem nq_P_49 : Cond.classLink "PackShelf" 49 "PackShelf$Thing" ∈ sk_ws := wi 194 (by decide +kernel) rfl
theorem nw_P_56 : sk_nw "PackShelf" 56 5 [.null, .null, .int 0, .int 0] := ⟨R_Wri, F_Wri, 4, t_Wri, rfl, uw_Wri, t_Wri_ok, wi 196 (by decide +kernel) rfl, wi 197 (by decide +kernel) rfl, wi 63 (by decide +kernel) rfl, rfl, by decide +kernel, by intro v hv i e; subst e; simp at hv⟩
theorem nq_P_56 : Cond.classLink "PackShelf" 56 "PackShelf$Writer" ∈ sk_ws := wi 196 (by decide +kernel) rfl
theorem nw_P_63 : sk_nw "PackShelf" 63 6 [.null, .int 0, .null, .null, .null, .int 0, .int 0] := ⟨R_Rea, F_Rea, 7, t_Rea, rfl, uw_Rea, t_Rea_ok, wi 217 (by decide +kernel) rfl, wi 218 (by decide +kernel) rfl, wi 64 (by decide +kernel) rfl, rfl, by decide +kernel, by intro v hv i e; subst e; simp at hv⟩
theorem nq_P_63 : Cond.classLink "PackShelf" 63 "PackShelf$Reader" ∈ sk_ws := wi 217 (by decide +kernel) rfl
theorem nw_Rea_9 : sk_nw "PackShelf$Reader" 9 3 [.int 0, .null, .null] := ⟨R_Thing, F_Thing, 3, t_Thing, rfl, uw_Thing, t_Thing_ok, wi 223 (by decide +kernel) rfl, wi 90 (by decide +kernel) rfl, wi 59 (by decide +kernel) rfl, rfl, by decide +kernel, by intro v hv i e; subst e; simp at hv⟩
theorem nq_Rea_9 : Cond.classLink "PackShelf$Reader" 9 "PackShelf$Thing" ∈ sk_ws := wi 223 (by decide +kernel) rfl
theorem nw_Rea_26 : sk_nw "PackShelf$Reader" 26 1 [.null, .int 0] := ⟨R_Row, F_Row, 2, t_Row, rfl, uw_Row, t_Row_ok, wi 225 (by decide +kernel) rfl, wi 96 (by decide +kernel) rfl, wi 60 (by decide +kernel) rfl, rfl, by decide +kernel, by intro v hv i e; subst e; simp at hv⟩
theorem nq_Rea_26 : Cond.classLink "PackShelf$Reader" 26 "PackShelf$Row" ∈ sk_ws := wi 225 (by decide +kernel) rfl
theorem nw_Store_9 : sk_nw "PackShelf$Store" 9 3 [.int 0, .null, .null] := ⟨R_Thing, F_Thing, 3, t_Thing, rfl, uw_Thing, t_Thing_ok, wi 88 (by decide +kernel) rfl, wi 90 (by decide +kernel) rfl, wi 59 (by decide +kernel) rfl, rfl, by decide +kernel, by intro v hv i e; subst e; simp at hv⟩
theorem nq_Store_9 : Cond.classLink "PackShelf$Store" 9 "PackShelf$Thing" ∈ sk_ws := wi 88 (by decide +kernel) rfl
theorem nw_Sum_18 : sk_nw "PackShelf$Sum" 18 1 [.null, .int 0] := ⟨R_Row, F_Row, 2, t_Row, rfl, uw_Row, t_Row_ok, wi 178 (by decide +kernel) rfl, wi 96 (by decide +kernel) rfl, wi 60 (by decide +kernel) rfl, rfl, by decide +kernel, by intro v hv i e; subst e; simp at hv⟩
theorem nq_Sum_18 : Cond.classLink "PackShelf$Sum" 18 "PackShelf$Row" ∈ sk_ws := wi 178 (by decide +kernel) rfl
theorem nw_Thing_15 : sk_nw "PackShelf$Thing" 15 1 [.null, .int 0] := ⟨R_Row, F_Row, 2, t_Row, rfl, uw_Row, t_Row_ok, wi 95 (by decide +kernel) rfl, wi 96 (by decide +kernel) rfl, wi 60 (by decide +kernel) rfl, rfl, by decide +kernel, by intro v hv i e; subst e; simp at hv⟩
theorem nq_Thing_15 : Cond.classLink "PackShelf$Thing" 15 "PackShelf$Row" ∈ sk_ws := wi 95 (by decide +kernel) rfl
theorem nw_Wri_9 : sk_nw "PackShelf$Writer" 9 1 [.null, .int 0] := ⟨R_Row, F_Row, 2, t_Row, rfl, uw_Row, t_Row_ok, wi 202 (by decide +kernel) rfl, wi 96 (by decide +kernel) rfl, wi 60 (by decide +kernel) rfl, rfl, by decide +kernel, by intro v hv i e; subst e; simp at hv⟩
theorem nq_Wri_9 : Cond.classLink "PackShelf$Writer" 9 "PackShelf$Row" ∈ sk_ws := wi 202 (by decide +kernel) rfl
theorem nw_Lw_7 : sk_nw "PackShelfLaw" 7 0 [.null, .null, .null, .int 0, .null, .null, .null, .null, .null] := ⟨R_P, F_P, 9, t_P, rfl, uw_P, t_P_ok, wi 74 (by decide +kernel) rfl, wi 75 (by decide +kernel) rfl, wi 57 (by decide +kernel) rfl, rfl, by decide +kernel, by intro v hv i e; subst e; simp at hv⟩
theorem nq_Lw_7 : Cond.classLink "PackShelfLaw" 7 "PackShelf" ∈ sk_ws := wi 74 (by decide +kernel) rfl
theorem nw_Lw_10 : sk_nw "PackShelfLaw" 10 7 [.int 0, .null, .null, .null, .null, .null, .null, .int 0, .null, .int 0, .null, .null, .null, .int 0, .null, .null, .null, .int 0, .null, .null, .int 0, .int 0, .int 0, .int 0, .null] := ⟨R_Mo, F_Mo, 25, t_Mo, rfl, uw_Mo, t_Mo_ok, wi 711 (by decide +kernel) rfl, wi 712 (by decide +kernel) rfl, wi 65 (by decide +kernel) rfl, rfl, by decide +kernel, by intro v hv i e; subst e; simp at hv⟩
theorem nq_Lw_10 : Cond.classLink "PackShelfLaw" 10 "PackShelfModel" ∈ sk_ws := wi 711 (by decide +kernel) rfl
theorem na_int : Cond.arrayClass .int ∈ sk_ws := wi 118 (by decide +kernel) rfl
theorem na_boolean : Cond.arrayClass .boolean ∈ sk_ws := wi 168 (by decide +kernel) rfl
theorem oi_2 : Cond.instanceMethod Lib.objectInit ∈ sk_ws := wi 80 (by decide +kernel) rfl
theorem oi_3 : Cond.code Lib.objectInit ⟨#[0xb1]⟩ 1 none ∈ sk_ws := wi 81 (by decide +kernel) rfl
theorem nb_int : ∀ (U : State) (q : ClassId), va_RA U q .int → U.vm.findClass ("[" ++ FieldType.int.toString) = some q := fun _ _ h => h
theorem nb_boolean : ∀ (U : State) (q : ClassId), va_RA U q .boolean → U.vm.findClass ("[" ++ FieldType.boolean.toString) = some q := fun _ _ h => h
theorem nz_int {N : Nat} (h : N < 100000) : N * componentBytes .int ≤ 536870912 := by show N * 4 ≤ 536870912; omega
theorem vq_in {j : Nat} {x : Int32} {N : Nat} (h : j < N) (hx : ¬ x < 0 ∧ x.toNatClampNeg = j) : vp_in x N := by intro h1; rcases h1 with h1 | h1; exact hx.1 h1; omega
theorem PoW.el {w' : sk_H} {P : Option Value → sk_H → Prop} {r : Option Value} {w : sk_H} (h : PoW w' r w) (f : P none w') : P r w := by
  obtain ⟨h1, h2⟩ := h
  rw [h1, h2]
  exact f
theorem d_Row_init_0 : decode M_Row_init.2.1 0 = .ok (.aload_n 0, 1) := by decide +kernel
theorem d_Row_init_1 : decode M_Row_init.2.1 1 = .ok (.invokespecial 3, 3) := by decide +kernel
theorem d_Row_init_4 : decode M_Row_init.2.1 4 = .ok (.aload_n 0, 1) := by decide +kernel
theorem d_Row_init_5 : decode M_Row_init.2.1 5 = .ok (.iload_n 1, 1) := by decide +kernel
theorem d_Row_init_6 : decode M_Row_init.2.1 6 = .ok (.newarray .int, 2) := by decide +kernel
theorem d_Row_init_8 : decode M_Row_init.2.1 8 = .ok (.putfield 9, 3) := by decide +kernel
theorem d_Row_init_11 : decode M_Row_init.2.1 11 = .ok (.aload_n 0, 1) := by decide +kernel
theorem d_Row_init_12 : decode M_Row_init.2.1 12 = .ok (.iconst 0, 1) := by decide +kernel
theorem d_Row_init_13 : decode M_Row_init.2.1 13 = .ok (.putfield 15, 3) := by decide +kernel
theorem d_Row_init_16 : decode M_Row_init.2.1 16 = .ok (.return_, 1) := by decide +kernel
def x_Row_init (i : Nat) (N : Nat) (w : sk_H) : Option sk_H :=
  (some (w ++ [.inl (0, List.replicate N 0)])).bind fun w1 =>
  (w_put w1 i 1 0 (.ref w.length)).bind fun w2 =>
  (w_put w2 i 1 1 (.int 0)).bind fun w3 =>
  some w3
theorem k_Row_init {i : Nat} {N : Nat} (hN : N < 100000) {w w' : sk_H} (h : x_Row_init i N w = some w') : Ct M_Row_init 1 1 N w [.ref i, .int (nI N)] (PoW w') := by
  refine Ct.of (by decide +kernel) (Nat.le_of_ble_eq_true rfl) (fun Z T => ?_)
  have F := T.F
  unfold x_Row_init at h
  show Z w 0 [(0, .ref i), (1, .int (nI N))] [] 0 0
  refine g_aload_n F (pc := 0) d_Row_init_0 0 rfl (g_objInit F (pc := 1) d_Row_init_1 ml_Row_3 oi_2 oi_3 (by decide) (g_aload_n F (pc := 4) d_Row_init_4 0 rfl (g_iload_n F (pc := 5) d_Row_init_5 1 rfl (g_newa (t := 0) (N := N) F (pc := 6) d_Row_init_6 rfl na_int rfl rfl nb_int (nI_pos (by omega)) (nI_clamp (by omega)) (nz_int hN) (by omega) (by omega) ?_))))
  obtain ⟨w1, ew1, h⟩ := Option.bind_eq_some_iff.mp h
  rw [Option.some.inj ew1]
  obtain ⟨w2, ew2, h⟩ := Option.bind_eq_some_iff.mp h
  obtain ⟨fsw2, pw2, qw2, rw2⟩ := w_put_s ew2
  refine g_put F (pc := 8) d_Row_init_8 cl_1 (pf_Row_9 _ rfl rfl) pw2 qw2 (fun _ => rfl) (fun _ => rfl) ?_
  rw [← rw2]
  refine g_aload_n F (pc := 11) d_Row_init_11 0 rfl (g_iconst (v := 0) F (pc := 12) d_Row_init_12 (by decide) ?_)
  obtain ⟨w3, ew3, h⟩ := Option.bind_eq_some_iff.mp h
  obtain ⟨fsw3, pw3, qw3, rw3⟩ := w_put_s ew3
  refine g_put F (pc := 13) d_Row_init_13 cl_1 (sk_fp_of pi_Row_15.2.1) pw3 qw3 (fun _ => rfl) (fun _ => rfl) ?_
  rw [← rw3]
  rw [Option.some.inj h]
  exact g_vret T (pc := 16) d_Row_init_16 rfl (by omega) (by omega) ⟨rfl, rfl⟩
theorem d_Thing_init_0 : decode M_Thing_init.2.1 0 = .ok (.aload_n 0, 1) := by decide +kernel
theorem d_Thing_init_1 : decode M_Thing_init.2.1 1 = .ok (.invokespecial 3, 3) := by decide +kernel
theorem d_Thing_init_4 : decode M_Thing_init.2.1 4 = .ok (.aload_n 0, 1) := by decide +kernel
theorem d_Thing_init_5 : decode M_Thing_init.2.1 5 = .ok (.iconst 3, 1) := by decide +kernel
theorem d_Thing_init_6 : decode M_Thing_init.2.1 6 = .ok (.putfield 9, 3) := by decide +kernel
theorem d_Thing_init_9 : decode M_Thing_init.2.1 9 = .ok (.aload_n 0, 1) := by decide +kernel
theorem d_Thing_init_10 : decode M_Thing_init.2.1 10 = .ok (.new 15, 3) := by decide +kernel
theorem d_Thing_init_13 : decode M_Thing_init.2.1 13 = .ok (.dup, 1) := by decide +kernel
theorem d_Thing_init_14 : decode M_Thing_init.2.1 14 = .ok (.bipush 120, 2) := by decide +kernel
theorem d_Thing_init_16 : decode M_Thing_init.2.1 16 = .ok (.invokespecial 17, 3) := by decide +kernel
theorem d_Thing_init_19 : decode M_Thing_init.2.1 19 = .ok (.putfield 20, 3) := by decide +kernel
theorem d_Thing_init_22 : decode M_Thing_init.2.1 22 = .ok (.aload_n 0, 1) := by decide +kernel
theorem d_Thing_init_23 : decode M_Thing_init.2.1 23 = .ok (.iconst 5, 1) := by decide +kernel
theorem d_Thing_init_24 : decode M_Thing_init.2.1 24 = .ok (.newarray .int, 2) := by decide +kernel
theorem d_Thing_init_26 : decode M_Thing_init.2.1 26 = .ok (.putfield 24, 3) := by decide +kernel
theorem d_Thing_init_29 : decode M_Thing_init.2.1 29 = .ok (.return_, 1) := by decide +kernel
def x_Thing_init (i : Nat) (w : sk_H) : Option sk_H :=
  (w_put w i 3 0 (.int 3)).bind fun w1 =>
  (some (w1 ++ [.inr (.inr (1, [.null, .int 0]))])).bind fun w2 =>
  (x_Row_init (w1.length) 120 w2).bind fun w3 =>
  (w_put w3 i 3 1 (.ref w1.length)).bind fun w4 =>
  (some (w4 ++ [.inl (0, List.replicate 5 0)])).bind fun w5 =>
  (w_put w5 i 3 2 (.ref w4.length)).bind fun w6 =>
  some w6
theorem k_Thing_init {i : Nat} {w w' : sk_H} (h : x_Thing_init i w = some w') : Ct M_Thing_init 2 3 127 w [.ref i] (PoW w') := by
  refine Ct.of (by decide +kernel) (Nat.le_of_ble_eq_true rfl) (fun Z T => ?_)
  have F := T.F
  unfold x_Thing_init at h
  show Z w 0 [(0, .ref i)] [] 0 0
  refine g_aload_n F (pc := 0) d_Thing_init_0 0 rfl (g_objInit F (pc := 1) d_Thing_init_1 ml_Thing_3 oi_2 oi_3 (by decide) (g_aload_n F (pc := 4) d_Thing_init_4 0 rfl (g_iconst (v := 3) F (pc := 5) d_Thing_init_5 (by decide) ?_)))
  obtain ⟨w1, ew1, h⟩ := Option.bind_eq_some_iff.mp h
  obtain ⟨fsw1, pw1, qw1, rw1⟩ := w_put_s ew1
  refine g_put F (pc := 6) d_Thing_init_6 cl_3 (sk_fp_of pi_Thing_9.2.1) pw1 qw1 (fun _ => rfl) (fun _ => rfl) ?_
  rw [← rw1]
  refine g_aload_n F (pc := 9) d_Thing_init_9 0 rfl (g_new F (pc := 10) d_Thing_init_10 nw_Thing_15 (Nat.le_of_ble_eq_true rfl) (Nat.le_of_ble_eq_true rfl) ?_)
  obtain ⟨w2, ew2, h⟩ := Option.bind_eq_some_iff.mp h
  rw [Option.some.inj ew2]
  refine g_dup F (pc := 13) d_Thing_init_13 rfl (g_bipush (v := 120) F (pc := 14) d_Thing_init_14 (by decide) ?_)
  obtain ⟨w3, ew3, h⟩ := Option.bind_eq_some_iff.mp h
  refine g_callI (b := w1.length) (As := [.int (nI 120)]) (st := [.ref w1.length, .ref i]) F (pc := 16) d_Thing_init_16 cb_Thing_17 iv_Row_init np_Row_init (k_Row_init (N := 120) (by decide) ew3) rfl (by decide) (Nat.le_of_ble_eq_true rfl) (Nat.le_of_ble_eq_true rfl) (Nat.le_of_ble_eq_true rfl) (fun r9 w9 h9 _ => PoW.el (P := fun r w' => Z w' 19 [(0, .ref i)] (r.toList ++ [.ref w1.length, .ref i]) _ _) h9 ?_)
  obtain ⟨w4, ew4, h⟩ := Option.bind_eq_some_iff.mp h
  obtain ⟨fsw4, pw4, qw4, rw4⟩ := w_put_s ew4
  refine g_put F (pc := 19) d_Thing_init_19 cl_3 (pf_Thing_20 _ rfl rfl) pw4 qw4 (fun _ => rfl) (fun _ => rfl) ?_
  rw [← rw4]
  refine g_aload_n F (pc := 22) d_Thing_init_22 0 rfl (g_iconst (v := 5) F (pc := 23) d_Thing_init_23 (by decide) (g_newa (t := 0) (N := 5) F (pc := 24) d_Thing_init_24 rfl na_int rfl rfl nb_int (by decide) (by decide) (by decide) (Nat.le_of_ble_eq_true rfl) (Nat.le_of_ble_eq_true rfl) ?_))
  obtain ⟨w5, ew5, h⟩ := Option.bind_eq_some_iff.mp h
  rw [Option.some.inj ew5]
  obtain ⟨w6, ew6, h⟩ := Option.bind_eq_some_iff.mp h
  obtain ⟨fsw6, pw6, qw6, rw6⟩ := w_put_s ew6
  refine g_put F (pc := 26) d_Thing_init_26 cl_3 (pf_Thing_24 _ rfl rfl) pw6 qw6 (fun _ => rfl) (fun _ => rfl) ?_
  rw [← rw6]
  rw [Option.some.inj h]
  exact g_vret T (pc := 29) d_Thing_init_29 rfl (Nat.le_of_ble_eq_true rfl) (Nat.le_of_ble_eq_true rfl) ⟨rfl, rfl⟩
theorem d_Sum_init_0 : decode M_Sum_init.2.1 0 = .ok (.aload_n 0, 1) := by decide +kernel
theorem d_Sum_init_1 : decode M_Sum_init.2.1 1 = .ok (.invokespecial 3, 3) := by decide +kernel
theorem d_Sum_init_4 : decode M_Sum_init.2.1 4 = .ok (.aload_n 0, 1) := by decide +kernel
theorem d_Sum_init_5 : decode M_Sum_init.2.1 5 = .ok (.iconst 5, 1) := by decide +kernel
theorem d_Sum_init_6 : decode M_Sum_init.2.1 6 = .ok (.newarray .int, 2) := by decide +kernel
theorem d_Sum_init_8 : decode M_Sum_init.2.1 8 = .ok (.putfield 9, 3) := by decide +kernel
theorem d_Sum_init_11 : decode M_Sum_init.2.1 11 = .ok (.aload_n 0, 1) := by decide +kernel
theorem d_Sum_init_12 : decode M_Sum_init.2.1 12 = .ok (.bipush 80, 2) := by decide +kernel
theorem d_Sum_init_14 : decode M_Sum_init.2.1 14 = .ok (.newarray .int, 2) := by decide +kernel
theorem d_Sum_init_16 : decode M_Sum_init.2.1 16 = .ok (.putfield 15, 3) := by decide +kernel
theorem d_Sum_init_19 : decode M_Sum_init.2.1 19 = .ok (.aload_n 0, 1) := by decide +kernel
theorem d_Sum_init_20 : decode M_Sum_init.2.1 20 = .ok (.new 18, 3) := by decide +kernel
theorem d_Sum_init_23 : decode M_Sum_init.2.1 23 = .ok (.dup, 1) := by decide +kernel
theorem d_Sum_init_24 : decode M_Sum_init.2.1 24 = .ok (.bipush 11, 2) := by decide +kernel
theorem d_Sum_init_26 : decode M_Sum_init.2.1 26 = .ok (.invokespecial 20, 3) := by decide +kernel
theorem d_Sum_init_29 : decode M_Sum_init.2.1 29 = .ok (.putfield 23, 3) := by decide +kernel
theorem d_Sum_init_32 : decode M_Sum_init.2.1 32 = .ok (.aload_n 0, 1) := by decide +kernel
theorem d_Sum_init_33 : decode M_Sum_init.2.1 33 = .ok (.iconst 0, 1) := by decide +kernel
theorem d_Sum_init_34 : decode M_Sum_init.2.1 34 = .ok (.putfield 27, 3) := by decide +kernel
theorem d_Sum_init_37 : decode M_Sum_init.2.1 37 = .ok (.return_, 1) := by decide +kernel
def x_Sum_init (i : Nat) (w : sk_H) : Option sk_H :=
  (some (w ++ [.inl (0, List.replicate 5 0)])).bind fun w1 =>
  (w_put w1 i 2 0 (.ref w.length)).bind fun w2 =>
  (some (w2 ++ [.inl (0, List.replicate 80 0)])).bind fun w3 =>
  (w_put w3 i 2 1 (.ref w2.length)).bind fun w4 =>
  (some (w4 ++ [.inr (.inr (1, [.null, .int 0]))])).bind fun w5 =>
  (x_Row_init (w4.length) 11 w5).bind fun w6 =>
  (w_put w6 i 2 2 (.ref w4.length)).bind fun w7 =>
  (w_put w7 i 2 3 (.int 0)).bind fun w8 =>
  some w8
theorem k_Sum_init {i : Nat} {w w' : sk_H} (h : x_Sum_init i w = some w') : Ct M_Sum_init 2 4 98 w [.ref i] (PoW w') := by
  refine Ct.of (by decide +kernel) (Nat.le_of_ble_eq_true rfl) (fun Z T => ?_)
  have F := T.F
  unfold x_Sum_init at h
  show Z w 0 [(0, .ref i)] [] 0 0
  refine g_aload_n F (pc := 0) d_Sum_init_0 0 rfl (g_objInit F (pc := 1) d_Sum_init_1 ml_Sum_3 oi_2 oi_3 (by decide) (g_aload_n F (pc := 4) d_Sum_init_4 0 rfl (g_iconst (v := 5) F (pc := 5) d_Sum_init_5 (by decide) (g_newa (t := 0) (N := 5) F (pc := 6) d_Sum_init_6 rfl na_int rfl rfl nb_int (by decide) (by decide) (by decide) (Nat.le_of_ble_eq_true rfl) (Nat.le_of_ble_eq_true rfl) ?_))))
  obtain ⟨w1, ew1, h⟩ := Option.bind_eq_some_iff.mp h
  rw [Option.some.inj ew1]
  obtain ⟨w2, ew2, h⟩ := Option.bind_eq_some_iff.mp h
  obtain ⟨fsw2, pw2, qw2, rw2⟩ := w_put_s ew2
  refine g_put F (pc := 8) d_Sum_init_8 cl_2 (pf_Sum_9 _ rfl rfl) pw2 qw2 (fun _ => rfl) (fun _ => rfl) ?_
  rw [← rw2]
  refine g_aload_n F (pc := 11) d_Sum_init_11 0 rfl (g_bipush (v := 80) F (pc := 12) d_Sum_init_12 (by decide) (g_newa (t := 0) (N := 80) F (pc := 14) d_Sum_init_14 rfl na_int rfl rfl nb_int (by decide) (by decide) (by decide) (Nat.le_of_ble_eq_true rfl) (Nat.le_of_ble_eq_true rfl) ?_))
  obtain ⟨w3, ew3, h⟩ := Option.bind_eq_some_iff.mp h
  rw [Option.some.inj ew3]
  obtain ⟨w4, ew4, h⟩ := Option.bind_eq_some_iff.mp h
  obtain ⟨fsw4, pw4, qw4, rw4⟩ := w_put_s ew4
  refine g_put F (pc := 16) d_Sum_init_16 cl_2 (pf_Sum_15 _ rfl rfl) pw4 qw4 (fun _ => rfl) (fun _ => rfl) ?_
  rw [← rw4]
  refine g_aload_n F (pc := 19) d_Sum_init_19 0 rfl (g_new F (pc := 20) d_Sum_init_20 nw_Sum_18 (Nat.le_of_ble_eq_true rfl) (Nat.le_of_ble_eq_true rfl) ?_)
  obtain ⟨w5, ew5, h⟩ := Option.bind_eq_some_iff.mp h
  rw [Option.some.inj ew5]
  refine g_dup F (pc := 23) d_Sum_init_23 rfl (g_bipush (v := 11) F (pc := 24) d_Sum_init_24 (by decide) ?_)
  obtain ⟨w6, ew6, h⟩ := Option.bind_eq_some_iff.mp h
  refine g_callI (b := w4.length) (As := [.int (nI 11)]) (st := [.ref w4.length, .ref i]) F (pc := 26) d_Sum_init_26 cb_Sum_20 iv_Row_init np_Row_init (k_Row_init (N := 11) (by decide) ew6) rfl (by decide) (Nat.le_of_ble_eq_true rfl) (Nat.le_of_ble_eq_true rfl) (Nat.le_of_ble_eq_true rfl) (fun r9 w9 h9 _ => PoW.el (P := fun r w' => Z w' 29 [(0, .ref i)] (r.toList ++ [.ref w4.length, .ref i]) _ _) h9 ?_)
  obtain ⟨w7, ew7, h⟩ := Option.bind_eq_some_iff.mp h
  obtain ⟨fsw7, pw7, qw7, rw7⟩ := w_put_s ew7
  refine g_put F (pc := 29) d_Sum_init_29 cl_2 (pf_Sum_23 _ rfl rfl) pw7 qw7 (fun _ => rfl) (fun _ => rfl) ?_
  rw [← rw7]
  refine g_aload_n F (pc := 32) d_Sum_init_32 0 rfl (g_iconst (v := 0) F (pc := 33) d_Sum_init_33 (by decide) ?_)
  obtain ⟨w8, ew8, h⟩ := Option.bind_eq_some_iff.mp h
  obtain ⟨fsw8, pw8, qw8, rw8⟩ := w_put_s ew8
  refine g_put F (pc := 34) d_Sum_init_34 cl_2 (sk_fp_of pi_Sum_27.2.1) pw8 qw8 (fun _ => rfl) (fun _ => rfl) ?_
  rw [← rw8]
  rw [Option.some.inj h]
  exact g_vret T (pc := 37) d_Sum_init_37 rfl (Nat.le_of_ble_eq_true rfl) (Nat.le_of_ble_eq_true rfl) ⟨rfl, rfl⟩
theorem d_Store_init_0 : decode M_Store_init.2.1 0 = .ok (.aload_n 0, 1) := by decide +kernel
theorem d_Store_init_1 : decode M_Store_init.2.1 1 = .ok (.invokespecial 3, 3) := by decide +kernel
theorem d_Store_init_4 : decode M_Store_init.2.1 4 = .ok (.aload_n 0, 1) := by decide +kernel
theorem d_Store_init_5 : decode M_Store_init.2.1 5 = .ok (.bipush 16, 2) := by decide +kernel
theorem d_Store_init_7 : decode M_Store_init.2.1 7 = .ok (.anewarray 9, 3) := by decide +kernel
theorem d_Store_init_10 : decode M_Store_init.2.1 10 = .ok (.putfield 11, 3) := by decide +kernel
theorem d_Store_init_13 : decode M_Store_init.2.1 13 = .ok (.iconst 0, 1) := by decide +kernel
theorem d_Store_init_14 : decode M_Store_init.2.1 14 = .ok (.istore_n 1, 1) := by decide +kernel
theorem d_Store_init_15 : decode M_Store_init.2.1 15 = .ok (.iload_n 1, 1) := by decide +kernel
theorem d_Store_init_16 : decode M_Store_init.2.1 16 = .ok (.bipush 16, 2) := by decide +kernel
theorem d_Store_init_18 : decode M_Store_init.2.1 18 = .ok (.if_icmp .ge 22, 3) := by decide +kernel
theorem d_Store_init_21 : decode M_Store_init.2.1 21 = .ok (.aload_n 0, 1) := by decide +kernel
theorem d_Store_init_22 : decode M_Store_init.2.1 22 = .ok (.getfield 11, 3) := by decide +kernel
theorem d_Store_init_25 : decode M_Store_init.2.1 25 = .ok (.iload_n 1, 1) := by decide +kernel
theorem d_Store_init_26 : decode M_Store_init.2.1 26 = .ok (.new 9, 3) := by decide +kernel
theorem d_Store_init_29 : decode M_Store_init.2.1 29 = .ok (.dup, 1) := by decide +kernel
theorem d_Store_init_30 : decode M_Store_init.2.1 30 = .ok (.invokespecial 17, 3) := by decide +kernel
theorem d_Store_init_33 : decode M_Store_init.2.1 33 = .ok (.aastore, 1) := by decide +kernel
theorem d_Store_init_34 : decode M_Store_init.2.1 34 = .ok (.iinc 1 1, 3) := by decide +kernel
theorem d_Store_init_37 : decode M_Store_init.2.1 37 = .ok (.goto (-22), 3) := by decide +kernel
theorem d_Store_init_40 : decode M_Store_init.2.1 40 = .ok (.aload_n 0, 1) := by decide +kernel
theorem d_Store_init_41 : decode M_Store_init.2.1 41 = .ok (.iconst 0, 1) := by decide +kernel
theorem d_Store_init_42 : decode M_Store_init.2.1 42 = .ok (.putfield 18, 3) := by decide +kernel
theorem d_Store_init_45 : decode M_Store_init.2.1 45 = .ok (.aload_n 0, 1) := by decide +kernel
theorem d_Store_init_46 : decode M_Store_init.2.1 46 = .ok (.iconst 4, 1) := by decide +kernel
theorem d_Store_init_47 : decode M_Store_init.2.1 47 = .ok (.newarray .int, 2) := by decide +kernel
theorem d_Store_init_49 : decode M_Store_init.2.1 49 = .ok (.putfield 22, 3) := by decide +kernel
theorem d_Store_init_52 : decode M_Store_init.2.1 52 = .ok (.aload_n 0, 1) := by decide +kernel
theorem d_Store_init_53 : decode M_Store_init.2.1 53 = .ok (.getfield 22, 3) := by decide +kernel
theorem d_Store_init_56 : decode M_Store_init.2.1 56 = .ok (.iconst (-1), 1) := by decide +kernel
theorem d_Store_init_57 : decode M_Store_init.2.1 57 = .ok (.invokestatic 26, 3) := by decide +kernel
theorem d_Store_init_60 : decode M_Store_init.2.1 60 = .ok (.aload_n 0, 1) := by decide +kernel
theorem d_Store_init_61 : decode M_Store_init.2.1 61 = .ok (.bipush 16, 2) := by decide +kernel
theorem d_Store_init_63 : decode M_Store_init.2.1 63 = .ok (.newarray .boolean, 2) := by decide +kernel
theorem d_Store_init_65 : decode M_Store_init.2.1 65 = .ok (.putfield 32, 3) := by decide +kernel
theorem d_Store_init_68 : decode M_Store_init.2.1 68 = .ok (.aload_n 0, 1) := by decide +kernel
theorem d_Store_init_69 : decode M_Store_init.2.1 69 = .ok (.bipush 16, 2) := by decide +kernel
theorem d_Store_init_71 : decode M_Store_init.2.1 71 = .ok (.newarray .int, 2) := by decide +kernel
theorem d_Store_init_73 : decode M_Store_init.2.1 73 = .ok (.putfield 36, 3) := by decide +kernel
theorem d_Store_init_76 : decode M_Store_init.2.1 76 = .ok (.aload_n 0, 1) := by decide +kernel
theorem d_Store_init_77 : decode M_Store_init.2.1 77 = .ok (.iconst 0, 1) := by decide +kernel
theorem d_Store_init_78 : decode M_Store_init.2.1 78 = .ok (.putfield 39, 3) := by decide +kernel
theorem d_Store_init_81 : decode M_Store_init.2.1 81 = .ok (.return_, 1) := by decide +kernel
def x_Store_init (i : Nat) (w : sk_H) : Option sk_H :=
  (some (w ++ [.inr (.inl (2, List.replicate 16 none))])).bind fun w1 =>
  (w_put w1 i 4 0 (.ref w.length)).bind fun w2 =>
  (w_get w2 i 4 0).bind fun r3 =>
  (some (w2 ++ [.inr (.inr (3, [.int 0, .null, .null]))])).bind fun w4 =>
  (x_Thing_init (w2.length) w4).bind fun w5 =>
  (w_ast w5 r3 0 (w2.length)).bind fun w6 =>
  (w_get w6 i 4 0).bind fun r7 =>
  (some (w6 ++ [.inr (.inr (3, [.int 0, .null, .null]))])).bind fun w8 =>
  (x_Thing_init (w6.length) w8).bind fun w9 =>
  (w_ast w9 r7 1 (w6.length)).bind fun w10 =>
  (w_get w10 i 4 0).bind fun r11 =>
  (some (w10 ++ [.inr (.inr (3, [.int 0, .null, .null]))])).bind fun w12 =>
  (x_Thing_init (w10.length) w12).bind fun w13 =>
  (w_ast w13 r11 2 (w10.length)).bind fun w14 =>
  (w_get w14 i 4 0).bind fun r15 =>
  (some (w14 ++ [.inr (.inr (3, [.int 0, .null, .null]))])).bind fun w16 =>
  (x_Thing_init (w14.length) w16).bind fun w17 =>
  (w_ast w17 r15 3 (w14.length)).bind fun w18 =>
  (w_get w18 i 4 0).bind fun r19 =>
  (some (w18 ++ [.inr (.inr (3, [.int 0, .null, .null]))])).bind fun w20 =>
  (x_Thing_init (w18.length) w20).bind fun w21 =>
  (w_ast w21 r19 4 (w18.length)).bind fun w22 =>
  (w_get w22 i 4 0).bind fun r23 =>
  (some (w22 ++ [.inr (.inr (3, [.int 0, .null, .null]))])).bind fun w24 =>
  (x_Thing_init (w22.length) w24).bind fun w25 =>
  (w_ast w25 r23 5 (w22.length)).bind fun w26 =>
  (w_get w26 i 4 0).bind fun r27 =>
  (some (w26 ++ [.inr (.inr (3, [.int 0, .null, .null]))])).bind fun w28 =>
  (x_Thing_init (w26.length) w28).bind fun w29 =>
  (w_ast w29 r27 6 (w26.length)).bind fun w30 =>
  (w_get w30 i 4 0).bind fun r31 =>
  (some (w30 ++ [.inr (.inr (3, [.int 0, .null, .null]))])).bind fun w32 =>
  (x_Thing_init (w30.length) w32).bind fun w33 =>
  (w_ast w33 r31 7 (w30.length)).bind fun w34 =>
  (w_get w34 i 4 0).bind fun r35 =>
  (some (w34 ++ [.inr (.inr (3, [.int 0, .null, .null]))])).bind fun w36 =>
  (x_Thing_init (w34.length) w36).bind fun w37 =>
  (w_ast w37 r35 8 (w34.length)).bind fun w38 =>
  (w_get w38 i 4 0).bind fun r39 =>
  (some (w38 ++ [.inr (.inr (3, [.int 0, .null, .null]))])).bind fun w40 =>
  (x_Thing_init (w38.length) w40).bind fun w41 =>
  (w_ast w41 r39 9 (w38.length)).bind fun w42 =>
  (w_get w42 i 4 0).bind fun r43 =>
  (some (w42 ++ [.inr (.inr (3, [.int 0, .null, .null]))])).bind fun w44 =>
  (x_Thing_init (w42.length) w44).bind fun w45 =>
  (w_ast w45 r43 10 (w42.length)).bind fun w46 =>
  (w_get w46 i 4 0).bind fun r47 =>
  (some (w46 ++ [.inr (.inr (3, [.int 0, .null, .null]))])).bind fun w48 =>
  (x_Thing_init (w46.length) w48).bind fun w49 =>
  (w_ast w49 r47 11 (w46.length)).bind fun w50 =>
  (w_get w50 i 4 0).bind fun r51 =>
  (some (w50 ++ [.inr (.inr (3, [.int 0, .null, .null]))])).bind fun w52 =>
  (x_Thing_init (w50.length) w52).bind fun w53 =>
  (w_ast w53 r51 12 (w50.length)).bind fun w54 =>
  (w_get w54 i 4 0).bind fun r55 =>
  (some (w54 ++ [.inr (.inr (3, [.int 0, .null, .null]))])).bind fun w56 =>
  (x_Thing_init (w54.length) w56).bind fun w57 =>
  (w_ast w57 r55 13 (w54.length)).bind fun w58 =>
  (w_get w58 i 4 0).bind fun r59 =>
  (some (w58 ++ [.inr (.inr (3, [.int 0, .null, .null]))])).bind fun w60 =>
  (x_Thing_init (w58.length) w60).bind fun w61 =>
  (w_ast w61 r59 14 (w58.length)).bind fun w62 =>
  (w_get w62 i 4 0).bind fun r63 =>
  (some (w62 ++ [.inr (.inr (3, [.int 0, .null, .null]))])).bind fun w64 =>
  (x_Thing_init (w62.length) w64).bind fun w65 =>
  (w_ast w65 r63 15 (w62.length)).bind fun w66 =>
  (w_put w66 i 4 1 (.int 0)).bind fun w67 =>
  (some (w67 ++ [.inl (0, List.replicate 4 0)])).bind fun w68 =>
  (w_put w68 i 4 2 (.ref w67.length)).bind fun w69 =>
  (w_get w69 i 4 2).bind fun r70 =>
  (w_fil w69 r70 (-1)).bind fun w71 =>
  (some (w71 ++ [.inl (1, List.replicate 16 0)])).bind fun w72 =>
  (w_put w72 i 4 3 (.ref w71.length)).bind fun w73 =>
  (some (w73 ++ [.inl (0, List.replicate 16 0)])).bind fun w74 =>
  (w_put w74 i 4 4 (.ref w73.length)).bind fun w75 =>
  (w_put w75 i 4 5 (.int 0)).bind fun w76 =>
  some w76
theorem k_Store_init {i : Nat} {w w' : sk_H} (h : x_Store_init i w = some w') : Ct M_Store_init 3 68 2132 w [.ref i] (PoW w') := by
  refine Ct.of (by decide +kernel) (Nat.le_of_ble_eq_true rfl) (fun Z T => ?_)
  have F := T.F
  unfold x_Store_init at h
  show Z w 0 [(0, .ref i)] [] 0 0
  refine g_aload_n F (pc := 0) d_Store_init_0 0 rfl (g_objInit F (pc := 1) d_Store_init_1 ml_Store_3 oi_2 oi_3 (by decide) (g_aload_n F (pc := 4) d_Store_init_4 0 rfl (g_bipush (v := 16) F (pc := 5) d_Store_init_5 (by decide) (g_newq (t := 2) (N := 16) F (pc := 7) d_Store_init_7 nq_Store_9 rfl rfl (by decide) (by decide) (by decide) (Nat.le_of_ble_eq_true rfl) (Nat.le_of_ble_eq_true rfl) ?_))))
  obtain ⟨w1, ew1, h⟩ := Option.bind_eq_some_iff.mp h
  rw [Option.some.inj ew1]
  obtain ⟨w2, ew2, h⟩ := Option.bind_eq_some_iff.mp h
  obtain ⟨fsw2, pw2, qw2, rw2⟩ := w_put_s ew2
  refine g_put F (pc := 10) d_Store_init_10 cl_4 (pf_Store_11 _ rfl rfl) pw2 qw2 (fun _ => rfl) (fun _ => rfl) ?_
  rw [← rw2]
  refine g_iconst (v := 0) F (pc := 13) d_Store_init_13 (by decide) (g_istore_n (lv' := [(1, .int 0), (0, .ref i)]) F (pc := 14) d_Store_init_14 (by decide) rfl (g_iload_n F (pc := 15) d_Store_init_15 0 rfl (g_bipush (v := 16) F (pc := 16) d_Store_init_16 (by decide) ?_)))
  refine g_icmp_ge (tgt := 40) F (pc := 18) d_Store_init_18 (by decide) (fun h => absurd h (by decide)) (fun _ => ?_)
  refine g_aload_n F (pc := 21) d_Store_init_21 1 rfl ?_
  obtain ⟨r3, er3, h⟩ := Option.bind_eq_some_iff.mp h
  obtain ⟨fsr3, pr3, qr3⟩ := w_get_s er3
  refine g_get F (pc := 22) d_Store_init_22 fi_Store_11.1 pr3 qr3 ?_
  refine g_iload_n F (pc := 25) d_Store_init_25 0 rfl (g_new F (pc := 26) d_Store_init_26 nw_Store_9 (Nat.le_of_ble_eq_true rfl) (Nat.le_of_ble_eq_true rfl) ?_)
  obtain ⟨w4, ew4, h⟩ := Option.bind_eq_some_iff.mp h
  rw [Option.some.inj ew4]
  refine g_dup F (pc := 29) d_Store_init_29 rfl ?_
  obtain ⟨w5, ew5, h⟩ := Option.bind_eq_some_iff.mp h
  refine g_callI (b := w2.length) (As := []) (st := [.ref w2.length, .int 0, .ref r3]) F (pc := 30) d_Store_init_30 cb_Store_17 iv_Thing_init np_Thing_init (k_Thing_init ew5) rfl (by decide) (Nat.le_of_ble_eq_true rfl) (Nat.le_of_ble_eq_true rfl) (Nat.le_of_ble_eq_true rfl) (fun r9 w9 h9 _ => PoW.el (P := fun r w' => Z w' 33 [(1, .int 0), (0, .ref i)] (r.toList ++ [.ref w2.length, .int 0, .ref r3]) _ _) h9 ?_)
  obtain ⟨w6, ew6, h⟩ := Option.bind_eq_some_iff.mp h
  obtain ⟨Lw6, gw6, pw6, vw6, qw6, rw6⟩ := w_ast_s ew6
  refine g_aast (j := 0) F (pc := 33) d_Store_init_33 pw6 (C := "PackShelf$Thing") rfl vw6 (T := F_Thing) (N := 3) rfl (vq_in qw6 (by decide)) (by decide) ?_
  rw [← rw6]
  refine g_iinc (v := 1) (lv' := [(1, .int 1), (0, .ref i)]) F (pc := 34) d_Store_init_34 0 rfl (by decide) (by decide) rfl (g_goto (tgt := 15) F (pc := 37) d_Store_init_37 (by decide) (g_iload_n F (pc := 15) d_Store_init_15 0 rfl (g_bipush (v := 16) F (pc := 16) d_Store_init_16 (by decide) ?_)))
  refine g_icmp_ge (tgt := 40) F (pc := 18) d_Store_init_18 (by decide) (fun h => absurd h (by decide)) (fun _ => ?_)
  refine g_aload_n F (pc := 21) d_Store_init_21 1 rfl ?_
  obtain ⟨r7, er7, h⟩ := Option.bind_eq_some_iff.mp h
  obtain ⟨fsr7, pr7, qr7⟩ := w_get_s er7
  refine g_get F (pc := 22) d_Store_init_22 fi_Store_11.1 pr7 qr7 ?_
  refine g_iload_n F (pc := 25) d_Store_init_25 0 rfl (g_new F (pc := 26) d_Store_init_26 nw_Store_9 (Nat.le_of_ble_eq_true rfl) (Nat.le_of_ble_eq_true rfl) ?_)
  obtain ⟨w8, ew8, h⟩ := Option.bind_eq_some_iff.mp h
  rw [Option.some.inj ew8]
  refine g_dup F (pc := 29) d_Store_init_29 rfl ?_
  obtain ⟨w9, ew9, h⟩ := Option.bind_eq_some_iff.mp h
  refine g_callI (b := w6.length) (As := []) (st := [.ref w6.length, .int 1, .ref r7]) F (pc := 30) d_Store_init_30 cb_Store_17 iv_Thing_init np_Thing_init (k_Thing_init ew9) rfl (by decide) (Nat.le_of_ble_eq_true rfl) (Nat.le_of_ble_eq_true rfl) (Nat.le_of_ble_eq_true rfl) (fun r9 w9 h9 _ => PoW.el (P := fun r w' => Z w' 33 [(1, .int 1), (0, .ref i)] (r.toList ++ [.ref w6.length, .int 1, .ref r7]) _ _) h9 ?_)
  obtain ⟨w10, ew10, h⟩ := Option.bind_eq_some_iff.mp h
  obtain ⟨Lw10, gw10, pw10, vw10, qw10, rw10⟩ := w_ast_s ew10
  refine g_aast (j := 1) F (pc := 33) d_Store_init_33 pw10 (C := "PackShelf$Thing") rfl vw10 (T := F_Thing) (N := 3) rfl (vq_in qw10 (by decide)) (by decide) ?_
  rw [← rw10]
  refine g_iinc (v := 2) (lv' := [(1, .int 2), (0, .ref i)]) F (pc := 34) d_Store_init_34 0 rfl (by decide) (by decide) rfl (g_goto (tgt := 15) F (pc := 37) d_Store_init_37 (by decide) (g_iload_n F (pc := 15) d_Store_init_15 0 rfl (g_bipush (v := 16) F (pc := 16) d_Store_init_16 (by decide) ?_)))
  refine g_icmp_ge (tgt := 40) F (pc := 18) d_Store_init_18 (by decide) (fun h => absurd h (by decide)) (fun _ => ?_)
  refine g_aload_n F (pc := 21) d_Store_init_21 1 rfl ?_
  obtain ⟨r11, er11, h⟩ := Option.bind_eq_some_iff.mp h
  obtain ⟨fsr11, pr11, qr11⟩ := w_get_s er11
  refine g_get F (pc := 22) d_Store_init_22 fi_Store_11.1 pr11 qr11 ?_
  refine g_iload_n F (pc := 25) d_Store_init_25 0 rfl (g_new F (pc := 26) d_Store_init_26 nw_Store_9 (Nat.le_of_ble_eq_true rfl) (Nat.le_of_ble_eq_true rfl) ?_)
  obtain ⟨w12, ew12, h⟩ := Option.bind_eq_some_iff.mp h
  rw [Option.some.inj ew12]
  refine g_dup F (pc := 29) d_Store_init_29 rfl ?_
  obtain ⟨w13, ew13, h⟩ := Option.bind_eq_some_iff.mp h
  refine g_callI (b := w10.length) (As := []) (st := [.ref w10.length, .int 2, .ref r11]) F (pc := 30) d_Store_init_30 cb_Store_17 iv_Thing_init np_Thing_init (k_Thing_init ew13) rfl (by decide) (Nat.le_of_ble_eq_true rfl) (Nat.le_of_ble_eq_true rfl) (Nat.le_of_ble_eq_true rfl) (fun r9 w9 h9 _ => PoW.el (P := fun r w' => Z w' 33 [(1, .int 2), (0, .ref i)] (r.toList ++ [.ref w10.length, .int 2, .ref r11]) _ _) h9 ?_)
  obtain ⟨w14, ew14, h⟩ := Option.bind_eq_some_iff.mp h
  obtain ⟨Lw14, gw14, pw14, vw14, qw14, rw14⟩ := w_ast_s ew14
  refine g_aast (j := 2) F (pc := 33) d_Store_init_33 pw14 (C := "PackShelf$Thing") rfl vw14 (T := F_Thing) (N := 3) rfl (vq_in qw14 (by decide)) (by decide) ?_
  rw [← rw14]
  refine g_iinc (v := 3) (lv' := [(1, .int 3), (0, .ref i)]) F (pc := 34) d_Store_init_34 0 rfl (by decide) (by decide) rfl (g_goto (tgt := 15) F (pc := 37) d_Store_init_37 (by decide) (g_iload_n F (pc := 15) d_Store_init_15 0 rfl (g_bipush (v := 16) F (pc := 16) d_Store_init_16 (by decide) ?_)))
  refine g_icmp_ge (tgt := 40) F (pc := 18) d_Store_init_18 (by decide) (fun h => absurd h (by decide)) (fun _ => ?_)
  refine g_aload_n F (pc := 21) d_Store_init_21 1 rfl ?_
  obtain ⟨r15, er15, h⟩ := Option.bind_eq_some_iff.mp h
  obtain ⟨fsr15, pr15, qr15⟩ := w_get_s er15
  refine g_get F (pc := 22) d_Store_init_22 fi_Store_11.1 pr15 qr15 ?_
  refine g_iload_n F (pc := 25) d_Store_init_25 0 rfl (g_new F (pc := 26) d_Store_init_26 nw_Store_9 (Nat.le_of_ble_eq_true rfl) (Nat.le_of_ble_eq_true rfl) ?_)
  obtain ⟨w16, ew16, h⟩ := Option.bind_eq_some_iff.mp h
  rw [Option.some.inj ew16]
  refine g_dup F (pc := 29) d_Store_init_29 rfl ?_
  obtain ⟨w17, ew17, h⟩ := Option.bind_eq_some_iff.mp h
  refine g_callI (b := w14.length) (As := []) (st := [.ref w14.length, .int 3, .ref r15]) F (pc := 30) d_Store_init_30 cb_Store_17 iv_Thing_init np_Thing_init (k_Thing_init ew17) rfl (by decide) (Nat.le_of_ble_eq_true rfl) (Nat.le_of_ble_eq_true rfl) (Nat.le_of_ble_eq_true rfl) (fun r9 w9 h9 _ => PoW.el (P := fun r w' => Z w' 33 [(1, .int 3), (0, .ref i)] (r.toList ++ [.ref w14.length, .int 3, .ref r15]) _ _) h9 ?_)
  obtain ⟨w18, ew18, h⟩ := Option.bind_eq_some_iff.mp h
  obtain ⟨Lw18, gw18, pw18, vw18, qw18, rw18⟩ := w_ast_s ew18
  refine g_aast (j := 3) F (pc := 33) d_Store_init_33 pw18 (C := "PackShelf$Thing") rfl vw18 (T := F_Thing) (N := 3) rfl (vq_in qw18 (by decide)) (by decide) ?_
  rw [← rw18]
  refine g_iinc (v := 4) (lv' := [(1, .int 4), (0, .ref i)]) F (pc := 34) d_Store_init_34 0 rfl (by decide) (by decide) rfl (g_goto (tgt := 15) F (pc := 37) d_Store_init_37 (by decide) (g_iload_n F (pc := 15) d_Store_init_15 0 rfl (g_bipush (v := 16) F (pc := 16) d_Store_init_16 (by decide) ?_)))
  refine g_icmp_ge (tgt := 40) F (pc := 18) d_Store_init_18 (by decide) (fun h => absurd h (by decide)) (fun _ => ?_)
  refine g_aload_n F (pc := 21) d_Store_init_21 1 rfl ?_
  obtain ⟨r19, er19, h⟩ := Option.bind_eq_some_iff.mp h
  obtain ⟨fsr19, pr19, qr19⟩ := w_get_s er19
  refine g_get F (pc := 22) d_Store_init_22 fi_Store_11.1 pr19 qr19 ?_
  refine g_iload_n F (pc := 25) d_Store_init_25 0 rfl (g_new F (pc := 26) d_Store_init_26 nw_Store_9 (Nat.le_of_ble_eq_true rfl) (Nat.le_of_ble_eq_true rfl) ?_)
  obtain ⟨w20, ew20, h⟩ := Option.bind_eq_some_iff.mp h
  rw [Option.some.inj ew20]
  refine g_dup F (pc := 29) d_Store_init_29 rfl ?_
  obtain ⟨w21, ew21, h⟩ := Option.bind_eq_some_iff.mp h
  refine g_callI (b := w18.length) (As := []) (st := [.ref w18.length, .int 4, .ref r19]) F (pc := 30) d_Store_init_30 cb_Store_17 iv_Thing_init np_Thing_init (k_Thing_init ew21) rfl (by decide) (Nat.le_of_ble_eq_true rfl) (Nat.le_of_ble_eq_true rfl) (Nat.le_of_ble_eq_true rfl) (fun r9 w9 h9 _ => PoW.el (P := fun r w' => Z w' 33 [(1, .int 4), (0, .ref i)] (r.toList ++ [.ref w18.length, .int 4, .ref r19]) _ _) h9 ?_)
  obtain ⟨w22, ew22, h⟩ := Option.bind_eq_some_iff.mp h
  obtain ⟨Lw22, gw22, pw22, vw22, qw22, rw22⟩ := w_ast_s ew22
  refine g_aast (j := 4) F (pc := 33) d_Store_init_33 pw22 (C := "PackShelf$Thing") rfl vw22 (T := F_Thing) (N := 3) rfl (vq_in qw22 (by decide)) (by decide) ?_
  rw [← rw22]
  refine g_iinc (v := 5) (lv' := [(1, .int 5), (0, .ref i)]) F (pc := 34) d_Store_init_34 0 rfl (by decide) (by decide) rfl (g_goto (tgt := 15) F (pc := 37) d_Store_init_37 (by decide) (g_iload_n F (pc := 15) d_Store_init_15 0 rfl (g_bipush (v := 16) F (pc := 16) d_Store_init_16 (by decide) ?_)))
  refine g_icmp_ge (tgt := 40) F (pc := 18) d_Store_init_18 (by decide) (fun h => absurd h (by decide)) (fun _ => ?_)
  refine g_aload_n F (pc := 21) d_Store_init_21 1 rfl ?_
  obtain ⟨r23, er23, h⟩ := Option.bind_eq_some_iff.mp h
  obtain ⟨fsr23, pr23, qr23⟩ := w_get_s er23
  refine g_get F (pc := 22) d_Store_init_22 fi_Store_11.1 pr23 qr23 ?_
  refine g_iload_n F (pc := 25) d_Store_init_25 0 rfl (g_new F (pc := 26) d_Store_init_26 nw_Store_9 (Nat.le_of_ble_eq_true rfl) (Nat.le_of_ble_eq_true rfl) ?_)
  obtain ⟨w24, ew24, h⟩ := Option.bind_eq_some_iff.mp h
  rw [Option.some.inj ew24]
  refine g_dup F (pc := 29) d_Store_init_29 rfl ?_
  obtain ⟨w25, ew25, h⟩ := Option.bind_eq_some_iff.mp h
  refine g_callI (b := w22.length) (As := []) (st := [.ref w22.length, .int 5, .ref r23]) F (pc := 30) d_Store_init_30 cb_Store_17 iv_Thing_init np_Thing_init (k_Thing_init ew25) rfl (by decide) (Nat.le_of_ble_eq_true rfl) (Nat.le_of_ble_eq_true rfl) (Nat.le_of_ble_eq_true rfl) (fun r9 w9 h9 _ => PoW.el (P := fun r w' => Z w' 33 [(1, .int 5), (0, .ref i)] (r.toList ++ [.ref w22.length, .int 5, .ref r23]) _ _) h9 ?_)
  obtain ⟨w26, ew26, h⟩ := Option.bind_eq_some_iff.mp h
  obtain ⟨Lw26, gw26, pw26, vw26, qw26, rw26⟩ := w_ast_s ew26
  refine g_aast (j := 5) F (pc := 33) d_Store_init_33 pw26 (C := "PackShelf$Thing") rfl vw26 (T := F_Thing) (N := 3) rfl (vq_in qw26 (by decide)) (by decide) ?_
  rw [← rw26]
  refine g_iinc (v := 6) (lv' := [(1, .int 6), (0, .ref i)]) F (pc := 34) d_Store_init_34 0 rfl (by decide) (by decide) rfl (g_goto (tgt := 15) F (pc := 37) d_Store_init_37 (by decide) (g_iload_n F (pc := 15) d_Store_init_15 0 rfl (g_bipush (v := 16) F (pc := 16) d_Store_init_16 (by decide) ?_)))
  refine g_icmp_ge (tgt := 40) F (pc := 18) d_Store_init_18 (by decide) (fun h => absurd h (by decide)) (fun _ => ?_)
  refine g_aload_n F (pc := 21) d_Store_init_21 1 rfl ?_
  obtain ⟨r27, er27, h⟩ := Option.bind_eq_some_iff.mp h
  obtain ⟨fsr27, pr27, qr27⟩ := w_get_s er27
  refine g_get F (pc := 22) d_Store_init_22 fi_Store_11.1 pr27 qr27 ?_
  refine g_iload_n F (pc := 25) d_Store_init_25 0 rfl (g_new F (pc := 26) d_Store_init_26 nw_Store_9 (Nat.le_of_ble_eq_true rfl) (Nat.le_of_ble_eq_true rfl) ?_)
  obtain ⟨w28, ew28, h⟩ := Option.bind_eq_some_iff.mp h
  rw [Option.some.inj ew28]
  refine g_dup F (pc := 29) d_Store_init_29 rfl ?_
  obtain ⟨w29, ew29, h⟩ := Option.bind_eq_some_iff.mp h
  refine g_callI (b := w26.length) (As := []) (st := [.ref w26.length, .int 6, .ref r27]) F (pc := 30) d_Store_init_30 cb_Store_17 iv_Thing_init np_Thing_init (k_Thing_init ew29) rfl (by decide) (Nat.le_of_ble_eq_true rfl) (Nat.le_of_ble_eq_true rfl) (Nat.le_of_ble_eq_true rfl) (fun r9 w9 h9 _ => PoW.el (P := fun r w' => Z w' 33 [(1, .int 6), (0, .ref i)] (r.toList ++ [.ref w26.length, .int 6, .ref r27]) _ _) h9 ?_)
  obtain ⟨w30, ew30, h⟩ := Option.bind_eq_some_iff.mp h
  obtain ⟨Lw30, gw30, pw30, vw30, qw30, rw30⟩ := w_ast_s ew30
  refine g_aast (j := 6) F (pc := 33) d_Store_init_33 pw30 (C := "PackShelf$Thing") rfl vw30 (T := F_Thing) (N := 3) rfl (vq_in qw30 (by decide)) (by decide) ?_
  rw [← rw30]
  refine g_iinc (v := 7) (lv' := [(1, .int 7), (0, .ref i)]) F (pc := 34) d_Store_init_34 0 rfl (by decide) (by decide) rfl (g_goto (tgt := 15) F (pc := 37) d_Store_init_37 (by decide) (g_iload_n F (pc := 15) d_Store_init_15 0 rfl (g_bipush (v := 16) F (pc := 16) d_Store_init_16 (by decide) ?_)))
  refine g_icmp_ge (tgt := 40) F (pc := 18) d_Store_init_18 (by decide) (fun h => absurd h (by decide)) (fun _ => ?_)
  refine g_aload_n F (pc := 21) d_Store_init_21 1 rfl ?_
  obtain ⟨r31, er31, h⟩ := Option.bind_eq_some_iff.mp h
  obtain ⟨fsr31, pr31, qr31⟩ := w_get_s er31
  refine g_get F (pc := 22) d_Store_init_22 fi_Store_11.1 pr31 qr31 ?_
  refine g_iload_n F (pc := 25) d_Store_init_25 0 rfl (g_new F (pc := 26) d_Store_init_26 nw_Store_9 (Nat.le_of_ble_eq_true rfl) (Nat.le_of_ble_eq_true rfl) ?_)
  obtain ⟨w32, ew32, h⟩ := Option.bind_eq_some_iff.mp h
  rw [Option.some.inj ew32]
  refine g_dup F (pc := 29) d_Store_init_29 rfl ?_
  obtain ⟨w33, ew33, h⟩ := Option.bind_eq_some_iff.mp h
  refine g_callI (b := w30.length) (As := []) (st := [.ref w30.length, .int 7, .ref r31]) F (pc := 30) d_Store_init_30 cb_Store_17 iv_Thing_init np_Thing_init (k_Thing_init ew33) rfl (by decide) (Nat.le_of_ble_eq_true rfl) (Nat.le_of_ble_eq_true rfl) (Nat.le_of_ble_eq_true rfl) (fun r9 w9 h9 _ => PoW.el (P := fun r w' => Z w' 33 [(1, .int 7), (0, .ref i)] (r.toList ++ [.ref w30.length, .int 7, .ref r31]) _ _) h9 ?_)
  obtain ⟨w34, ew34, h⟩ := Option.bind_eq_some_iff.mp h
  obtain ⟨Lw34, gw34, pw34, vw34, qw34, rw34⟩ := w_ast_s ew34
  refine g_aast (j := 7) F (pc := 33) d_Store_init_33 pw34 (C := "PackShelf$Thing") rfl vw34 (T := F_Thing) (N := 3) rfl (vq_in qw34 (by decide)) (by decide) ?_
  rw [← rw34]
  refine g_iinc (v := 8) (lv' := [(1, .int 8), (0, .ref i)]) F (pc := 34) d_Store_init_34 0 rfl (by decide) (by decide) rfl (g_goto (tgt := 15) F (pc := 37) d_Store_init_37 (by decide) (g_iload_n F (pc := 15) d_Store_init_15 0 rfl (g_bipush (v := 16) F (pc := 16) d_Store_init_16 (by decide) ?_)))
  refine g_icmp_ge (tgt := 40) F (pc := 18) d_Store_init_18 (by decide) (fun h => absurd h (by decide)) (fun _ => ?_)
  refine g_aload_n F (pc := 21) d_Store_init_21 1 rfl ?_
  obtain ⟨r35, er35, h⟩ := Option.bind_eq_some_iff.mp h
  obtain ⟨fsr35, pr35, qr35⟩ := w_get_s er35
  refine g_get F (pc := 22) d_Store_init_22 fi_Store_11.1 pr35 qr35 ?_
  refine g_iload_n F (pc := 25) d_Store_init_25 0 rfl (g_new F (pc := 26) d_Store_init_26 nw_Store_9 (Nat.le_of_ble_eq_true rfl) (Nat.le_of_ble_eq_true rfl) ?_)
  obtain ⟨w36, ew36, h⟩ := Option.bind_eq_some_iff.mp h
  rw [Option.some.inj ew36]
  refine g_dup F (pc := 29) d_Store_init_29 rfl ?_
  obtain ⟨w37, ew37, h⟩ := Option.bind_eq_some_iff.mp h
  refine g_callI (b := w34.length) (As := []) (st := [.ref w34.length, .int 8, .ref r35]) F (pc := 30) d_Store_init_30 cb_Store_17 iv_Thing_init np_Thing_init (k_Thing_init ew37) rfl (by decide) (Nat.le_of_ble_eq_true rfl) (Nat.le_of_ble_eq_true rfl) (Nat.le_of_ble_eq_true rfl) (fun r9 w9 h9 _ => PoW.el (P := fun r w' => Z w' 33 [(1, .int 8), (0, .ref i)] (r.toList ++ [.ref w34.length, .int 8, .ref r35]) _ _) h9 ?_)
  obtain ⟨w38, ew38, h⟩ := Option.bind_eq_some_iff.mp h
  obtain ⟨Lw38, gw38, pw38, vw38, qw38, rw38⟩ := w_ast_s ew38
  refine g_aast (j := 8) F (pc := 33) d_Store_init_33 pw38 (C := "PackShelf$Thing") rfl vw38 (T := F_Thing) (N := 3) rfl (vq_in qw38 (by decide)) (by decide) ?_
  rw [← rw38]
  refine g_iinc (v := 9) (lv' := [(1, .int 9), (0, .ref i)]) F (pc := 34) d_Store_init_34 0 rfl (by decide) (by decide) rfl (g_goto (tgt := 15) F (pc := 37) d_Store_init_37 (by decide) (g_iload_n F (pc := 15) d_Store_init_15 0 rfl (g_bipush (v := 16) F (pc := 16) d_Store_init_16 (by decide) ?_)))
  refine g_icmp_ge (tgt := 40) F (pc := 18) d_Store_init_18 (by decide) (fun h => absurd h (by decide)) (fun _ => ?_)
  refine g_aload_n F (pc := 21) d_Store_init_21 1 rfl ?_
  obtain ⟨r39, er39, h⟩ := Option.bind_eq_some_iff.mp h
  obtain ⟨fsr39, pr39, qr39⟩ := w_get_s er39
  refine g_get F (pc := 22) d_Store_init_22 fi_Store_11.1 pr39 qr39 ?_
  refine g_iload_n F (pc := 25) d_Store_init_25 0 rfl (g_new F (pc := 26) d_Store_init_26 nw_Store_9 (Nat.le_of_ble_eq_true rfl) (Nat.le_of_ble_eq_true rfl) ?_)
  obtain ⟨w40, ew40, h⟩ := Option.bind_eq_some_iff.mp h
  rw [Option.some.inj ew40]
  refine g_dup F (pc := 29) d_Store_init_29 rfl ?_
  obtain ⟨w41, ew41, h⟩ := Option.bind_eq_some_iff.mp h
  refine g_callI (b := w38.length) (As := []) (st := [.ref w38.length, .int 9, .ref r39]) F (pc := 30) d_Store_init_30 cb_Store_17 iv_Thing_init np_Thing_init (k_Thing_init ew41) rfl (by decide) (Nat.le_of_ble_eq_true rfl) (Nat.le_of_ble_eq_true rfl) (Nat.le_of_ble_eq_true rfl) (fun r9 w9 h9 _ => PoW.el (P := fun r w' => Z w' 33 [(1, .int 9), (0, .ref i)] (r.toList ++ [.ref w38.length, .int 9, .ref r39]) _ _) h9 ?_)
  obtain ⟨w42, ew42, h⟩ := Option.bind_eq_some_iff.mp h
  obtain ⟨Lw42, gw42, pw42, vw42, qw42, rw42⟩ := w_ast_s ew42
  refine g_aast (j := 9) F (pc := 33) d_Store_init_33 pw42 (C := "PackShelf$Thing") rfl vw42 (T := F_Thing) (N := 3) rfl (vq_in qw42 (by decide)) (by decide) ?_
  rw [← rw42]
  refine g_iinc (v := 10) (lv' := [(1, .int 10), (0, .ref i)]) F (pc := 34) d_Store_init_34 0 rfl (by decide) (by decide) rfl (g_goto (tgt := 15) F (pc := 37) d_Store_init_37 (by decide) (g_iload_n F (pc := 15) d_Store_init_15 0 rfl (g_bipush (v := 16) F (pc := 16) d_Store_init_16 (by decide) ?_)))
  refine g_icmp_ge (tgt := 40) F (pc := 18) d_Store_init_18 (by decide) (fun h => absurd h (by decide)) (fun _ => ?_)
  refine g_aload_n F (pc := 21) d_Store_init_21 1 rfl ?_
  obtain ⟨r43, er43, h⟩ := Option.bind_eq_some_iff.mp h
  obtain ⟨fsr43, pr43, qr43⟩ := w_get_s er43
  refine g_get F (pc := 22) d_Store_init_22 fi_Store_11.1 pr43 qr43 ?_
  refine g_iload_n F (pc := 25) d_Store_init_25 0 rfl (g_new F (pc := 26) d_Store_init_26 nw_Store_9 (Nat.le_of_ble_eq_true rfl) (Nat.le_of_ble_eq_true rfl) ?_)
  obtain ⟨w44, ew44, h⟩ := Option.bind_eq_some_iff.mp h
  rw [Option.some.inj ew44]
  refine g_dup F (pc := 29) d_Store_init_29 rfl ?_
  obtain ⟨w45, ew45, h⟩ := Option.bind_eq_some_iff.mp h
  refine g_callI (b := w42.length) (As := []) (st := [.ref w42.length, .int 10, .ref r43]) F (pc := 30) d_Store_init_30 cb_Store_17 iv_Thing_init np_Thing_init (k_Thing_init ew45) rfl (by decide) (Nat.le_of_ble_eq_true rfl) (Nat.le_of_ble_eq_true rfl) (Nat.le_of_ble_eq_true rfl) (fun r9 w9 h9 _ => PoW.el (P := fun r w' => Z w' 33 [(1, .int 10), (0, .ref i)] (r.toList ++ [.ref w42.length, .int 10, .ref r43]) _ _) h9 ?_)
  obtain ⟨w46, ew46, h⟩ := Option.bind_eq_some_iff.mp h
  obtain ⟨Lw46, gw46, pw46, vw46, qw46, rw46⟩ := w_ast_s ew46
  refine g_aast (j := 10) F (pc := 33) d_Store_init_33 pw46 (C := "PackShelf$Thing") rfl vw46 (T := F_Thing) (N := 3) rfl (vq_in qw46 (by decide)) (by decide) ?_
  rw [← rw46]
  refine g_iinc (v := 11) (lv' := [(1, .int 11), (0, .ref i)]) F (pc := 34) d_Store_init_34 0 rfl (by decide) (by decide) rfl (g_goto (tgt := 15) F (pc := 37) d_Store_init_37 (by decide) (g_iload_n F (pc := 15) d_Store_init_15 0 rfl (g_bipush (v := 16) F (pc := 16) d_Store_init_16 (by decide) ?_)))
  refine g_icmp_ge (tgt := 40) F (pc := 18) d_Store_init_18 (by decide) (fun h => absurd h (by decide)) (fun _ => ?_)
  refine g_aload_n F (pc := 21) d_Store_init_21 1 rfl ?_
  obtain ⟨r47, er47, h⟩ := Option.bind_eq_some_iff.mp h
  obtain ⟨fsr47, pr47, qr47⟩ := w_get_s er47
  refine g_get F (pc := 22) d_Store_init_22 fi_Store_11.1 pr47 qr47 ?_
  refine g_iload_n F (pc := 25) d_Store_init_25 0 rfl (g_new F (pc := 26) d_Store_init_26 nw_Store_9 (Nat.le_of_ble_eq_true rfl) (Nat.le_of_ble_eq_true rfl) ?_)
  obtain ⟨w48, ew48, h⟩ := Option.bind_eq_some_iff.mp h
  rw [Option.some.inj ew48]
  refine g_dup F (pc := 29) d_Store_init_29 rfl ?_
  obtain ⟨w49, ew49, h⟩ := Option.bind_eq_some_iff.mp h
  refine g_callI (b := w46.length) (As := []) (st := [.ref w46.length, .int 11, .ref r47]) F (pc := 30) d_Store_init_30 cb_Store_17 iv_Thing_init np_Thing_init (k_Thing_init ew49) rfl (by decide) (Nat.le_of_ble_eq_true rfl) (Nat.le_of_ble_eq_true rfl) (Nat.le_of_ble_eq_true rfl) (fun r9 w9 h9 _ => PoW.el (P := fun r w' => Z w' 33 [(1, .int 11), (0, .ref i)] (r.toList ++ [.ref w46.length, .int 11, .ref r47]) _ _) h9 ?_)
  obtain ⟨w50, ew50, h⟩ := Option.bind_eq_some_iff.mp h
  obtain ⟨Lw50, gw50, pw50, vw50, qw50, rw50⟩ := w_ast_s ew50
  refine g_aast (j := 11) F (pc := 33) d_Store_init_33 pw50 (C := "PackShelf$Thing") rfl vw50 (T := F_Thing) (N := 3) rfl (vq_in qw50 (by decide)) (by decide) ?_
  rw [← rw50]
  refine g_iinc (v := 12) (lv' := [(1, .int 12), (0, .ref i)]) F (pc := 34) d_Store_init_34 0 rfl (by decide) (by decide) rfl (g_goto (tgt := 15) F (pc := 37) d_Store_init_37 (by decide) (g_iload_n F (pc := 15) d_Store_init_15 0 rfl (g_bipush (v := 16) F (pc := 16) d_Store_init_16 (by decide) ?_)))
  refine g_icmp_ge (tgt := 40) F (pc := 18) d_Store_init_18 (by decide) (fun h => absurd h (by decide)) (fun _ => ?_)
  refine g_aload_n F (pc := 21) d_Store_init_21 1 rfl ?_
  obtain ⟨r51, er51, h⟩ := Option.bind_eq_some_iff.mp h
  obtain ⟨fsr51, pr51, qr51⟩ := w_get_s er51
  refine g_get F (pc := 22) d_Store_init_22 fi_Store_11.1 pr51 qr51 ?_
  refine g_iload_n F (pc := 25) d_Store_init_25 0 rfl (g_new F (pc := 26) d_Store_init_26 nw_Store_9 (Nat.le_of_ble_eq_true rfl) (Nat.le_of_ble_eq_true rfl) ?_)
  obtain ⟨w52, ew52, h⟩ := Option.bind_eq_some_iff.mp h
  rw [Option.some.inj ew52]
  refine g_dup F (pc := 29) d_Store_init_29 rfl ?_
  obtain ⟨w53, ew53, h⟩ := Option.bind_eq_some_iff.mp h
  refine g_callI (b := w50.length) (As := []) (st := [.ref w50.length, .int 12, .ref r51]) F (pc := 30) d_Store_init_30 cb_Store_17 iv_Thing_init np_Thing_init (k_Thing_init ew53) rfl (by decide) (Nat.le_of_ble_eq_true rfl) (Nat.le_of_ble_eq_true rfl) (Nat.le_of_ble_eq_true rfl) (fun r9 w9 h9 _ => PoW.el (P := fun r w' => Z w' 33 [(1, .int 12), (0, .ref i)] (r.toList ++ [.ref w50.length, .int 12, .ref r51]) _ _) h9 ?_)
  obtain ⟨w54, ew54, h⟩ := Option.bind_eq_some_iff.mp h
  obtain ⟨Lw54, gw54, pw54, vw54, qw54, rw54⟩ := w_ast_s ew54
  refine g_aast (j := 12) F (pc := 33) d_Store_init_33 pw54 (C := "PackShelf$Thing") rfl vw54 (T := F_Thing) (N := 3) rfl (vq_in qw54 (by decide)) (by decide) ?_
  rw [← rw54]
  refine g_iinc (v := 13) (lv' := [(1, .int 13), (0, .ref i)]) F (pc := 34) d_Store_init_34 0 rfl (by decide) (by decide) rfl (g_goto (tgt := 15) F (pc := 37) d_Store_init_37 (by decide) (g_iload_n F (pc := 15) d_Store_init_15 0 rfl (g_bipush (v := 16) F (pc := 16) d_Store_init_16 (by decide) ?_)))
  refine g_icmp_ge (tgt := 40) F (pc := 18) d_Store_init_18 (by decide) (fun h => absurd h (by decide)) (fun _ => ?_)
  refine g_aload_n F (pc := 21) d_Store_init_21 1 rfl ?_
  obtain ⟨r55, er55, h⟩ := Option.bind_eq_some_iff.mp h
  obtain ⟨fsr55, pr55, qr55⟩ := w_get_s er55
  refine g_get F (pc := 22) d_Store_init_22 fi_Store_11.1 pr55 qr55 ?_
  refine g_iload_n F (pc := 25) d_Store_init_25 0 rfl (g_new F (pc := 26) d_Store_init_26 nw_Store_9 (Nat.le_of_ble_eq_true rfl) (Nat.le_of_ble_eq_true rfl) ?_)
  obtain ⟨w56, ew56, h⟩ := Option.bind_eq_some_iff.mp h
  rw [Option.some.inj ew56]
  refine g_dup F (pc := 29) d_Store_init_29 rfl ?_
  obtain ⟨w57, ew57, h⟩ := Option.bind_eq_some_iff.mp h
  refine g_callI (b := w54.length) (As := []) (st := [.ref w54.length, .int 13, .ref r55]) F (pc := 30) d_Store_init_30 cb_Store_17 iv_Thing_init np_Thing_init (k_Thing_init ew57) rfl (by decide) (Nat.le_of_ble_eq_true rfl) (Nat.le_of_ble_eq_true rfl) (Nat.le_of_ble_eq_true rfl) (fun r9 w9 h9 _ => PoW.el (P := fun r w' => Z w' 33 [(1, .int 13), (0, .ref i)] (r.toList ++ [.ref w54.length, .int 13, .ref r55]) _ _) h9 ?_)
  obtain ⟨w58, ew58, h⟩ := Option.bind_eq_some_iff.mp h
  obtain ⟨Lw58, gw58, pw58, vw58, qw58, rw58⟩ := w_ast_s ew58
  refine g_aast (j := 13) F (pc := 33) d_Store_init_33 pw58 (C := "PackShelf$Thing") rfl vw58 (T := F_Thing) (N := 3) rfl (vq_in qw58 (by decide)) (by decide) ?_
  rw [← rw58]
  refine g_iinc (v := 14) (lv' := [(1, .int 14), (0, .ref i)]) F (pc := 34) d_Store_init_34 0 rfl (by decide) (by decide) rfl (g_goto (tgt := 15) F (pc := 37) d_Store_init_37 (by decide) (g_iload_n F (pc := 15) d_Store_init_15 0 rfl (g_bipush (v := 16) F (pc := 16) d_Store_init_16 (by decide) ?_)))
  refine g_icmp_ge (tgt := 40) F (pc := 18) d_Store_init_18 (by decide) (fun h => absurd h (by decide)) (fun _ => ?_)
  refine g_aload_n F (pc := 21) d_Store_init_21 1 rfl ?_
  obtain ⟨r59, er59, h⟩ := Option.bind_eq_some_iff.mp h
  obtain ⟨fsr59, pr59, qr59⟩ := w_get_s er59
  refine g_get F (pc := 22) d_Store_init_22 fi_Store_11.1 pr59 qr59 ?_
  refine g_iload_n F (pc := 25) d_Store_init_25 0 rfl (g_new F (pc := 26) d_Store_init_26 nw_Store_9 (Nat.le_of_ble_eq_true rfl) (Nat.le_of_ble_eq_true rfl) ?_)
  obtain ⟨w60, ew60, h⟩ := Option.bind_eq_some_iff.mp h
  rw [Option.some.inj ew60]
  refine g_dup F (pc := 29) d_Store_init_29 rfl ?_
  obtain ⟨w61, ew61, h⟩ := Option.bind_eq_some_iff.mp h
  refine g_callI (b := w58.length) (As := []) (st := [.ref w58.length, .int 14, .ref r59]) F (pc := 30) d_Store_init_30 cb_Store_17 iv_Thing_init np_Thing_init (k_Thing_init ew61) rfl (by decide) (Nat.le_of_ble_eq_true rfl) (Nat.le_of_ble_eq_true rfl) (Nat.le_of_ble_eq_true rfl) (fun r9 w9 h9 _ => PoW.el (P := fun r w' => Z w' 33 [(1, .int 14), (0, .ref i)] (r.toList ++ [.ref w58.length, .int 14, .ref r59]) _ _) h9 ?_)
  obtain ⟨w62, ew62, h⟩ := Option.bind_eq_some_iff.mp h
  obtain ⟨Lw62, gw62, pw62, vw62, qw62, rw62⟩ := w_ast_s ew62
  refine g_aast (j := 14) F (pc := 33) d_Store_init_33 pw62 (C := "PackShelf$Thing") rfl vw62 (T := F_Thing) (N := 3) rfl (vq_in qw62 (by decide)) (by decide) ?_
  rw [← rw62]
  refine g_iinc (v := 15) (lv' := [(1, .int 15), (0, .ref i)]) F (pc := 34) d_Store_init_34 0 rfl (by decide) (by decide) rfl (g_goto (tgt := 15) F (pc := 37) d_Store_init_37 (by decide) (g_iload_n F (pc := 15) d_Store_init_15 0 rfl (g_bipush (v := 16) F (pc := 16) d_Store_init_16 (by decide) ?_)))
  refine g_icmp_ge (tgt := 40) F (pc := 18) d_Store_init_18 (by decide) (fun h => absurd h (by decide)) (fun _ => ?_)
  refine g_aload_n F (pc := 21) d_Store_init_21 1 rfl ?_
  obtain ⟨r63, er63, h⟩ := Option.bind_eq_some_iff.mp h
  obtain ⟨fsr63, pr63, qr63⟩ := w_get_s er63
  refine g_get F (pc := 22) d_Store_init_22 fi_Store_11.1 pr63 qr63 ?_
  refine g_iload_n F (pc := 25) d_Store_init_25 0 rfl (g_new F (pc := 26) d_Store_init_26 nw_Store_9 (Nat.le_of_ble_eq_true rfl) (Nat.le_of_ble_eq_true rfl) ?_)
  obtain ⟨w64, ew64, h⟩ := Option.bind_eq_some_iff.mp h
  rw [Option.some.inj ew64]
  refine g_dup F (pc := 29) d_Store_init_29 rfl ?_
  obtain ⟨w65, ew65, h⟩ := Option.bind_eq_some_iff.mp h
  refine g_callI (b := w62.length) (As := []) (st := [.ref w62.length, .int 15, .ref r63]) F (pc := 30) d_Store_init_30 cb_Store_17 iv_Thing_init np_Thing_init (k_Thing_init ew65) rfl (by decide) (Nat.le_of_ble_eq_true rfl) (Nat.le_of_ble_eq_true rfl) (Nat.le_of_ble_eq_true rfl) (fun r9 w9 h9 _ => PoW.el (P := fun r w' => Z w' 33 [(1, .int 15), (0, .ref i)] (r.toList ++ [.ref w62.length, .int 15, .ref r63]) _ _) h9 ?_)
  obtain ⟨w66, ew66, h⟩ := Option.bind_eq_some_iff.mp h
  obtain ⟨Lw66, gw66, pw66, vw66, qw66, rw66⟩ := w_ast_s ew66
  refine g_aast (j := 15) F (pc := 33) d_Store_init_33 pw66 (C := "PackShelf$Thing") rfl vw66 (T := F_Thing) (N := 3) rfl (vq_in qw66 (by decide)) (by decide) ?_
  rw [← rw66]
  refine g_iinc (v := 16) (lv' := [(1, .int 16), (0, .ref i)]) F (pc := 34) d_Store_init_34 0 rfl (by decide) (by decide) rfl (g_goto (tgt := 15) F (pc := 37) d_Store_init_37 (by decide) (g_iload_n F (pc := 15) d_Store_init_15 0 rfl (g_bipush (v := 16) F (pc := 16) d_Store_init_16 (by decide) ?_)))
  refine g_icmp_ge (tgt := 40) F (pc := 18) d_Store_init_18 (by decide) (fun _ => ?_) (fun h => absurd (by decide) h)
  refine g_aload_n F (pc := 40) d_Store_init_40 1 rfl (g_iconst (v := 0) F (pc := 41) d_Store_init_41 (by decide) ?_)
  obtain ⟨w67, ew67, h⟩ := Option.bind_eq_some_iff.mp h
  obtain ⟨fsw67, pw67, qw67, rw67⟩ := w_put_s ew67
  refine g_put F (pc := 42) d_Store_init_42 cl_4 (sk_fp_of pi_Store_18.2.1) pw67 qw67 (fun _ => rfl) (fun _ => rfl) ?_
  rw [← rw67]
  refine g_aload_n F (pc := 45) d_Store_init_45 1 rfl (g_iconst (v := 4) F (pc := 46) d_Store_init_46 (by decide) (g_newa (t := 0) (N := 4) F (pc := 47) d_Store_init_47 rfl na_int rfl rfl nb_int (by decide) (by decide) (by decide) (Nat.le_of_ble_eq_true rfl) (Nat.le_of_ble_eq_true rfl) ?_))
  obtain ⟨w68, ew68, h⟩ := Option.bind_eq_some_iff.mp h
  rw [Option.some.inj ew68]
  obtain ⟨w69, ew69, h⟩ := Option.bind_eq_some_iff.mp h
  obtain ⟨fsw69, pw69, qw69, rw69⟩ := w_put_s ew69
  refine g_put F (pc := 49) d_Store_init_49 cl_4 (pf_Store_22 _ rfl rfl) pw69 qw69 (fun _ => rfl) (fun _ => rfl) ?_
  rw [← rw69]
  refine g_aload_n F (pc := 52) d_Store_init_52 1 rfl ?_
  obtain ⟨r70, er70, h⟩ := Option.bind_eq_some_iff.mp h
  obtain ⟨fsr70, pr70, qr70⟩ := w_get_s er70
  refine g_get F (pc := 53) d_Store_init_53 fi_Store_22.1 pr70 qr70 ?_
  refine g_iconst (v := (-1)) F (pc := 56) d_Store_init_56 (by decide) ?_
  obtain ⟨w71, ew71, h⟩ := Option.bind_eq_some_iff.mp h
  obtain ⟨Lw71, pw71, qw71, rw71⟩ := w_fil_s ew71
  refine g_callS (As := [.ref r70, .int (-1)]) (st := []) F (pc := 57) d_Store_init_57 cb_Store_26 iv_JArr_fill np_JArr_fill (k_fill pw71 qw71) rfl (by decide) (Nat.le_of_ble_eq_true rfl) (Nat.le_of_ble_eq_true rfl) (Nat.le_of_ble_eq_true rfl) (fun r9 w9 h9 _ => PoW.el (P := fun r w' => Z w' 60 [(1, .int 16), (0, .ref i)] (r.toList ++ []) _ _) h9 ?_)
  rw [← rw71]
  refine g_aload_n F (pc := 60) d_Store_init_60 1 rfl (g_bipush (v := 16) F (pc := 61) d_Store_init_61 (by decide) (g_newa (t := 1) (N := 16) F (pc := 63) d_Store_init_63 rfl na_boolean rfl rfl nb_boolean (by decide) (by decide) (by decide) (Nat.le_of_ble_eq_true rfl) (Nat.le_of_ble_eq_true rfl) ?_))
  obtain ⟨w72, ew72, h⟩ := Option.bind_eq_some_iff.mp h
  rw [Option.some.inj ew72]
  obtain ⟨w73, ew73, h⟩ := Option.bind_eq_some_iff.mp h
  obtain ⟨fsw73, pw73, qw73, rw73⟩ := w_put_s ew73
  refine g_put F (pc := 65) d_Store_init_65 cl_4 (pf_Store_32 _ rfl rfl) pw73 qw73 (fun _ => rfl) (fun _ => rfl) ?_
  rw [← rw73]
  refine g_aload_n F (pc := 68) d_Store_init_68 1 rfl (g_bipush (v := 16) F (pc := 69) d_Store_init_69 (by decide) (g_newa (t := 0) (N := 16) F (pc := 71) d_Store_init_71 rfl na_int rfl rfl nb_int (by decide) (by decide) (by decide) (Nat.le_of_ble_eq_true rfl) (Nat.le_of_ble_eq_true rfl) ?_))
  obtain ⟨w74, ew74, h⟩ := Option.bind_eq_some_iff.mp h
  rw [Option.some.inj ew74]
  obtain ⟨w75, ew75, h⟩ := Option.bind_eq_some_iff.mp h
  obtain ⟨fsw75, pw75, qw75, rw75⟩ := w_put_s ew75
  refine g_put F (pc := 73) d_Store_init_73 cl_4 (pf_Store_36 _ rfl rfl) pw75 qw75 (fun _ => rfl) (fun _ => rfl) ?_
  rw [← rw75]
  refine g_aload_n F (pc := 76) d_Store_init_76 1 rfl (g_iconst (v := 0) F (pc := 77) d_Store_init_77 (by decide) ?_)
  obtain ⟨w76, ew76, h⟩ := Option.bind_eq_some_iff.mp h
  obtain ⟨fsw76, pw76, qw76, rw76⟩ := w_put_s ew76
  refine g_put F (pc := 78) d_Store_init_78 cl_4 (sk_fp_of pi_Store_39.2.1) pw76 qw76 (fun _ => rfl) (fun _ => rfl) ?_
  rw [← rw76]
  rw [Option.some.inj h]
  exact g_vret T (pc := 81) d_Store_init_81 rfl (Nat.le_of_ble_eq_true rfl) (Nat.le_of_ble_eq_true rfl) ⟨rfl, rfl⟩
theorem d_Wri_init_0 : decode M_Wri_init.2.1 0 = .ok (.aload_n 0, 1) := by decide +kernel
theorem d_Wri_init_1 : decode M_Wri_init.2.1 1 = .ok (.invokespecial 3, 3) := by decide +kernel
theorem d_Wri_init_4 : decode M_Wri_init.2.1 4 = .ok (.aload_n 0, 1) := by decide +kernel
theorem d_Wri_init_5 : decode M_Wri_init.2.1 5 = .ok (.new 9, 3) := by decide +kernel
theorem d_Wri_init_8 : decode M_Wri_init.2.1 8 = .ok (.dup, 1) := by decide +kernel
theorem d_Wri_init_9 : decode M_Wri_init.2.1 9 = .ok (.bipush 123, 2) := by decide +kernel
theorem d_Wri_init_11 : decode M_Wri_init.2.1 11 = .ok (.invokespecial 11, 3) := by decide +kernel
theorem d_Wri_init_14 : decode M_Wri_init.2.1 14 = .ok (.putfield 14, 3) := by decide +kernel
theorem d_Wri_init_17 : decode M_Wri_init.2.1 17 = .ok (.aload_n 0, 1) := by decide +kernel
theorem d_Wri_init_18 : decode M_Wri_init.2.1 18 = .ok (.aconst_null, 1) := by decide +kernel
theorem d_Wri_init_19 : decode M_Wri_init.2.1 19 = .ok (.putfield 20, 3) := by decide +kernel
theorem d_Wri_init_22 : decode M_Wri_init.2.1 22 = .ok (.aload_n 0, 1) := by decide +kernel
theorem d_Wri_init_23 : decode M_Wri_init.2.1 23 = .ok (.iconst 0, 1) := by decide +kernel
theorem d_Wri_init_24 : decode M_Wri_init.2.1 24 = .ok (.putfield 24, 3) := by decide +kernel
theorem d_Wri_init_27 : decode M_Wri_init.2.1 27 = .ok (.aload_n 0, 1) := by decide +kernel
theorem d_Wri_init_28 : decode M_Wri_init.2.1 28 = .ok (.iconst 0, 1) := by decide +kernel
theorem d_Wri_init_29 : decode M_Wri_init.2.1 29 = .ok (.putfield 28, 3) := by decide +kernel
theorem d_Wri_init_32 : decode M_Wri_init.2.1 32 = .ok (.return_, 1) := by decide +kernel
def x_Wri_init (i : Nat) (w : sk_H) : Option sk_H :=
  (some (w ++ [.inr (.inr (1, [.null, .int 0]))])).bind fun w1 =>
  (x_Row_init (w.length) 123 w1).bind fun w2 =>
  (w_put w2 i 5 0 (.ref w.length)).bind fun w3 =>
  (w_put w3 i 5 1 (.null)).bind fun w4 =>
  (w_put w4 i 5 2 (.int 0)).bind fun w5 =>
  (w_put w5 i 5 3 (.int 0)).bind fun w6 =>
  some w6
theorem k_Wri_init {i : Nat} {w w' : sk_H} (h : x_Wri_init i w = some w') : Ct M_Wri_init 2 2 125 w [.ref i] (PoW w') := by
  refine Ct.of (by decide +kernel) (Nat.le_of_ble_eq_true rfl) (fun Z T => ?_)
  have F := T.F
  unfold x_Wri_init at h
  show Z w 0 [(0, .ref i)] [] 0 0
  refine g_aload_n F (pc := 0) d_Wri_init_0 0 rfl (g_objInit F (pc := 1) d_Wri_init_1 ml_Wri_3 oi_2 oi_3 (by decide) (g_aload_n F (pc := 4) d_Wri_init_4 0 rfl (g_new F (pc := 5) d_Wri_init_5 nw_Wri_9 (Nat.le_of_ble_eq_true rfl) (Nat.le_of_ble_eq_true rfl) ?_)))
  obtain ⟨w1, ew1, h⟩ := Option.bind_eq_some_iff.mp h
  rw [Option.some.inj ew1]
  refine g_dup F (pc := 8) d_Wri_init_8 rfl (g_bipush (v := 123) F (pc := 9) d_Wri_init_9 (by decide) ?_)
  obtain ⟨w2, ew2, h⟩ := Option.bind_eq_some_iff.mp h
  refine g_callI (b := w.length) (As := [.int (nI 123)]) (st := [.ref w.length, .ref i]) F (pc := 11) d_Wri_init_11 cb_Wri_11 iv_Row_init np_Row_init (k_Row_init (N := 123) (by decide) ew2) rfl (by decide) (Nat.le_of_ble_eq_true rfl) (Nat.le_of_ble_eq_true rfl) (Nat.le_of_ble_eq_true rfl) (fun r9 w9 h9 _ => PoW.el (P := fun r w' => Z w' 14 [(0, .ref i)] (r.toList ++ [.ref w.length, .ref i]) _ _) h9 ?_)
  obtain ⟨w3, ew3, h⟩ := Option.bind_eq_some_iff.mp h
  obtain ⟨fsw3, pw3, qw3, rw3⟩ := w_put_s ew3
  refine g_put F (pc := 14) d_Wri_init_14 cl_5 (pf_Wri_14 _ rfl rfl) pw3 qw3 (fun _ => rfl) (fun _ => rfl) ?_
  rw [← rw3]
  refine g_aload_n F (pc := 17) d_Wri_init_17 0 rfl (g_null F (pc := 18) d_Wri_init_18 ?_)
  obtain ⟨w4, ew4, h⟩ := Option.bind_eq_some_iff.mp h
  obtain ⟨fsw4, pw4, qw4, rw4⟩ := w_put_s ew4
  refine g_put F (pc := 19) d_Wri_init_19 cl_5 (sk_fp_of pi_Wri_20.2.1) pw4 qw4 (fun _ => rfl) (fun _ => rfl) ?_
  rw [← rw4]
  refine g_aload_n F (pc := 22) d_Wri_init_22 0 rfl (g_iconst (v := 0) F (pc := 23) d_Wri_init_23 (by decide) ?_)
  obtain ⟨w5, ew5, h⟩ := Option.bind_eq_some_iff.mp h
  obtain ⟨fsw5, pw5, qw5, rw5⟩ := w_put_s ew5
  refine g_put F (pc := 24) d_Wri_init_24 cl_5 (sk_fp_of pi_Wri_24.2.1) pw5 qw5 (fun _ => rfl) (fun _ => rfl) ?_
  rw [← rw5]
  refine g_aload_n F (pc := 27) d_Wri_init_27 0 rfl (g_iconst (v := 0) F (pc := 28) d_Wri_init_28 (by decide) ?_)
  obtain ⟨w6, ew6, h⟩ := Option.bind_eq_some_iff.mp h
  obtain ⟨fsw6, pw6, qw6, rw6⟩ := w_put_s ew6
  refine g_put F (pc := 29) d_Wri_init_29 cl_5 (sk_fp_of pi_Wri_28.2.1) pw6 qw6 (fun _ => rfl) (fun _ => rfl) ?_
  rw [← rw6]
  rw [Option.some.inj h]
  exact g_vret T (pc := 32) d_Wri_init_32 rfl (Nat.le_of_ble_eq_true rfl) (Nat.le_of_ble_eq_true rfl) ⟨rfl, rfl⟩
theorem d_Rea_init_0 : decode M_Rea_init.2.1 0 = .ok (.aload_n 0, 1) := by decide +kernel
theorem d_Rea_init_1 : decode M_Rea_init.2.1 1 = .ok (.invokespecial 3, 3) := by decide +kernel
theorem d_Rea_init_4 : decode M_Rea_init.2.1 4 = .ok (.aload_n 0, 1) := by decide +kernel
theorem d_Rea_init_5 : decode M_Rea_init.2.1 5 = .ok (.bipush 16, 2) := by decide +kernel
theorem d_Rea_init_7 : decode M_Rea_init.2.1 7 = .ok (.anewarray 9, 3) := by decide +kernel
theorem d_Rea_init_10 : decode M_Rea_init.2.1 10 = .ok (.putfield 11, 3) := by decide +kernel
theorem d_Rea_init_13 : decode M_Rea_init.2.1 13 = .ok (.iconst 0, 1) := by decide +kernel
theorem d_Rea_init_14 : decode M_Rea_init.2.1 14 = .ok (.istore_n 1, 1) := by decide +kernel
theorem d_Rea_init_15 : decode M_Rea_init.2.1 15 = .ok (.iload_n 1, 1) := by decide +kernel
theorem d_Rea_init_16 : decode M_Rea_init.2.1 16 = .ok (.bipush 16, 2) := by decide +kernel
theorem d_Rea_init_18 : decode M_Rea_init.2.1 18 = .ok (.if_icmp .ge 22, 3) := by decide +kernel
theorem d_Rea_init_21 : decode M_Rea_init.2.1 21 = .ok (.aload_n 0, 1) := by decide +kernel
theorem d_Rea_init_22 : decode M_Rea_init.2.1 22 = .ok (.getfield 11, 3) := by decide +kernel
theorem d_Rea_init_25 : decode M_Rea_init.2.1 25 = .ok (.iload_n 1, 1) := by decide +kernel
theorem d_Rea_init_26 : decode M_Rea_init.2.1 26 = .ok (.new 9, 3) := by decide +kernel
theorem d_Rea_init_29 : decode M_Rea_init.2.1 29 = .ok (.dup, 1) := by decide +kernel
theorem d_Rea_init_30 : decode M_Rea_init.2.1 30 = .ok (.invokespecial 17, 3) := by decide +kernel
theorem d_Rea_init_33 : decode M_Rea_init.2.1 33 = .ok (.aastore, 1) := by decide +kernel
theorem d_Rea_init_34 : decode M_Rea_init.2.1 34 = .ok (.iinc 1 1, 3) := by decide +kernel
theorem d_Rea_init_37 : decode M_Rea_init.2.1 37 = .ok (.goto (-22), 3) := by decide +kernel
theorem d_Rea_init_40 : decode M_Rea_init.2.1 40 = .ok (.aload_n 0, 1) := by decide +kernel
theorem d_Rea_init_41 : decode M_Rea_init.2.1 41 = .ok (.iconst 0, 1) := by decide +kernel
theorem d_Rea_init_42 : decode M_Rea_init.2.1 42 = .ok (.putfield 18, 3) := by decide +kernel
theorem d_Rea_init_45 : decode M_Rea_init.2.1 45 = .ok (.aload_n 0, 1) := by decide +kernel
theorem d_Rea_init_46 : decode M_Rea_init.2.1 46 = .ok (.bipush 16, 2) := by decide +kernel
theorem d_Rea_init_48 : decode M_Rea_init.2.1 48 = .ok (.newarray .int, 2) := by decide +kernel
theorem d_Rea_init_50 : decode M_Rea_init.2.1 50 = .ok (.putfield 22, 3) := by decide +kernel
theorem d_Rea_init_53 : decode M_Rea_init.2.1 53 = .ok (.aload_n 0, 1) := by decide +kernel
theorem d_Rea_init_54 : decode M_Rea_init.2.1 54 = .ok (.new 26, 3) := by decide +kernel
theorem d_Rea_init_57 : decode M_Rea_init.2.1 57 = .ok (.dup, 1) := by decide +kernel
theorem d_Rea_init_58 : decode M_Rea_init.2.1 58 = .ok (.bipush 120, 2) := by decide +kernel
theorem d_Rea_init_60 : decode M_Rea_init.2.1 60 = .ok (.invokespecial 28, 3) := by decide +kernel
theorem d_Rea_init_63 : decode M_Rea_init.2.1 63 = .ok (.putfield 31, 3) := by decide +kernel
theorem d_Rea_init_66 : decode M_Rea_init.2.1 66 = .ok (.aload_n 0, 1) := by decide +kernel
theorem d_Rea_init_67 : decode M_Rea_init.2.1 67 = .ok (.new 26, 3) := by decide +kernel
theorem d_Rea_init_70 : decode M_Rea_init.2.1 70 = .ok (.dup, 1) := by decide +kernel
theorem d_Rea_init_71 : decode M_Rea_init.2.1 71 = .ok (.bipush 7, 2) := by decide +kernel
theorem d_Rea_init_73 : decode M_Rea_init.2.1 73 = .ok (.invokespecial 28, 3) := by decide +kernel
theorem d_Rea_init_76 : decode M_Rea_init.2.1 76 = .ok (.putfield 37, 3) := by decide +kernel
theorem d_Rea_init_79 : decode M_Rea_init.2.1 79 = .ok (.aload_n 0, 1) := by decide +kernel
theorem d_Rea_init_80 : decode M_Rea_init.2.1 80 = .ok (.iconst 0, 1) := by decide +kernel
theorem d_Rea_init_81 : decode M_Rea_init.2.1 81 = .ok (.putfield 40, 3) := by decide +kernel
theorem d_Rea_init_84 : decode M_Rea_init.2.1 84 = .ok (.aload_n 0, 1) := by decide +kernel
theorem d_Rea_init_85 : decode M_Rea_init.2.1 85 = .ok (.iconst 0, 1) := by decide +kernel
theorem d_Rea_init_86 : decode M_Rea_init.2.1 86 = .ok (.putfield 43, 3) := by decide +kernel
theorem d_Rea_init_89 : decode M_Rea_init.2.1 89 = .ok (.return_, 1) := by decide +kernel
def x_Rea_init (i : Nat) (w : sk_H) : Option sk_H :=
  (some (w ++ [.inr (.inl (2, List.replicate 16 none))])).bind fun w1 =>
  (w_put w1 i 6 0 (.ref w.length)).bind fun w2 =>
  (w_get w2 i 6 0).bind fun r3 =>
  (some (w2 ++ [.inr (.inr (3, [.int 0, .null, .null]))])).bind fun w4 =>
  (x_Thing_init (w2.length) w4).bind fun w5 =>
  (w_ast w5 r3 0 (w2.length)).bind fun w6 =>
  (w_get w6 i 6 0).bind fun r7 =>
  (some (w6 ++ [.inr (.inr (3, [.int 0, .null, .null]))])).bind fun w8 =>
  (x_Thing_init (w6.length) w8).bind fun w9 =>
  (w_ast w9 r7 1 (w6.length)).bind fun w10 =>
  (w_get w10 i 6 0).bind fun r11 =>
  (some (w10 ++ [.inr (.inr (3, [.int 0, .null, .null]))])).bind fun w12 =>
  (x_Thing_init (w10.length) w12).bind fun w13 =>
  (w_ast w13 r11 2 (w10.length)).bind fun w14 =>
  (w_get w14 i 6 0).bind fun r15 =>
  (some (w14 ++ [.inr (.inr (3, [.int 0, .null, .null]))])).bind fun w16 =>
  (x_Thing_init (w14.length) w16).bind fun w17 =>
  (w_ast w17 r15 3 (w14.length)).bind fun w18 =>
  (w_get w18 i 6 0).bind fun r19 =>
  (some (w18 ++ [.inr (.inr (3, [.int 0, .null, .null]))])).bind fun w20 =>
  (x_Thing_init (w18.length) w20).bind fun w21 =>
  (w_ast w21 r19 4 (w18.length)).bind fun w22 =>
  (w_get w22 i 6 0).bind fun r23 =>
  (some (w22 ++ [.inr (.inr (3, [.int 0, .null, .null]))])).bind fun w24 =>
  (x_Thing_init (w22.length) w24).bind fun w25 =>
  (w_ast w25 r23 5 (w22.length)).bind fun w26 =>
  (w_get w26 i 6 0).bind fun r27 =>
  (some (w26 ++ [.inr (.inr (3, [.int 0, .null, .null]))])).bind fun w28 =>
  (x_Thing_init (w26.length) w28).bind fun w29 =>
  (w_ast w29 r27 6 (w26.length)).bind fun w30 =>
  (w_get w30 i 6 0).bind fun r31 =>
  (some (w30 ++ [.inr (.inr (3, [.int 0, .null, .null]))])).bind fun w32 =>
  (x_Thing_init (w30.length) w32).bind fun w33 =>
  (w_ast w33 r31 7 (w30.length)).bind fun w34 =>
  (w_get w34 i 6 0).bind fun r35 =>
  (some (w34 ++ [.inr (.inr (3, [.int 0, .null, .null]))])).bind fun w36 =>
  (x_Thing_init (w34.length) w36).bind fun w37 =>
  (w_ast w37 r35 8 (w34.length)).bind fun w38 =>
  (w_get w38 i 6 0).bind fun r39 =>
  (some (w38 ++ [.inr (.inr (3, [.int 0, .null, .null]))])).bind fun w40 =>
  (x_Thing_init (w38.length) w40).bind fun w41 =>
  (w_ast w41 r39 9 (w38.length)).bind fun w42 =>
  (w_get w42 i 6 0).bind fun r43 =>
  (some (w42 ++ [.inr (.inr (3, [.int 0, .null, .null]))])).bind fun w44 =>
  (x_Thing_init (w42.length) w44).bind fun w45 =>
  (w_ast w45 r43 10 (w42.length)).bind fun w46 =>
  (w_get w46 i 6 0).bind fun r47 =>
  (some (w46 ++ [.inr (.inr (3, [.int 0, .null, .null]))])).bind fun w48 =>
  (x_Thing_init (w46.length) w48).bind fun w49 =>
  (w_ast w49 r47 11 (w46.length)).bind fun w50 =>
  (w_get w50 i 6 0).bind fun r51 =>
  (some (w50 ++ [.inr (.inr (3, [.int 0, .null, .null]))])).bind fun w52 =>
  (x_Thing_init (w50.length) w52).bind fun w53 =>
  (w_ast w53 r51 12 (w50.length)).bind fun w54 =>
  (w_get w54 i 6 0).bind fun r55 =>
  (some (w54 ++ [.inr (.inr (3, [.int 0, .null, .null]))])).bind fun w56 =>
  (x_Thing_init (w54.length) w56).bind fun w57 =>
  (w_ast w57 r55 13 (w54.length)).bind fun w58 =>
  (w_get w58 i 6 0).bind fun r59 =>
  (some (w58 ++ [.inr (.inr (3, [.int 0, .null, .null]))])).bind fun w60 =>
  (x_Thing_init (w58.length) w60).bind fun w61 =>
  (w_ast w61 r59 14 (w58.length)).bind fun w62 =>
  (w_get w62 i 6 0).bind fun r63 =>
  (some (w62 ++ [.inr (.inr (3, [.int 0, .null, .null]))])).bind fun w64 =>
  (x_Thing_init (w62.length) w64).bind fun w65 =>
  (w_ast w65 r63 15 (w62.length)).bind fun w66 =>
  (w_put w66 i 6 1 (.int 0)).bind fun w67 =>
  (some (w67 ++ [.inl (0, List.replicate 16 0)])).bind fun w68 =>
  (w_put w68 i 6 2 (.ref w67.length)).bind fun w69 =>
  (some (w69 ++ [.inr (.inr (1, [.null, .int 0]))])).bind fun w70 =>
  (x_Row_init (w69.length) 120 w70).bind fun w71 =>
  (w_put w71 i 6 3 (.ref w69.length)).bind fun w72 =>
  (some (w72 ++ [.inr (.inr (1, [.null, .int 0]))])).bind fun w73 =>
  (x_Row_init (w72.length) 7 w73).bind fun w74 =>
  (w_put w74 i 6 4 (.ref w72.length)).bind fun w75 =>
  (w_put w75 i 6 5 (.int 0)).bind fun w76 =>
  (w_put w76 i 6 6 (.int 0)).bind fun w77 =>
  some w77
theorem k_Rea_init {i : Nat} {w w' : sk_H} (h : x_Rea_init i w = some w') : Ct M_Rea_init 3 70 2243 w [.ref i] (PoW w') := by
  refine Ct.of (by decide +kernel) (Nat.le_of_ble_eq_true rfl) (fun Z T => ?_)
  have F := T.F
  unfold x_Rea_init at h
  show Z w 0 [(0, .ref i)] [] 0 0
  refine g_aload_n F (pc := 0) d_Rea_init_0 0 rfl (g_objInit F (pc := 1) d_Rea_init_1 ml_Rea_3 oi_2 oi_3 (by decide) (g_aload_n F (pc := 4) d_Rea_init_4 0 rfl (g_bipush (v := 16) F (pc := 5) d_Rea_init_5 (by decide) (g_newq (t := 2) (N := 16) F (pc := 7) d_Rea_init_7 nq_Rea_9 rfl rfl (by decide) (by decide) (by decide) (Nat.le_of_ble_eq_true rfl) (Nat.le_of_ble_eq_true rfl) ?_))))
  obtain ⟨w1, ew1, h⟩ := Option.bind_eq_some_iff.mp h
  rw [Option.some.inj ew1]
  obtain ⟨w2, ew2, h⟩ := Option.bind_eq_some_iff.mp h
  obtain ⟨fsw2, pw2, qw2, rw2⟩ := w_put_s ew2
  refine g_put F (pc := 10) d_Rea_init_10 cl_6 (pf_Rea_11 _ rfl rfl) pw2 qw2 (fun _ => rfl) (fun _ => rfl) ?_
  rw [← rw2]
  refine g_iconst (v := 0) F (pc := 13) d_Rea_init_13 (by decide) (g_istore_n (lv' := [(1, .int 0), (0, .ref i)]) F (pc := 14) d_Rea_init_14 (by decide) rfl (g_iload_n F (pc := 15) d_Rea_init_15 0 rfl (g_bipush (v := 16) F (pc := 16) d_Rea_init_16 (by decide) ?_)))
  refine g_icmp_ge (tgt := 40) F (pc := 18) d_Rea_init_18 (by decide) (fun h => absurd h (by decide)) (fun _ => ?_)
  refine g_aload_n F (pc := 21) d_Rea_init_21 1 rfl ?_
  obtain ⟨r3, er3, h⟩ := Option.bind_eq_some_iff.mp h
  obtain ⟨fsr3, pr3, qr3⟩ := w_get_s er3
  refine g_get F (pc := 22) d_Rea_init_22 fi_Rea_11.1 pr3 qr3 ?_
  refine g_iload_n F (pc := 25) d_Rea_init_25 0 rfl (g_new F (pc := 26) d_Rea_init_26 nw_Rea_9 (Nat.le_of_ble_eq_true rfl) (Nat.le_of_ble_eq_true rfl) ?_)
  obtain ⟨w4, ew4, h⟩ := Option.bind_eq_some_iff.mp h
  rw [Option.some.inj ew4]
  refine g_dup F (pc := 29) d_Rea_init_29 rfl ?_
  obtain ⟨w5, ew5, h⟩ := Option.bind_eq_some_iff.mp h
  refine g_callI (b := w2.length) (As := []) (st := [.ref w2.length, .int 0, .ref r3]) F (pc := 30) d_Rea_init_30 cb_Rea_17 iv_Thing_init np_Thing_init (k_Thing_init ew5) rfl (by decide) (Nat.le_of_ble_eq_true rfl) (Nat.le_of_ble_eq_true rfl) (Nat.le_of_ble_eq_true rfl) (fun r9 w9 h9 _ => PoW.el (P := fun r w' => Z w' 33 [(1, .int 0), (0, .ref i)] (r.toList ++ [.ref w2.length, .int 0, .ref r3]) _ _) h9 ?_)
  obtain ⟨w6, ew6, h⟩ := Option.bind_eq_some_iff.mp h
  obtain ⟨Lw6, gw6, pw6, vw6, qw6, rw6⟩ := w_ast_s ew6
  refine g_aast (j := 0) F (pc := 33) d_Rea_init_33 pw6 (C := "PackShelf$Thing") rfl vw6 (T := F_Thing) (N := 3) rfl (vq_in qw6 (by decide)) (by decide) ?_
  rw [← rw6]
  refine g_iinc (v := 1) (lv' := [(1, .int 1), (0, .ref i)]) F (pc := 34) d_Rea_init_34 0 rfl (by decide) (by decide) rfl (g_goto (tgt := 15) F (pc := 37) d_Rea_init_37 (by decide) (g_iload_n F (pc := 15) d_Rea_init_15 0 rfl (g_bipush (v := 16) F (pc := 16) d_Rea_init_16 (by decide) ?_)))
  refine g_icmp_ge (tgt := 40) F (pc := 18) d_Rea_init_18 (by decide) (fun h => absurd h (by decide)) (fun _ => ?_)
  refine g_aload_n F (pc := 21) d_Rea_init_21 1 rfl ?_
  obtain ⟨r7, er7, h⟩ := Option.bind_eq_some_iff.mp h
  obtain ⟨fsr7, pr7, qr7⟩ := w_get_s er7
  refine g_get F (pc := 22) d_Rea_init_22 fi_Rea_11.1 pr7 qr7 ?_
  refine g_iload_n F (pc := 25) d_Rea_init_25 0 rfl (g_new F (pc := 26) d_Rea_init_26 nw_Rea_9 (Nat.le_of_ble_eq_true rfl) (Nat.le_of_ble_eq_true rfl) ?_)
  obtain ⟨w8, ew8, h⟩ := Option.bind_eq_some_iff.mp h
  rw [Option.some.inj ew8]
  refine g_dup F (pc := 29) d_Rea_init_29 rfl ?_
  obtain ⟨w9, ew9, h⟩ := Option.bind_eq_some_iff.mp h
  refine g_callI (b := w6.length) (As := []) (st := [.ref w6.length, .int 1, .ref r7]) F (pc := 30) d_Rea_init_30 cb_Rea_17 iv_Thing_init np_Thing_init (k_Thing_init ew9) rfl (by decide) (Nat.le_of_ble_eq_true rfl) (Nat.le_of_ble_eq_true rfl) (Nat.le_of_ble_eq_true rfl) (fun r9 w9 h9 _ => PoW.el (P := fun r w' => Z w' 33 [(1, .int 1), (0, .ref i)] (r.toList ++ [.ref w6.length, .int 1, .ref r7]) _ _) h9 ?_)
  obtain ⟨w10, ew10, h⟩ := Option.bind_eq_some_iff.mp h
  obtain ⟨Lw10, gw10, pw10, vw10, qw10, rw10⟩ := w_ast_s ew10
  refine g_aast (j := 1) F (pc := 33) d_Rea_init_33 pw10 (C := "PackShelf$Thing") rfl vw10 (T := F_Thing) (N := 3) rfl (vq_in qw10 (by decide)) (by decide) ?_
  rw [← rw10]
  refine g_iinc (v := 2) (lv' := [(1, .int 2), (0, .ref i)]) F (pc := 34) d_Rea_init_34 0 rfl (by decide) (by decide) rfl (g_goto (tgt := 15) F (pc := 37) d_Rea_init_37 (by decide) (g_iload_n F (pc := 15) d_Rea_init_15 0 rfl (g_bipush (v := 16) F (pc := 16) d_Rea_init_16 (by decide) ?_)))
  refine g_icmp_ge (tgt := 40) F (pc := 18) d_Rea_init_18 (by decide) (fun h => absurd h (by decide)) (fun _ => ?_)
  refine g_aload_n F (pc := 21) d_Rea_init_21 1 rfl ?_
  obtain ⟨r11, er11, h⟩ := Option.bind_eq_some_iff.mp h
  obtain ⟨fsr11, pr11, qr11⟩ := w_get_s er11
  refine g_get F (pc := 22) d_Rea_init_22 fi_Rea_11.1 pr11 qr11 ?_
  refine g_iload_n F (pc := 25) d_Rea_init_25 0 rfl (g_new F (pc := 26) d_Rea_init_26 nw_Rea_9 (Nat.le_of_ble_eq_true rfl) (Nat.le_of_ble_eq_true rfl) ?_)
  obtain ⟨w12, ew12, h⟩ := Option.bind_eq_some_iff.mp h
  rw [Option.some.inj ew12]
  refine g_dup F (pc := 29) d_Rea_init_29 rfl ?_
  obtain ⟨w13, ew13, h⟩ := Option.bind_eq_some_iff.mp h
  refine g_callI (b := w10.length) (As := []) (st := [.ref w10.length, .int 2, .ref r11]) F (pc := 30) d_Rea_init_30 cb_Rea_17 iv_Thing_init np_Thing_init (k_Thing_init ew13) rfl (by decide) (Nat.le_of_ble_eq_true rfl) (Nat.le_of_ble_eq_true rfl) (Nat.le_of_ble_eq_true rfl) (fun r9 w9 h9 _ => PoW.el (P := fun r w' => Z w' 33 [(1, .int 2), (0, .ref i)] (r.toList ++ [.ref w10.length, .int 2, .ref r11]) _ _) h9 ?_)
  obtain ⟨w14, ew14, h⟩ := Option.bind_eq_some_iff.mp h
  obtain ⟨Lw14, gw14, pw14, vw14, qw14, rw14⟩ := w_ast_s ew14
  refine g_aast (j := 2) F (pc := 33) d_Rea_init_33 pw14 (C := "PackShelf$Thing") rfl vw14 (T := F_Thing) (N := 3) rfl (vq_in qw14 (by decide)) (by decide) ?_
  rw [← rw14]
  refine g_iinc (v := 3) (lv' := [(1, .int 3), (0, .ref i)]) F (pc := 34) d_Rea_init_34 0 rfl (by decide) (by decide) rfl (g_goto (tgt := 15) F (pc := 37) d_Rea_init_37 (by decide) (g_iload_n F (pc := 15) d_Rea_init_15 0 rfl (g_bipush (v := 16) F (pc := 16) d_Rea_init_16 (by decide) ?_)))
  refine g_icmp_ge (tgt := 40) F (pc := 18) d_Rea_init_18 (by decide) (fun h => absurd h (by decide)) (fun _ => ?_)
  refine g_aload_n F (pc := 21) d_Rea_init_21 1 rfl ?_
  obtain ⟨r15, er15, h⟩ := Option.bind_eq_some_iff.mp h
  obtain ⟨fsr15, pr15, qr15⟩ := w_get_s er15
  refine g_get F (pc := 22) d_Rea_init_22 fi_Rea_11.1 pr15 qr15 ?_
  refine g_iload_n F (pc := 25) d_Rea_init_25 0 rfl (g_new F (pc := 26) d_Rea_init_26 nw_Rea_9 (Nat.le_of_ble_eq_true rfl) (Nat.le_of_ble_eq_true rfl) ?_)
  obtain ⟨w16, ew16, h⟩ := Option.bind_eq_some_iff.mp h
  rw [Option.some.inj ew16]
  refine g_dup F (pc := 29) d_Rea_init_29 rfl ?_
  obtain ⟨w17, ew17, h⟩ := Option.bind_eq_some_iff.mp h
  refine g_callI (b := w14.length) (As := []) (st := [.ref w14.length, .int 3, .ref r15]) F (pc := 30) d_Rea_init_30 cb_Rea_17 iv_Thing_init np_Thing_init (k_Thing_init ew17) rfl (by decide) (Nat.le_of_ble_eq_true rfl) (Nat.le_of_ble_eq_true rfl) (Nat.le_of_ble_eq_true rfl) (fun r9 w9 h9 _ => PoW.el (P := fun r w' => Z w' 33 [(1, .int 3), (0, .ref i)] (r.toList ++ [.ref w14.length, .int 3, .ref r15]) _ _) h9 ?_)
  obtain ⟨w18, ew18, h⟩ := Option.bind_eq_some_iff.mp h
  obtain ⟨Lw18, gw18, pw18, vw18, qw18, rw18⟩ := w_ast_s ew18
  refine g_aast (j := 3) F (pc := 33) d_Rea_init_33 pw18 (C := "PackShelf$Thing") rfl vw18 (T := F_Thing) (N := 3) rfl (vq_in qw18 (by decide)) (by decide) ?_
  rw [← rw18]
  refine g_iinc (v := 4) (lv' := [(1, .int 4), (0, .ref i)]) F (pc := 34) d_Rea_init_34 0 rfl (by decide) (by decide) rfl (g_goto (tgt := 15) F (pc := 37) d_Rea_init_37 (by decide) (g_iload_n F (pc := 15) d_Rea_init_15 0 rfl (g_bipush (v := 16) F (pc := 16) d_Rea_init_16 (by decide) ?_)))
  refine g_icmp_ge (tgt := 40) F (pc := 18) d_Rea_init_18 (by decide) (fun h => absurd h (by decide)) (fun _ => ?_)
  refine g_aload_n F (pc := 21) d_Rea_init_21 1 rfl ?_
  obtain ⟨r19, er19, h⟩ := Option.bind_eq_some_iff.mp h
  obtain ⟨fsr19, pr19, qr19⟩ := w_get_s er19
  refine g_get F (pc := 22) d_Rea_init_22 fi_Rea_11.1 pr19 qr19 ?_
  refine g_iload_n F (pc := 25) d_Rea_init_25 0 rfl (g_new F (pc := 26) d_Rea_init_26 nw_Rea_9 (Nat.le_of_ble_eq_true rfl) (Nat.le_of_ble_eq_true rfl) ?_)
  obtain ⟨w20, ew20, h⟩ := Option.bind_eq_some_iff.mp h
  rw [Option.some.inj ew20]
  refine g_dup F (pc := 29) d_Rea_init_29 rfl ?_
  obtain ⟨w21, ew21, h⟩ := Option.bind_eq_some_iff.mp h
  refine g_callI (b := w18.length) (As := []) (st := [.ref w18.length, .int 4, .ref r19]) F (pc := 30) d_Rea_init_30 cb_Rea_17 iv_Thing_init np_Thing_init (k_Thing_init ew21) rfl (by decide) (Nat.le_of_ble_eq_true rfl) (Nat.le_of_ble_eq_true rfl) (Nat.le_of_ble_eq_true rfl) (fun r9 w9 h9 _ => PoW.el (P := fun r w' => Z w' 33 [(1, .int 4), (0, .ref i)] (r.toList ++ [.ref w18.length, .int 4, .ref r19]) _ _) h9 ?_)
  obtain ⟨w22, ew22, h⟩ := Option.bind_eq_some_iff.mp h
  obtain ⟨Lw22, gw22, pw22, vw22, qw22, rw22⟩ := w_ast_s ew22
  refine g_aast (j := 4) F (pc := 33) d_Rea_init_33 pw22 (C := "PackShelf$Thing") rfl vw22 (T := F_Thing) (N := 3) rfl (vq_in qw22 (by decide)) (by decide) ?_
  rw [← rw22]
  refine g_iinc (v := 5) (lv' := [(1, .int 5), (0, .ref i)]) F (pc := 34) d_Rea_init_34 0 rfl (by decide) (by decide) rfl (g_goto (tgt := 15) F (pc := 37) d_Rea_init_37 (by decide) (g_iload_n F (pc := 15) d_Rea_init_15 0 rfl (g_bipush (v := 16) F (pc := 16) d_Rea_init_16 (by decide) ?_)))
  refine g_icmp_ge (tgt := 40) F (pc := 18) d_Rea_init_18 (by decide) (fun h => absurd h (by decide)) (fun _ => ?_)
  refine g_aload_n F (pc := 21) d_Rea_init_21 1 rfl ?_
  obtain ⟨r23, er23, h⟩ := Option.bind_eq_some_iff.mp h
  obtain ⟨fsr23, pr23, qr23⟩ := w_get_s er23
  refine g_get F (pc := 22) d_Rea_init_22 fi_Rea_11.1 pr23 qr23 ?_
  refine g_iload_n F (pc := 25) d_Rea_init_25 0 rfl (g_new F (pc := 26) d_Rea_init_26 nw_Rea_9 (Nat.le_of_ble_eq_true rfl) (Nat.le_of_ble_eq_true rfl) ?_)
  obtain ⟨w24, ew24, h⟩ := Option.bind_eq_some_iff.mp h
  rw [Option.some.inj ew24]
  refine g_dup F (pc := 29) d_Rea_init_29 rfl ?_
  obtain ⟨w25, ew25, h⟩ := Option.bind_eq_some_iff.mp h
  refine g_callI (b := w22.length) (As := []) (st := [.ref w22.length, .int 5, .ref r23]) F (pc := 30) d_Rea_init_30 cb_Rea_17 iv_Thing_init np_Thing_init (k_Thing_init ew25) rfl (by decide) (Nat.le_of_ble_eq_true rfl) (Nat.le_of_ble_eq_true rfl) (Nat.le_of_ble_eq_true rfl) (fun r9 w9 h9 _ => PoW.el (P := fun r w' => Z w' 33 [(1, .int 5), (0, .ref i)] (r.toList ++ [.ref w22.length, .int 5, .ref r23]) _ _) h9 ?_)
  obtain ⟨w26, ew26, h⟩ := Option.bind_eq_some_iff.mp h
  obtain ⟨Lw26, gw26, pw26, vw26, qw26, rw26⟩ := w_ast_s ew26
  refine g_aast (j := 5) F (pc := 33) d_Rea_init_33 pw26 (C := "PackShelf$Thing") rfl vw26 (T := F_Thing) (N := 3) rfl (vq_in qw26 (by decide)) (by decide) ?_
  rw [← rw26]
  refine g_iinc (v := 6) (lv' := [(1, .int 6), (0, .ref i)]) F (pc := 34) d_Rea_init_34 0 rfl (by decide) (by decide) rfl (g_goto (tgt := 15) F (pc := 37) d_Rea_init_37 (by decide) (g_iload_n F (pc := 15) d_Rea_init_15 0 rfl (g_bipush (v := 16) F (pc := 16) d_Rea_init_16 (by decide) ?_)))
  refine g_icmp_ge (tgt := 40) F (pc := 18) d_Rea_init_18 (by decide) (fun h => absurd h (by decide)) (fun _ => ?_)
  refine g_aload_n F (pc := 21) d_Rea_init_21 1 rfl ?_
  obtain ⟨r27, er27, h⟩ := Option.bind_eq_some_iff.mp h
  obtain ⟨fsr27, pr27, qr27⟩ := w_get_s er27
  refine g_get F (pc := 22) d_Rea_init_22 fi_Rea_11.1 pr27 qr27 ?_
  refine g_iload_n F (pc := 25) d_Rea_init_25 0 rfl (g_new F (pc := 26) d_Rea_init_26 nw_Rea_9 (Nat.le_of_ble_eq_true rfl) (Nat.le_of_ble_eq_true rfl) ?_)
  obtain ⟨w28, ew28, h⟩ := Option.bind_eq_some_iff.mp h
  rw [Option.some.inj ew28]
  refine g_dup F (pc := 29) d_Rea_init_29 rfl ?_
  obtain ⟨w29, ew29, h⟩ := Option.bind_eq_some_iff.mp h
  refine g_callI (b := w26.length) (As := []) (st := [.ref w26.length, .int 6, .ref r27]) F (pc := 30) d_Rea_init_30 cb_Rea_17 iv_Thing_init np_Thing_init (k_Thing_init ew29) rfl (by decide) (Nat.le_of_ble_eq_true rfl) (Nat.le_of_ble_eq_true rfl) (Nat.le_of_ble_eq_true rfl) (fun r9 w9 h9 _ => PoW.el (P := fun r w' => Z w' 33 [(1, .int 6), (0, .ref i)] (r.toList ++ [.ref w26.length, .int 6, .ref r27]) _ _) h9 ?_)
  obtain ⟨w30, ew30, h⟩ := Option.bind_eq_some_iff.mp h
  obtain ⟨Lw30, gw30, pw30, vw30, qw30, rw30⟩ := w_ast_s ew30
  refine g_aast (j := 6) F (pc := 33) d_Rea_init_33 pw30 (C := "PackShelf$Thing") rfl vw30 (T := F_Thing) (N := 3) rfl (vq_in qw30 (by decide)) (by decide) ?_
  rw [← rw30]
  refine g_iinc (v := 7) (lv' := [(1, .int 7), (0, .ref i)]) F (pc := 34) d_Rea_init_34 0 rfl (by decide) (by decide) rfl (g_goto (tgt := 15) F (pc := 37) d_Rea_init_37 (by decide) (g_iload_n F (pc := 15) d_Rea_init_15 0 rfl (g_bipush (v := 16) F (pc := 16) d_Rea_init_16 (by decide) ?_)))
  refine g_icmp_ge (tgt := 40) F (pc := 18) d_Rea_init_18 (by decide) (fun h => absurd h (by decide)) (fun _ => ?_)
  refine g_aload_n F (pc := 21) d_Rea_init_21 1 rfl ?_
  obtain ⟨r31, er31, h⟩ := Option.bind_eq_some_iff.mp h
  obtain ⟨fsr31, pr31, qr31⟩ := w_get_s er31
  refine g_get F (pc := 22) d_Rea_init_22 fi_Rea_11.1 pr31 qr31 ?_
  refine g_iload_n F (pc := 25) d_Rea_init_25 0 rfl (g_new F (pc := 26) d_Rea_init_26 nw_Rea_9 (Nat.le_of_ble_eq_true rfl) (Nat.le_of_ble_eq_true rfl) ?_)
  obtain ⟨w32, ew32, h⟩ := Option.bind_eq_some_iff.mp h
  rw [Option.some.inj ew32]
  refine g_dup F (pc := 29) d_Rea_init_29 rfl ?_
  obtain ⟨w33, ew33, h⟩ := Option.bind_eq_some_iff.mp h
  refine g_callI (b := w30.length) (As := []) (st := [.ref w30.length, .int 7, .ref r31]) F (pc := 30) d_Rea_init_30 cb_Rea_17 iv_Thing_init np_Thing_init (k_Thing_init ew33) rfl (by decide) (Nat.le_of_ble_eq_true rfl) (Nat.le_of_ble_eq_true rfl) (Nat.le_of_ble_eq_true rfl) (fun r9 w9 h9 _ => PoW.el (P := fun r w' => Z w' 33 [(1, .int 7), (0, .ref i)] (r.toList ++ [.ref w30.length, .int 7, .ref r31]) _ _) h9 ?_)
  obtain ⟨w34, ew34, h⟩ := Option.bind_eq_some_iff.mp h
  obtain ⟨Lw34, gw34, pw34, vw34, qw34, rw34⟩ := w_ast_s ew34
  refine g_aast (j := 7) F (pc := 33) d_Rea_init_33 pw34 (C := "PackShelf$Thing") rfl vw34 (T := F_Thing) (N := 3) rfl (vq_in qw34 (by decide)) (by decide) ?_
  rw [← rw34]
  refine g_iinc (v := 8) (lv' := [(1, .int 8), (0, .ref i)]) F (pc := 34) d_Rea_init_34 0 rfl (by decide) (by decide) rfl (g_goto (tgt := 15) F (pc := 37) d_Rea_init_37 (by decide) (g_iload_n F (pc := 15) d_Rea_init_15 0 rfl (g_bipush (v := 16) F (pc := 16) d_Rea_init_16 (by decide) ?_)))
  refine g_icmp_ge (tgt := 40) F (pc := 18) d_Rea_init_18 (by decide) (fun h => absurd h (by decide)) (fun _ => ?_)
  refine g_aload_n F (pc := 21) d_Rea_init_21 1 rfl ?_
  obtain ⟨r35, er35, h⟩ := Option.bind_eq_some_iff.mp h
  obtain ⟨fsr35, pr35, qr35⟩ := w_get_s er35
  refine g_get F (pc := 22) d_Rea_init_22 fi_Rea_11.1 pr35 qr35 ?_
  refine g_iload_n F (pc := 25) d_Rea_init_25 0 rfl (g_new F (pc := 26) d_Rea_init_26 nw_Rea_9 (Nat.le_of_ble_eq_true rfl) (Nat.le_of_ble_eq_true rfl) ?_)
  obtain ⟨w36, ew36, h⟩ := Option.bind_eq_some_iff.mp h
  rw [Option.some.inj ew36]
  refine g_dup F (pc := 29) d_Rea_init_29 rfl ?_
  obtain ⟨w37, ew37, h⟩ := Option.bind_eq_some_iff.mp h
  refine g_callI (b := w34.length) (As := []) (st := [.ref w34.length, .int 8, .ref r35]) F (pc := 30) d_Rea_init_30 cb_Rea_17 iv_Thing_init np_Thing_init (k_Thing_init ew37) rfl (by decide) (Nat.le_of_ble_eq_true rfl) (Nat.le_of_ble_eq_true rfl) (Nat.le_of_ble_eq_true rfl) (fun r9 w9 h9 _ => PoW.el (P := fun r w' => Z w' 33 [(1, .int 8), (0, .ref i)] (r.toList ++ [.ref w34.length, .int 8, .ref r35]) _ _) h9 ?_)
  obtain ⟨w38, ew38, h⟩ := Option.bind_eq_some_iff.mp h
  obtain ⟨Lw38, gw38, pw38, vw38, qw38, rw38⟩ := w_ast_s ew38
  refine g_aast (j := 8) F (pc := 33) d_Rea_init_33 pw38 (C := "PackShelf$Thing") rfl vw38 (T := F_Thing) (N := 3) rfl (vq_in qw38 (by decide)) (by decide) ?_
  rw [← rw38]
  refine g_iinc (v := 9) (lv' := [(1, .int 9), (0, .ref i)]) F (pc := 34) d_Rea_init_34 0 rfl (by decide) (by decide) rfl (g_goto (tgt := 15) F (pc := 37) d_Rea_init_37 (by decide) (g_iload_n F (pc := 15) d_Rea_init_15 0 rfl (g_bipush (v := 16) F (pc := 16) d_Rea_init_16 (by decide) ?_)))
  refine g_icmp_ge (tgt := 40) F (pc := 18) d_Rea_init_18 (by decide) (fun h => absurd h (by decide)) (fun _ => ?_)
  refine g_aload_n F (pc := 21) d_Rea_init_21 1 rfl ?_
  obtain ⟨r39, er39, h⟩ := Option.bind_eq_some_iff.mp h
  obtain ⟨fsr39, pr39, qr39⟩ := w_get_s er39
  refine g_get F (pc := 22) d_Rea_init_22 fi_Rea_11.1 pr39 qr39 ?_
  refine g_iload_n F (pc := 25) d_Rea_init_25 0 rfl (g_new F (pc := 26) d_Rea_init_26 nw_Rea_9 (Nat.le_of_ble_eq_true rfl) (Nat.le_of_ble_eq_true rfl) ?_)
  obtain ⟨w40, ew40, h⟩ := Option.bind_eq_some_iff.mp h
  rw [Option.some.inj ew40]
  refine g_dup F (pc := 29) d_Rea_init_29 rfl ?_
  obtain ⟨w41, ew41, h⟩ := Option.bind_eq_some_iff.mp h
  refine g_callI (b := w38.length) (As := []) (st := [.ref w38.length, .int 9, .ref r39]) F (pc := 30) d_Rea_init_30 cb_Rea_17 iv_Thing_init np_Thing_init (k_Thing_init ew41) rfl (by decide) (Nat.le_of_ble_eq_true rfl) (Nat.le_of_ble_eq_true rfl) (Nat.le_of_ble_eq_true rfl) (fun r9 w9 h9 _ => PoW.el (P := fun r w' => Z w' 33 [(1, .int 9), (0, .ref i)] (r.toList ++ [.ref w38.length, .int 9, .ref r39]) _ _) h9 ?_)
  obtain ⟨w42, ew42, h⟩ := Option.bind_eq_some_iff.mp h
  obtain ⟨Lw42, gw42, pw42, vw42, qw42, rw42⟩ := w_ast_s ew42
  refine g_aast (j := 9) F (pc := 33) d_Rea_init_33 pw42 (C := "PackShelf$Thing") rfl vw42 (T := F_Thing) (N := 3) rfl (vq_in qw42 (by decide)) (by decide) ?_
  rw [← rw42]
  refine g_iinc (v := 10) (lv' := [(1, .int 10), (0, .ref i)]) F (pc := 34) d_Rea_init_34 0 rfl (by decide) (by decide) rfl (g_goto (tgt := 15) F (pc := 37) d_Rea_init_37 (by decide) (g_iload_n F (pc := 15) d_Rea_init_15 0 rfl (g_bipush (v := 16) F (pc := 16) d_Rea_init_16 (by decide) ?_)))
  refine g_icmp_ge (tgt := 40) F (pc := 18) d_Rea_init_18 (by decide) (fun h => absurd h (by decide)) (fun _ => ?_)
  refine g_aload_n F (pc := 21) d_Rea_init_21 1 rfl ?_
  obtain ⟨r43, er43, h⟩ := Option.bind_eq_some_iff.mp h
  obtain ⟨fsr43, pr43, qr43⟩ := w_get_s er43
  refine g_get F (pc := 22) d_Rea_init_22 fi_Rea_11.1 pr43 qr43 ?_
  refine g_iload_n F (pc := 25) d_Rea_init_25 0 rfl (g_new F (pc := 26) d_Rea_init_26 nw_Rea_9 (Nat.le_of_ble_eq_true rfl) (Nat.le_of_ble_eq_true rfl) ?_)
  obtain ⟨w44, ew44, h⟩ := Option.bind_eq_some_iff.mp h
  rw [Option.some.inj ew44]
  refine g_dup F (pc := 29) d_Rea_init_29 rfl ?_
  obtain ⟨w45, ew45, h⟩ := Option.bind_eq_some_iff.mp h
  refine g_callI (b := w42.length) (As := []) (st := [.ref w42.length, .int 10, .ref r43]) F (pc := 30) d_Rea_init_30 cb_Rea_17 iv_Thing_init np_Thing_init (k_Thing_init ew45) rfl (by decide) (Nat.le_of_ble_eq_true rfl) (Nat.le_of_ble_eq_true rfl) (Nat.le_of_ble_eq_true rfl) (fun r9 w9 h9 _ => PoW.el (P := fun r w' => Z w' 33 [(1, .int 10), (0, .ref i)] (r.toList ++ [.ref w42.length, .int 10, .ref r43]) _ _) h9 ?_)
  obtain ⟨w46, ew46, h⟩ := Option.bind_eq_some_iff.mp h
  obtain ⟨Lw46, gw46, pw46, vw46, qw46, rw46⟩ := w_ast_s ew46
  refine g_aast (j := 10) F (pc := 33) d_Rea_init_33 pw46 (C := "PackShelf$Thing") rfl vw46 (T := F_Thing) (N := 3) rfl (vq_in qw46 (by decide)) (by decide) ?_
  rw [← rw46]
  refine g_iinc (v := 11) (lv' := [(1, .int 11), (0, .ref i)]) F (pc := 34) d_Rea_init_34 0 rfl (by decide) (by decide) rfl (g_goto (tgt := 15) F (pc := 37) d_Rea_init_37 (by decide) (g_iload_n F (pc := 15) d_Rea_init_15 0 rfl (g_bipush (v := 16) F (pc := 16) d_Rea_init_16 (by decide) ?_)))
  refine g_icmp_ge (tgt := 40) F (pc := 18) d_Rea_init_18 (by decide) (fun h => absurd h (by decide)) (fun _ => ?_)
  refine g_aload_n F (pc := 21) d_Rea_init_21 1 rfl ?_
  obtain ⟨r47, er47, h⟩ := Option.bind_eq_some_iff.mp h
  obtain ⟨fsr47, pr47, qr47⟩ := w_get_s er47
  refine g_get F (pc := 22) d_Rea_init_22 fi_Rea_11.1 pr47 qr47 ?_
  refine g_iload_n F (pc := 25) d_Rea_init_25 0 rfl (g_new F (pc := 26) d_Rea_init_26 nw_Rea_9 (Nat.le_of_ble_eq_true rfl) (Nat.le_of_ble_eq_true rfl) ?_)
  obtain ⟨w48, ew48, h⟩ := Option.bind_eq_some_iff.mp h
  rw [Option.some.inj ew48]
  refine g_dup F (pc := 29) d_Rea_init_29 rfl ?_
  obtain ⟨w49, ew49, h⟩ := Option.bind_eq_some_iff.mp h
  refine g_callI (b := w46.length) (As := []) (st := [.ref w46.length, .int 11, .ref r47]) F (pc := 30) d_Rea_init_30 cb_Rea_17 iv_Thing_init np_Thing_init (k_Thing_init ew49) rfl (by decide) (Nat.le_of_ble_eq_true rfl) (Nat.le_of_ble_eq_true rfl) (Nat.le_of_ble_eq_true rfl) (fun r9 w9 h9 _ => PoW.el (P := fun r w' => Z w' 33 [(1, .int 11), (0, .ref i)] (r.toList ++ [.ref w46.length, .int 11, .ref r47]) _ _) h9 ?_)
  obtain ⟨w50, ew50, h⟩ := Option.bind_eq_some_iff.mp h
  obtain ⟨Lw50, gw50, pw50, vw50, qw50, rw50⟩ := w_ast_s ew50
  refine g_aast (j := 11) F (pc := 33) d_Rea_init_33 pw50 (C := "PackShelf$Thing") rfl vw50 (T := F_Thing) (N := 3) rfl (vq_in qw50 (by decide)) (by decide) ?_
  rw [← rw50]
  refine g_iinc (v := 12) (lv' := [(1, .int 12), (0, .ref i)]) F (pc := 34) d_Rea_init_34 0 rfl (by decide) (by decide) rfl (g_goto (tgt := 15) F (pc := 37) d_Rea_init_37 (by decide) (g_iload_n F (pc := 15) d_Rea_init_15 0 rfl (g_bipush (v := 16) F (pc := 16) d_Rea_init_16 (by decide) ?_)))
  refine g_icmp_ge (tgt := 40) F (pc := 18) d_Rea_init_18 (by decide) (fun h => absurd h (by decide)) (fun _ => ?_)
  refine g_aload_n F (pc := 21) d_Rea_init_21 1 rfl ?_
  obtain ⟨r51, er51, h⟩ := Option.bind_eq_some_iff.mp h
  obtain ⟨fsr51, pr51, qr51⟩ := w_get_s er51
  refine g_get F (pc := 22) d_Rea_init_22 fi_Rea_11.1 pr51 qr51 ?_
  refine g_iload_n F (pc := 25) d_Rea_init_25 0 rfl (g_new F (pc := 26) d_Rea_init_26 nw_Rea_9 (Nat.le_of_ble_eq_true rfl) (Nat.le_of_ble_eq_true rfl) ?_)
  obtain ⟨w52, ew52, h⟩ := Option.bind_eq_some_iff.mp h
  rw [Option.some.inj ew52]
  refine g_dup F (pc := 29) d_Rea_init_29 rfl ?_
  obtain ⟨w53, ew53, h⟩ := Option.bind_eq_some_iff.mp h
  refine g_callI (b := w50.length) (As := []) (st := [.ref w50.length, .int 12, .ref r51]) F (pc := 30) d_Rea_init_30 cb_Rea_17 iv_Thing_init np_Thing_init (k_Thing_init ew53) rfl (by decide) (Nat.le_of_ble_eq_true rfl) (Nat.le_of_ble_eq_true rfl) (Nat.le_of_ble_eq_true rfl) (fun r9 w9 h9 _ => PoW.el (P := fun r w' => Z w' 33 [(1, .int 12), (0, .ref i)] (r.toList ++ [.ref w50.length, .int 12, .ref r51]) _ _) h9 ?_)
  obtain ⟨w54, ew54, h⟩ := Option.bind_eq_some_iff.mp h
  obtain ⟨Lw54, gw54, pw54, vw54, qw54, rw54⟩ := w_ast_s ew54
  refine g_aast (j := 12) F (pc := 33) d_Rea_init_33 pw54 (C := "PackShelf$Thing") rfl vw54 (T := F_Thing) (N := 3) rfl (vq_in qw54 (by decide)) (by decide) ?_
  rw [← rw54]
  refine g_iinc (v := 13) (lv' := [(1, .int 13), (0, .ref i)]) F (pc := 34) d_Rea_init_34 0 rfl (by decide) (by decide) rfl (g_goto (tgt := 15) F (pc := 37) d_Rea_init_37 (by decide) (g_iload_n F (pc := 15) d_Rea_init_15 0 rfl (g_bipush (v := 16) F (pc := 16) d_Rea_init_16 (by decide) ?_)))
  refine g_icmp_ge (tgt := 40) F (pc := 18) d_Rea_init_18 (by decide) (fun h => absurd h (by decide)) (fun _ => ?_)
  refine g_aload_n F (pc := 21) d_Rea_init_21 1 rfl ?_
  obtain ⟨r55, er55, h⟩ := Option.bind_eq_some_iff.mp h
  obtain ⟨fsr55, pr55, qr55⟩ := w_get_s er55
  refine g_get F (pc := 22) d_Rea_init_22 fi_Rea_11.1 pr55 qr55 ?_
  refine g_iload_n F (pc := 25) d_Rea_init_25 0 rfl (g_new F (pc := 26) d_Rea_init_26 nw_Rea_9 (Nat.le_of_ble_eq_true rfl) (Nat.le_of_ble_eq_true rfl) ?_)
  obtain ⟨w56, ew56, h⟩ := Option.bind_eq_some_iff.mp h
  rw [Option.some.inj ew56]
  refine g_dup F (pc := 29) d_Rea_init_29 rfl ?_
  obtain ⟨w57, ew57, h⟩ := Option.bind_eq_some_iff.mp h
  refine g_callI (b := w54.length) (As := []) (st := [.ref w54.length, .int 13, .ref r55]) F (pc := 30) d_Rea_init_30 cb_Rea_17 iv_Thing_init np_Thing_init (k_Thing_init ew57) rfl (by decide) (Nat.le_of_ble_eq_true rfl) (Nat.le_of_ble_eq_true rfl) (Nat.le_of_ble_eq_true rfl) (fun r9 w9 h9 _ => PoW.el (P := fun r w' => Z w' 33 [(1, .int 13), (0, .ref i)] (r.toList ++ [.ref w54.length, .int 13, .ref r55]) _ _) h9 ?_)
  obtain ⟨w58, ew58, h⟩ := Option.bind_eq_some_iff.mp h
  obtain ⟨Lw58, gw58, pw58, vw58, qw58, rw58⟩ := w_ast_s ew58
  refine g_aast (j := 13) F (pc := 33) d_Rea_init_33 pw58 (C := "PackShelf$Thing") rfl vw58 (T := F_Thing) (N := 3) rfl (vq_in qw58 (by decide)) (by decide) ?_
  rw [← rw58]
  refine g_iinc (v := 14) (lv' := [(1, .int 14), (0, .ref i)]) F (pc := 34) d_Rea_init_34 0 rfl (by decide) (by decide) rfl (g_goto (tgt := 15) F (pc := 37) d_Rea_init_37 (by decide) (g_iload_n F (pc := 15) d_Rea_init_15 0 rfl (g_bipush (v := 16) F (pc := 16) d_Rea_init_16 (by decide) ?_)))
  refine g_icmp_ge (tgt := 40) F (pc := 18) d_Rea_init_18 (by decide) (fun h => absurd h (by decide)) (fun _ => ?_)
  refine g_aload_n F (pc := 21) d_Rea_init_21 1 rfl ?_
  obtain ⟨r59, er59, h⟩ := Option.bind_eq_some_iff.mp h
  obtain ⟨fsr59, pr59, qr59⟩ := w_get_s er59
  refine g_get F (pc := 22) d_Rea_init_22 fi_Rea_11.1 pr59 qr59 ?_
  refine g_iload_n F (pc := 25) d_Rea_init_25 0 rfl (g_new F (pc := 26) d_Rea_init_26 nw_Rea_9 (Nat.le_of_ble_eq_true rfl) (Nat.le_of_ble_eq_true rfl) ?_)
  obtain ⟨w60, ew60, h⟩ := Option.bind_eq_some_iff.mp h
  rw [Option.some.inj ew60]
  refine g_dup F (pc := 29) d_Rea_init_29 rfl ?_
  obtain ⟨w61, ew61, h⟩ := Option.bind_eq_some_iff.mp h
  refine g_callI (b := w58.length) (As := []) (st := [.ref w58.length, .int 14, .ref r59]) F (pc := 30) d_Rea_init_30 cb_Rea_17 iv_Thing_init np_Thing_init (k_Thing_init ew61) rfl (by decide) (Nat.le_of_ble_eq_true rfl) (Nat.le_of_ble_eq_true rfl) (Nat.le_of_ble_eq_true rfl) (fun r9 w9 h9 _ => PoW.el (P := fun r w' => Z w' 33 [(1, .int 14), (0, .ref i)] (r.toList ++ [.ref w58.length, .int 14, .ref r59]) _ _) h9 ?_)
  obtain ⟨w62, ew62, h⟩ := Option.bind_eq_some_iff.mp h
  obtain ⟨Lw62, gw62, pw62, vw62, qw62, rw62⟩ := w_ast_s ew62
  refine g_aast (j := 14) F (pc := 33) d_Rea_init_33 pw62 (C := "PackShelf$Thing") rfl vw62 (T := F_Thing) (N := 3) rfl (vq_in qw62 (by decide)) (by decide) ?_
  rw [← rw62]
  refine g_iinc (v := 15) (lv' := [(1, .int 15), (0, .ref i)]) F (pc := 34) d_Rea_init_34 0 rfl (by decide) (by decide) rfl (g_goto (tgt := 15) F (pc := 37) d_Rea_init_37 (by decide) (g_iload_n F (pc := 15) d_Rea_init_15 0 rfl (g_bipush (v := 16) F (pc := 16) d_Rea_init_16 (by decide) ?_)))
  refine g_icmp_ge (tgt := 40) F (pc := 18) d_Rea_init_18 (by decide) (fun h => absurd h (by decide)) (fun _ => ?_)
  refine g_aload_n F (pc := 21) d_Rea_init_21 1 rfl ?_
  obtain ⟨r63, er63, h⟩ := Option.bind_eq_some_iff.mp h
  obtain ⟨fsr63, pr63, qr63⟩ := w_get_s er63
  refine g_get F (pc := 22) d_Rea_init_22 fi_Rea_11.1 pr63 qr63 ?_
  refine g_iload_n F (pc := 25) d_Rea_init_25 0 rfl (g_new F (pc := 26) d_Rea_init_26 nw_Rea_9 (Nat.le_of_ble_eq_true rfl) (Nat.le_of_ble_eq_true rfl) ?_)
  obtain ⟨w64, ew64, h⟩ := Option.bind_eq_some_iff.mp h
  rw [Option.some.inj ew64]
  refine g_dup F (pc := 29) d_Rea_init_29 rfl ?_
  obtain ⟨w65, ew65, h⟩ := Option.bind_eq_some_iff.mp h
  refine g_callI (b := w62.length) (As := []) (st := [.ref w62.length, .int 15, .ref r63]) F (pc := 30) d_Rea_init_30 cb_Rea_17 iv_Thing_init np_Thing_init (k_Thing_init ew65) rfl (by decide) (Nat.le_of_ble_eq_true rfl) (Nat.le_of_ble_eq_true rfl) (Nat.le_of_ble_eq_true rfl) (fun r9 w9 h9 _ => PoW.el (P := fun r w' => Z w' 33 [(1, .int 15), (0, .ref i)] (r.toList ++ [.ref w62.length, .int 15, .ref r63]) _ _) h9 ?_)
  obtain ⟨w66, ew66, h⟩ := Option.bind_eq_some_iff.mp h
  obtain ⟨Lw66, gw66, pw66, vw66, qw66, rw66⟩ := w_ast_s ew66
  refine g_aast (j := 15) F (pc := 33) d_Rea_init_33 pw66 (C := "PackShelf$Thing") rfl vw66 (T := F_Thing) (N := 3) rfl (vq_in qw66 (by decide)) (by decide) ?_
  rw [← rw66]
  refine g_iinc (v := 16) (lv' := [(1, .int 16), (0, .ref i)]) F (pc := 34) d_Rea_init_34 0 rfl (by decide) (by decide) rfl (g_goto (tgt := 15) F (pc := 37) d_Rea_init_37 (by decide) (g_iload_n F (pc := 15) d_Rea_init_15 0 rfl (g_bipush (v := 16) F (pc := 16) d_Rea_init_16 (by decide) ?_)))
  refine g_icmp_ge (tgt := 40) F (pc := 18) d_Rea_init_18 (by decide) (fun _ => ?_) (fun h => absurd (by decide) h)
  refine g_aload_n F (pc := 40) d_Rea_init_40 1 rfl (g_iconst (v := 0) F (pc := 41) d_Rea_init_41 (by decide) ?_)
  obtain ⟨w67, ew67, h⟩ := Option.bind_eq_some_iff.mp h
  obtain ⟨fsw67, pw67, qw67, rw67⟩ := w_put_s ew67
  refine g_put F (pc := 42) d_Rea_init_42 cl_6 (sk_fp_of pi_Rea_18.2.1) pw67 qw67 (fun _ => rfl) (fun _ => rfl) ?_
  rw [← rw67]
  refine g_aload_n F (pc := 45) d_Rea_init_45 1 rfl (g_bipush (v := 16) F (pc := 46) d_Rea_init_46 (by decide) (g_newa (t := 0) (N := 16) F (pc := 48) d_Rea_init_48 rfl na_int rfl rfl nb_int (by decide) (by decide) (by decide) (Nat.le_of_ble_eq_true rfl) (Nat.le_of_ble_eq_true rfl) ?_))
  obtain ⟨w68, ew68, h⟩ := Option.bind_eq_some_iff.mp h
  rw [Option.some.inj ew68]
  obtain ⟨w69, ew69, h⟩ := Option.bind_eq_some_iff.mp h
  obtain ⟨fsw69, pw69, qw69, rw69⟩ := w_put_s ew69
  refine g_put F (pc := 50) d_Rea_init_50 cl_6 (pf_Rea_22 _ rfl rfl) pw69 qw69 (fun _ => rfl) (fun _ => rfl) ?_
  rw [← rw69]
  refine g_aload_n F (pc := 53) d_Rea_init_53 1 rfl (g_new F (pc := 54) d_Rea_init_54 nw_Rea_26 (Nat.le_of_ble_eq_true rfl) (Nat.le_of_ble_eq_true rfl) ?_)
  obtain ⟨w70, ew70, h⟩ := Option.bind_eq_some_iff.mp h
  rw [Option.some.inj ew70]
  refine g_dup F (pc := 57) d_Rea_init_57 rfl (g_bipush (v := 120) F (pc := 58) d_Rea_init_58 (by decide) ?_)
  obtain ⟨w71, ew71, h⟩ := Option.bind_eq_some_iff.mp h
  refine g_callI (b := w69.length) (As := [.int (nI 120)]) (st := [.ref w69.length, .ref i]) F (pc := 60) d_Rea_init_60 cb_Rea_28 iv_Row_init np_Row_init (k_Row_init (N := 120) (by decide) ew71) rfl (by decide) (Nat.le_of_ble_eq_true rfl) (Nat.le_of_ble_eq_true rfl) (Nat.le_of_ble_eq_true rfl) (fun r9 w9 h9 _ => PoW.el (P := fun r w' => Z w' 63 [(1, .int 16), (0, .ref i)] (r.toList ++ [.ref w69.length, .ref i]) _ _) h9 ?_)
  obtain ⟨w72, ew72, h⟩ := Option.bind_eq_some_iff.mp h
  obtain ⟨fsw72, pw72, qw72, rw72⟩ := w_put_s ew72
  refine g_put F (pc := 63) d_Rea_init_63 cl_6 (pf_Rea_31 _ rfl rfl) pw72 qw72 (fun _ => rfl) (fun _ => rfl) ?_
  rw [← rw72]
  refine g_aload_n F (pc := 66) d_Rea_init_66 1 rfl (g_new F (pc := 67) d_Rea_init_67 nw_Rea_26 (Nat.le_of_ble_eq_true rfl) (Nat.le_of_ble_eq_true rfl) ?_)
  obtain ⟨w73, ew73, h⟩ := Option.bind_eq_some_iff.mp h
  rw [Option.some.inj ew73]
  refine g_dup F (pc := 70) d_Rea_init_70 rfl (g_bipush (v := 7) F (pc := 71) d_Rea_init_71 (by decide) ?_)
  obtain ⟨w74, ew74, h⟩ := Option.bind_eq_some_iff.mp h
  refine g_callI (b := w72.length) (As := [.int (nI 7)]) (st := [.ref w72.length, .ref i]) F (pc := 73) d_Rea_init_73 cb_Rea_28 iv_Row_init np_Row_init (k_Row_init (N := 7) (by decide) ew74) rfl (by decide) (Nat.le_of_ble_eq_true rfl) (Nat.le_of_ble_eq_true rfl) (Nat.le_of_ble_eq_true rfl) (fun r9 w9 h9 _ => PoW.el (P := fun r w' => Z w' 76 [(1, .int 16), (0, .ref i)] (r.toList ++ [.ref w72.length, .ref i]) _ _) h9 ?_)
  obtain ⟨w75, ew75, h⟩ := Option.bind_eq_some_iff.mp h
  obtain ⟨fsw75, pw75, qw75, rw75⟩ := w_put_s ew75
  refine g_put F (pc := 76) d_Rea_init_76 cl_6 (pf_Rea_37 _ rfl rfl) pw75 qw75 (fun _ => rfl) (fun _ => rfl) ?_
  rw [← rw75]
  refine g_aload_n F (pc := 79) d_Rea_init_79 1 rfl (g_iconst (v := 0) F (pc := 80) d_Rea_init_80 (by decide) ?_)
  obtain ⟨w76, ew76, h⟩ := Option.bind_eq_some_iff.mp h
  obtain ⟨fsw76, pw76, qw76, rw76⟩ := w_put_s ew76
  refine g_put F (pc := 81) d_Rea_init_81 cl_6 (sk_fp_of pi_Rea_40.2.1) pw76 qw76 (fun _ => rfl) (fun _ => rfl) ?_
  rw [← rw76]
  refine g_aload_n F (pc := 84) d_Rea_init_84 1 rfl (g_iconst (v := 0) F (pc := 85) d_Rea_init_85 (by decide) ?_)
  obtain ⟨w77, ew77, h⟩ := Option.bind_eq_some_iff.mp h
  obtain ⟨fsw77, pw77, qw77, rw77⟩ := w_put_s ew77
  refine g_put F (pc := 86) d_Rea_init_86 cl_6 (sk_fp_of pi_Rea_43.2.1) pw77 qw77 (fun _ => rfl) (fun _ => rfl) ?_
  rw [← rw77]
  rw [Option.some.inj h]
  exact g_vret T (pc := 89) d_Rea_init_89 rfl (Nat.le_of_ble_eq_true rfl) (Nat.le_of_ble_eq_true rfl) ⟨rfl, rfl⟩
theorem d_P_init_0 : decode M_P_init.2.1 0 = .ok (.aload_n 0, 1) := by decide +kernel
theorem d_P_init_1 : decode M_P_init.2.1 1 = .ok (.invokespecial 3, 3) := by decide +kernel
theorem d_P_init_4 : decode M_P_init.2.1 4 = .ok (.aload_n 0, 1) := by decide +kernel
theorem d_P_init_5 : decode M_P_init.2.1 5 = .ok (.new 9, 3) := by decide +kernel
theorem d_P_init_8 : decode M_P_init.2.1 8 = .ok (.dup, 1) := by decide +kernel
theorem d_P_init_9 : decode M_P_init.2.1 9 = .ok (.invokespecial 11, 3) := by decide +kernel
theorem d_P_init_12 : decode M_P_init.2.1 12 = .ok (.putfield 12, 3) := by decide +kernel
theorem d_P_init_15 : decode M_P_init.2.1 15 = .ok (.aload_n 0, 1) := by decide +kernel
theorem d_P_init_16 : decode M_P_init.2.1 16 = .ok (.new 16, 3) := by decide +kernel
theorem d_P_init_19 : decode M_P_init.2.1 19 = .ok (.dup, 1) := by decide +kernel
theorem d_P_init_20 : decode M_P_init.2.1 20 = .ok (.bipush 64, 2) := by decide +kernel
theorem d_P_init_22 : decode M_P_init.2.1 22 = .ok (.invokespecial 18, 3) := by decide +kernel
theorem d_P_init_25 : decode M_P_init.2.1 25 = .ok (.putfield 21, 3) := by decide +kernel
theorem d_P_init_28 : decode M_P_init.2.1 28 = .ok (.aload_n 0, 1) := by decide +kernel
theorem d_P_init_29 : decode M_P_init.2.1 29 = .ok (.bipush 26, 2) := by decide +kernel
theorem d_P_init_31 : decode M_P_init.2.1 31 = .ok (.newarray .int, 2) := by decide +kernel
theorem d_P_init_33 : decode M_P_init.2.1 33 = .ok (.putfield 25, 3) := by decide +kernel
theorem d_P_init_36 : decode M_P_init.2.1 36 = .ok (.aload_n 0, 1) := by decide +kernel
theorem d_P_init_37 : decode M_P_init.2.1 37 = .ok (.getfield 25, 3) := by decide +kernel
theorem d_P_init_40 : decode M_P_init.2.1 40 = .ok (.iconst (-1), 1) := by decide +kernel
theorem d_P_init_41 : decode M_P_init.2.1 41 = .ok (.invokestatic 29, 3) := by decide +kernel
theorem d_P_init_44 : decode M_P_init.2.1 44 = .ok (.aload_n 0, 1) := by decide +kernel
theorem d_P_init_45 : decode M_P_init.2.1 45 = .ok (.iconst 0, 1) := by decide +kernel
theorem d_P_init_46 : decode M_P_init.2.1 46 = .ok (.putfield 35, 3) := by decide +kernel
theorem d_P_init_49 : decode M_P_init.2.1 49 = .ok (.aload_n 0, 1) := by decide +kernel
theorem d_P_init_50 : decode M_P_init.2.1 50 = .ok (.new 16, 3) := by decide +kernel
theorem d_P_init_53 : decode M_P_init.2.1 53 = .ok (.dup, 1) := by decide +kernel
theorem d_P_init_54 : decode M_P_init.2.1 54 = .ok (.sipush 2192, 3) := by decide +kernel
theorem d_P_init_57 : decode M_P_init.2.1 57 = .ok (.invokespecial 18, 3) := by decide +kernel
theorem d_P_init_60 : decode M_P_init.2.1 60 = .ok (.putfield 39, 3) := by decide +kernel
theorem d_P_init_63 : decode M_P_init.2.1 63 = .ok (.aload_n 0, 1) := by decide +kernel
theorem d_P_init_64 : decode M_P_init.2.1 64 = .ok (.new 42, 3) := by decide +kernel
theorem d_P_init_67 : decode M_P_init.2.1 67 = .ok (.dup, 1) := by decide +kernel
theorem d_P_init_68 : decode M_P_init.2.1 68 = .ok (.invokespecial 44, 3) := by decide +kernel
theorem d_P_init_71 : decode M_P_init.2.1 71 = .ok (.putfield 45, 3) := by decide +kernel
theorem d_P_init_74 : decode M_P_init.2.1 74 = .ok (.aload_n 0, 1) := by decide +kernel
theorem d_P_init_75 : decode M_P_init.2.1 75 = .ok (.new 49, 3) := by decide +kernel
theorem d_P_init_78 : decode M_P_init.2.1 78 = .ok (.dup, 1) := by decide +kernel
theorem d_P_init_79 : decode M_P_init.2.1 79 = .ok (.invokespecial 51, 3) := by decide +kernel
theorem d_P_init_82 : decode M_P_init.2.1 82 = .ok (.putfield 52, 3) := by decide +kernel
theorem d_P_init_85 : decode M_P_init.2.1 85 = .ok (.aload_n 0, 1) := by decide +kernel
theorem d_P_init_86 : decode M_P_init.2.1 86 = .ok (.new 56, 3) := by decide +kernel
theorem d_P_init_89 : decode M_P_init.2.1 89 = .ok (.dup, 1) := by decide +kernel
theorem d_P_init_90 : decode M_P_init.2.1 90 = .ok (.invokespecial 58, 3) := by decide +kernel
theorem d_P_init_93 : decode M_P_init.2.1 93 = .ok (.putfield 59, 3) := by decide +kernel
theorem d_P_init_96 : decode M_P_init.2.1 96 = .ok (.aload_n 0, 1) := by decide +kernel
theorem d_P_init_97 : decode M_P_init.2.1 97 = .ok (.new 63, 3) := by decide +kernel
theorem d_P_init_100 : decode M_P_init.2.1 100 = .ok (.dup, 1) := by decide +kernel
theorem d_P_init_101 : decode M_P_init.2.1 101 = .ok (.invokespecial 65, 3) := by decide +kernel
theorem d_P_init_104 : decode M_P_init.2.1 104 = .ok (.putfield 66, 3) := by decide +kernel
theorem d_P_init_107 : decode M_P_init.2.1 107 = .ok (.return_, 1) := by decide +kernel
def x_P_init (i : Nat) (w : sk_H) : Option sk_H :=
  (some (w ++ [.inr (.inr (4, [.null, .int 0, .null, .null, .null, .int 0]))])).bind fun w1 =>
  (x_Store_init (w.length) w1).bind fun w2 =>
  (w_put w2 i 0 0 (.ref w.length)).bind fun w3 =>
  (some (w3 ++ [.inr (.inr (1, [.null, .int 0]))])).bind fun w4 =>
  (x_Row_init (w3.length) 64 w4).bind fun w5 =>
  (w_put w5 i 0 1 (.ref w3.length)).bind fun w6 =>
  (some (w6 ++ [.inl (0, List.replicate 26 0)])).bind fun w7 =>
  (w_put w7 i 0 2 (.ref w6.length)).bind fun w8 =>
  (w_get w8 i 0 2).bind fun r9 =>
  (w_fil w8 r9 (-1)).bind fun w10 =>
  (w_put w10 i 0 3 (.int 0)).bind fun w11 =>
  (some (w11 ++ [.inr (.inr (1, [.null, .int 0]))])).bind fun w12 =>
  (x_Row_init (w11.length) 2192 w12).bind fun w13 =>
  (w_put w13 i 0 4 (.ref w11.length)).bind fun w14 =>
  (some (w14 ++ [.inr (.inr (2, [.null, .null, .null, .int 0]))])).bind fun w15 =>
  (x_Sum_init (w14.length) w15).bind fun w16 =>
  (w_put w16 i 0 5 (.ref w14.length)).bind fun w17 =>
  (some (w17 ++ [.inr (.inr (3, [.int 0, .null, .null]))])).bind fun w18 =>
  (x_Thing_init (w17.length) w18).bind fun w19 =>
  (w_put w19 i 0 6 (.ref w17.length)).bind fun w20 =>
  (some (w20 ++ [.inr (.inr (5, [.null, .null, .int 0, .int 0]))])).bind fun w21 =>
  (x_Wri_init (w20.length) w21).bind fun w22 =>
  (w_put w22 i 0 7 (.ref w20.length)).bind fun w23 =>
  (some (w23 ++ [.inr (.inr (6, [.null, .int 0, .null, .null, .null, .int 0, .int 0]))])).bind fun w24 =>
  (x_Rea_init (w23.length) w24).bind fun w25 =>
  (w_put w25 i 0 8 (.ref w23.length)).bind fun w26 =>
  some w26
theorem k_P_init {i : Nat} {w w' : sk_H} (h : x_P_init i w = some w') : Ct M_P_init 4 157 7035 w [.ref i] (PoW w') := by
  refine Ct.of (by decide +kernel) (Nat.le_of_ble_eq_true rfl) (fun Z T => ?_)
  have F := T.F
  unfold x_P_init at h
  show Z w 0 [(0, .ref i)] [] 0 0
  refine g_aload_n F (pc := 0) d_P_init_0 0 rfl (g_objInit F (pc := 1) d_P_init_1 ml_P_3 oi_2 oi_3 (by decide) (g_aload_n F (pc := 4) d_P_init_4 0 rfl (g_new F (pc := 5) d_P_init_5 nw_P_9 (Nat.le_of_ble_eq_true rfl) (Nat.le_of_ble_eq_true rfl) ?_)))
  obtain ⟨w1, ew1, h⟩ := Option.bind_eq_some_iff.mp h
  rw [Option.some.inj ew1]
  refine g_dup F (pc := 8) d_P_init_8 rfl ?_
  obtain ⟨w2, ew2, h⟩ := Option.bind_eq_some_iff.mp h
  refine g_callI (b := w.length) (As := []) (st := [.ref w.length, .ref i]) F (pc := 9) d_P_init_9 cb_P_11 iv_Store_init np_Store_init (k_Store_init ew2) rfl (by decide) (Nat.le_of_ble_eq_true rfl) (Nat.le_of_ble_eq_true rfl) (Nat.le_of_ble_eq_true rfl) (fun r9 w9 h9 _ => PoW.el (P := fun r w' => Z w' 12 [(0, .ref i)] (r.toList ++ [.ref w.length, .ref i]) _ _) h9 ?_)
  obtain ⟨w3, ew3, h⟩ := Option.bind_eq_some_iff.mp h
  obtain ⟨fsw3, pw3, qw3, rw3⟩ := w_put_s ew3
  refine g_put F (pc := 12) d_P_init_12 cl_0 (pf_P_12 _ rfl rfl) pw3 qw3 (fun _ => rfl) (fun _ => rfl) ?_
  rw [← rw3]
  refine g_aload_n F (pc := 15) d_P_init_15 0 rfl (g_new F (pc := 16) d_P_init_16 nw_P_16 (Nat.le_of_ble_eq_true rfl) (Nat.le_of_ble_eq_true rfl) ?_)
  obtain ⟨w4, ew4, h⟩ := Option.bind_eq_some_iff.mp h
  rw [Option.some.inj ew4]
  refine g_dup F (pc := 19) d_P_init_19 rfl (g_bipush (v := 64) F (pc := 20) d_P_init_20 (by decide) ?_)
  obtain ⟨w5, ew5, h⟩ := Option.bind_eq_some_iff.mp h
  refine g_callI (b := w3.length) (As := [.int (nI 64)]) (st := [.ref w3.length, .ref i]) F (pc := 22) d_P_init_22 cb_P_18 iv_Row_init np_Row_init (k_Row_init (N := 64) (by decide) ew5) rfl (by decide) (Nat.le_of_ble_eq_true rfl) (Nat.le_of_ble_eq_true rfl) (Nat.le_of_ble_eq_true rfl) (fun r9 w9 h9 _ => PoW.el (P := fun r w' => Z w' 25 [(0, .ref i)] (r.toList ++ [.ref w3.length, .ref i]) _ _) h9 ?_)
  obtain ⟨w6, ew6, h⟩ := Option.bind_eq_some_iff.mp h
  obtain ⟨fsw6, pw6, qw6, rw6⟩ := w_put_s ew6
  refine g_put F (pc := 25) d_P_init_25 cl_0 (pf_P_21 _ rfl rfl) pw6 qw6 (fun _ => rfl) (fun _ => rfl) ?_
  rw [← rw6]
  refine g_aload_n F (pc := 28) d_P_init_28 0 rfl (g_bipush (v := 26) F (pc := 29) d_P_init_29 (by decide) (g_newa (t := 0) (N := 26) F (pc := 31) d_P_init_31 rfl na_int rfl rfl nb_int (by decide) (by decide) (by decide) (Nat.le_of_ble_eq_true rfl) (Nat.le_of_ble_eq_true rfl) ?_))
  obtain ⟨w7, ew7, h⟩ := Option.bind_eq_some_iff.mp h
  rw [Option.some.inj ew7]
  obtain ⟨w8, ew8, h⟩ := Option.bind_eq_some_iff.mp h
  obtain ⟨fsw8, pw8, qw8, rw8⟩ := w_put_s ew8
  refine g_put F (pc := 33) d_P_init_33 cl_0 (pf_P_25 _ rfl rfl) pw8 qw8 (fun _ => rfl) (fun _ => rfl) ?_
  rw [← rw8]
  refine g_aload_n F (pc := 36) d_P_init_36 0 rfl ?_
  obtain ⟨r9, er9, h⟩ := Option.bind_eq_some_iff.mp h
  obtain ⟨fsr9, pr9, qr9⟩ := w_get_s er9
  refine g_get F (pc := 37) d_P_init_37 fi_P_25.1 pr9 qr9 ?_
  refine g_iconst (v := (-1)) F (pc := 40) d_P_init_40 (by decide) ?_
  obtain ⟨w10, ew10, h⟩ := Option.bind_eq_some_iff.mp h
  obtain ⟨Lw10, pw10, qw10, rw10⟩ := w_fil_s ew10
  refine g_callS (As := [.ref r9, .int (-1)]) (st := []) F (pc := 41) d_P_init_41 cb_P_29 iv_JArr_fill np_JArr_fill (k_fill pw10 qw10) rfl (by decide) (Nat.le_of_ble_eq_true rfl) (Nat.le_of_ble_eq_true rfl) (Nat.le_of_ble_eq_true rfl) (fun r9 w9 h9 _ => PoW.el (P := fun r w' => Z w' 44 [(0, .ref i)] (r.toList ++ []) _ _) h9 ?_)
  rw [← rw10]
  refine g_aload_n F (pc := 44) d_P_init_44 0 rfl (g_iconst (v := 0) F (pc := 45) d_P_init_45 (by decide) ?_)
  obtain ⟨w11, ew11, h⟩ := Option.bind_eq_some_iff.mp h
  obtain ⟨fsw11, pw11, qw11, rw11⟩ := w_put_s ew11
  refine g_put F (pc := 46) d_P_init_46 cl_0 (sk_fp_of pi_P_35.2.1) pw11 qw11 (fun _ => rfl) (fun _ => rfl) ?_
  rw [← rw11]
  refine g_aload_n F (pc := 49) d_P_init_49 0 rfl (g_new F (pc := 50) d_P_init_50 nw_P_16 (Nat.le_of_ble_eq_true rfl) (Nat.le_of_ble_eq_true rfl) ?_)
  obtain ⟨w12, ew12, h⟩ := Option.bind_eq_some_iff.mp h
  rw [Option.some.inj ew12]
  refine g_dup F (pc := 53) d_P_init_53 rfl (g_sipush (v := 2192) F (pc := 54) d_P_init_54 (by decide) ?_)
  obtain ⟨w13, ew13, h⟩ := Option.bind_eq_some_iff.mp h
  refine g_callI (b := w11.length) (As := [.int (nI 2192)]) (st := [.ref w11.length, .ref i]) F (pc := 57) d_P_init_57 cb_P_18 iv_Row_init np_Row_init (k_Row_init (N := 2192) (by decide) ew13) rfl (by decide) (Nat.le_of_ble_eq_true rfl) (Nat.le_of_ble_eq_true rfl) (Nat.le_of_ble_eq_true rfl) (fun r9 w9 h9 _ => PoW.el (P := fun r w' => Z w' 60 [(0, .ref i)] (r.toList ++ [.ref w11.length, .ref i]) _ _) h9 ?_)
  obtain ⟨w14, ew14, h⟩ := Option.bind_eq_some_iff.mp h
  obtain ⟨fsw14, pw14, qw14, rw14⟩ := w_put_s ew14
  refine g_put F (pc := 60) d_P_init_60 cl_0 (pf_P_39 _ rfl rfl) pw14 qw14 (fun _ => rfl) (fun _ => rfl) ?_
  rw [← rw14]
  refine g_aload_n F (pc := 63) d_P_init_63 0 rfl (g_new F (pc := 64) d_P_init_64 nw_P_42 (Nat.le_of_ble_eq_true rfl) (Nat.le_of_ble_eq_true rfl) ?_)
  obtain ⟨w15, ew15, h⟩ := Option.bind_eq_some_iff.mp h
  rw [Option.some.inj ew15]
  refine g_dup F (pc := 67) d_P_init_67 rfl ?_
  obtain ⟨w16, ew16, h⟩ := Option.bind_eq_some_iff.mp h
  refine g_callI (b := w14.length) (As := []) (st := [.ref w14.length, .ref i]) F (pc := 68) d_P_init_68 cb_P_44 iv_Sum_init np_Sum_init (k_Sum_init ew16) rfl (by decide) (Nat.le_of_ble_eq_true rfl) (Nat.le_of_ble_eq_true rfl) (Nat.le_of_ble_eq_true rfl) (fun r9 w9 h9 _ => PoW.el (P := fun r w' => Z w' 71 [(0, .ref i)] (r.toList ++ [.ref w14.length, .ref i]) _ _) h9 ?_)
  obtain ⟨w17, ew17, h⟩ := Option.bind_eq_some_iff.mp h
  obtain ⟨fsw17, pw17, qw17, rw17⟩ := w_put_s ew17
  refine g_put F (pc := 71) d_P_init_71 cl_0 (pf_P_45 _ rfl rfl) pw17 qw17 (fun _ => rfl) (fun _ => rfl) ?_
  rw [← rw17]
  refine g_aload_n F (pc := 74) d_P_init_74 0 rfl (g_new F (pc := 75) d_P_init_75 nw_P_49 (Nat.le_of_ble_eq_true rfl) (Nat.le_of_ble_eq_true rfl) ?_)
  obtain ⟨w18, ew18, h⟩ := Option.bind_eq_some_iff.mp h
  rw [Option.some.inj ew18]
  refine g_dup F (pc := 78) d_P_init_78 rfl ?_
  obtain ⟨w19, ew19, h⟩ := Option.bind_eq_some_iff.mp h
  refine g_callI (b := w17.length) (As := []) (st := [.ref w17.length, .ref i]) F (pc := 79) d_P_init_79 cb_P_51 iv_Thing_init np_Thing_init (k_Thing_init ew19) rfl (by decide) (Nat.le_of_ble_eq_true rfl) (Nat.le_of_ble_eq_true rfl) (Nat.le_of_ble_eq_true rfl) (fun r9 w9 h9 _ => PoW.el (P := fun r w' => Z w' 82 [(0, .ref i)] (r.toList ++ [.ref w17.length, .ref i]) _ _) h9 ?_)
  obtain ⟨w20, ew20, h⟩ := Option.bind_eq_some_iff.mp h
  obtain ⟨fsw20, pw20, qw20, rw20⟩ := w_put_s ew20
  refine g_put F (pc := 82) d_P_init_82 cl_0 (pf_P_52 _ rfl rfl) pw20 qw20 (fun _ => rfl) (fun _ => rfl) ?_
  rw [← rw20]
  refine g_aload_n F (pc := 85) d_P_init_85 0 rfl (g_new F (pc := 86) d_P_init_86 nw_P_56 (Nat.le_of_ble_eq_true rfl) (Nat.le_of_ble_eq_true rfl) ?_)
  obtain ⟨w21, ew21, h⟩ := Option.bind_eq_some_iff.mp h
  rw [Option.some.inj ew21]
  refine g_dup F (pc := 89) d_P_init_89 rfl ?_
  obtain ⟨w22, ew22, h⟩ := Option.bind_eq_some_iff.mp h
  refine g_callI (b := w20.length) (As := []) (st := [.ref w20.length, .ref i]) F (pc := 90) d_P_init_90 cb_P_58 iv_Wri_init np_Wri_init (k_Wri_init ew22) rfl (by decide) (Nat.le_of_ble_eq_true rfl) (Nat.le_of_ble_eq_true rfl) (Nat.le_of_ble_eq_true rfl) (fun r9 w9 h9 _ => PoW.el (P := fun r w' => Z w' 93 [(0, .ref i)] (r.toList ++ [.ref w20.length, .ref i]) _ _) h9 ?_)
  obtain ⟨w23, ew23, h⟩ := Option.bind_eq_some_iff.mp h
  obtain ⟨fsw23, pw23, qw23, rw23⟩ := w_put_s ew23
  refine g_put F (pc := 93) d_P_init_93 cl_0 (pf_P_59 _ rfl rfl) pw23 qw23 (fun _ => rfl) (fun _ => rfl) ?_
  rw [← rw23]
  refine g_aload_n F (pc := 96) d_P_init_96 0 rfl (g_new F (pc := 97) d_P_init_97 nw_P_63 (Nat.le_of_ble_eq_true rfl) (Nat.le_of_ble_eq_true rfl) ?_)
  obtain ⟨w24, ew24, h⟩ := Option.bind_eq_some_iff.mp h
  rw [Option.some.inj ew24]
  refine g_dup F (pc := 100) d_P_init_100 rfl ?_
  obtain ⟨w25, ew25, h⟩ := Option.bind_eq_some_iff.mp h
  refine g_callI (b := w23.length) (As := []) (st := [.ref w23.length, .ref i]) F (pc := 101) d_P_init_101 cb_P_65 iv_Rea_init np_Rea_init (k_Rea_init ew25) rfl (by decide) (Nat.le_of_ble_eq_true rfl) (Nat.le_of_ble_eq_true rfl) (Nat.le_of_ble_eq_true rfl) (fun r9 w9 h9 _ => PoW.el (P := fun r w' => Z w' 104 [(0, .ref i)] (r.toList ++ [.ref w23.length, .ref i]) _ _) h9 ?_)
  obtain ⟨w26, ew26, h⟩ := Option.bind_eq_some_iff.mp h
  obtain ⟨fsw26, pw26, qw26, rw26⟩ := w_put_s ew26
  refine g_put F (pc := 104) d_P_init_104 cl_0 (pf_P_66 _ rfl rfl) pw26 qw26 (fun _ => rfl) (fun _ => rfl) ?_
  rw [← rw26]
  rw [Option.some.inj h]
  exact g_vret T (pc := 107) d_P_init_107 rfl (Nat.le_of_ble_eq_true rfl) (Nat.le_of_ble_eq_true rfl) ⟨rfl, rfl⟩
theorem d_Mo_init_0 : decode M_Mo_init.2.1 0 = .ok (.aload_n 0, 1) := by decide +kernel
theorem d_Mo_init_1 : decode M_Mo_init.2.1 1 = .ok (.invokespecial 1, 3) := by decide +kernel
theorem d_Mo_init_4 : decode M_Mo_init.2.1 4 = .ok (.aload_n 0, 1) := by decide +kernel
theorem d_Mo_init_5 : decode M_Mo_init.2.1 5 = .ok (.bipush 33, 2) := by decide +kernel
theorem d_Mo_init_7 : decode M_Mo_init.2.1 7 = .ok (.newarray .int, 2) := by decide +kernel
theorem d_Mo_init_9 : decode M_Mo_init.2.1 9 = .ok (.putfield 7, 3) := by decide +kernel
theorem d_Mo_init_12 : decode M_Mo_init.2.1 12 = .ok (.aload_n 0, 1) := by decide +kernel
theorem d_Mo_init_13 : decode M_Mo_init.2.1 13 = .ok (.bipush 33, 2) := by decide +kernel
theorem d_Mo_init_15 : decode M_Mo_init.2.1 15 = .ok (.newarray .int, 2) := by decide +kernel
theorem d_Mo_init_17 : decode M_Mo_init.2.1 17 = .ok (.putfield 13, 3) := by decide +kernel
theorem d_Mo_init_20 : decode M_Mo_init.2.1 20 = .ok (.aload_n 0, 1) := by decide +kernel
theorem d_Mo_init_21 : decode M_Mo_init.2.1 21 = .ok (.sipush 3960, 3) := by decide +kernel
theorem d_Mo_init_24 : decode M_Mo_init.2.1 24 = .ok (.newarray .int, 2) := by decide +kernel
theorem d_Mo_init_26 : decode M_Mo_init.2.1 26 = .ok (.putfield 16, 3) := by decide +kernel
theorem d_Mo_init_29 : decode M_Mo_init.2.1 29 = .ok (.aload_n 0, 1) := by decide +kernel
theorem d_Mo_init_30 : decode M_Mo_init.2.1 30 = .ok (.sipush 165, 3) := by decide +kernel
theorem d_Mo_init_33 : decode M_Mo_init.2.1 33 = .ok (.newarray .int, 2) := by decide +kernel
theorem d_Mo_init_35 : decode M_Mo_init.2.1 35 = .ok (.putfield 19, 3) := by decide +kernel
theorem d_Mo_init_38 : decode M_Mo_init.2.1 38 = .ok (.aload_n 0, 1) := by decide +kernel
theorem d_Mo_init_39 : decode M_Mo_init.2.1 39 = .ok (.bipush 16, 2) := by decide +kernel
theorem d_Mo_init_41 : decode M_Mo_init.2.1 41 = .ok (.newarray .boolean, 2) := by decide +kernel
theorem d_Mo_init_43 : decode M_Mo_init.2.1 43 = .ok (.putfield 22, 3) := by decide +kernel
theorem d_Mo_init_46 : decode M_Mo_init.2.1 46 = .ok (.aload_n 0, 1) := by decide +kernel
theorem d_Mo_init_47 : decode M_Mo_init.2.1 47 = .ok (.bipush 16, 2) := by decide +kernel
theorem d_Mo_init_49 : decode M_Mo_init.2.1 49 = .ok (.newarray .int, 2) := by decide +kernel
theorem d_Mo_init_51 : decode M_Mo_init.2.1 51 = .ok (.putfield 26, 3) := by decide +kernel
theorem d_Mo_init_54 : decode M_Mo_init.2.1 54 = .ok (.aload_n 0, 1) := by decide +kernel
theorem d_Mo_init_55 : decode M_Mo_init.2.1 55 = .ok (.bipush 64, 2) := by decide +kernel
theorem d_Mo_init_57 : decode M_Mo_init.2.1 57 = .ok (.newarray .int, 2) := by decide +kernel
theorem d_Mo_init_59 : decode M_Mo_init.2.1 59 = .ok (.putfield 29, 3) := by decide +kernel
theorem d_Mo_init_62 : decode M_Mo_init.2.1 62 = .ok (.aload_n 0, 1) := by decide +kernel
theorem d_Mo_init_63 : decode M_Mo_init.2.1 63 = .ok (.iconst 4, 1) := by decide +kernel
theorem d_Mo_init_64 : decode M_Mo_init.2.1 64 = .ok (.newarray .int, 2) := by decide +kernel
theorem d_Mo_init_66 : decode M_Mo_init.2.1 66 = .ok (.putfield 32, 3) := by decide +kernel
theorem d_Mo_init_69 : decode M_Mo_init.2.1 69 = .ok (.aload_n 0, 1) := by decide +kernel
theorem d_Mo_init_70 : decode M_Mo_init.2.1 70 = .ok (.iconst 4, 1) := by decide +kernel
theorem d_Mo_init_71 : decode M_Mo_init.2.1 71 = .ok (.newarray .int, 2) := by decide +kernel
theorem d_Mo_init_73 : decode M_Mo_init.2.1 73 = .ok (.putfield 35, 3) := by decide +kernel
theorem d_Mo_init_76 : decode M_Mo_init.2.1 76 = .ok (.aload_n 0, 1) := by decide +kernel
theorem d_Mo_init_77 : decode M_Mo_init.2.1 77 = .ok (.iconst 4, 1) := by decide +kernel
theorem d_Mo_init_78 : decode M_Mo_init.2.1 78 = .ok (.newarray .int, 2) := by decide +kernel
theorem d_Mo_init_80 : decode M_Mo_init.2.1 80 = .ok (.dup, 1) := by decide +kernel
theorem d_Mo_init_81 : decode M_Mo_init.2.1 81 = .ok (.iconst 0, 1) := by decide +kernel
theorem d_Mo_init_82 : decode M_Mo_init.2.1 82 = .ok (.iconst (-1), 1) := by decide +kernel
theorem d_Mo_init_83 : decode M_Mo_init.2.1 83 = .ok (.iastore, 1) := by decide +kernel
theorem d_Mo_init_84 : decode M_Mo_init.2.1 84 = .ok (.dup, 1) := by decide +kernel
theorem d_Mo_init_85 : decode M_Mo_init.2.1 85 = .ok (.iconst 1, 1) := by decide +kernel
theorem d_Mo_init_86 : decode M_Mo_init.2.1 86 = .ok (.iconst (-1), 1) := by decide +kernel
theorem d_Mo_init_87 : decode M_Mo_init.2.1 87 = .ok (.iastore, 1) := by decide +kernel
theorem d_Mo_init_88 : decode M_Mo_init.2.1 88 = .ok (.dup, 1) := by decide +kernel
theorem d_Mo_init_89 : decode M_Mo_init.2.1 89 = .ok (.iconst 2, 1) := by decide +kernel
theorem d_Mo_init_90 : decode M_Mo_init.2.1 90 = .ok (.iconst (-1), 1) := by decide +kernel
theorem d_Mo_init_91 : decode M_Mo_init.2.1 91 = .ok (.iastore, 1) := by decide +kernel
theorem d_Mo_init_92 : decode M_Mo_init.2.1 92 = .ok (.dup, 1) := by decide +kernel
theorem d_Mo_init_93 : decode M_Mo_init.2.1 93 = .ok (.iconst 3, 1) := by decide +kernel
theorem d_Mo_init_94 : decode M_Mo_init.2.1 94 = .ok (.iconst (-1), 1) := by decide +kernel
theorem d_Mo_init_95 : decode M_Mo_init.2.1 95 = .ok (.iastore, 1) := by decide +kernel
theorem d_Mo_init_96 : decode M_Mo_init.2.1 96 = .ok (.putfield 38, 3) := by decide +kernel
theorem d_Mo_init_99 : decode M_Mo_init.2.1 99 = .ok (.aload_n 0, 1) := by decide +kernel
theorem d_Mo_init_100 : decode M_Mo_init.2.1 100 = .ok (.sipush 2560, 3) := by decide +kernel
theorem d_Mo_init_103 : decode M_Mo_init.2.1 103 = .ok (.newarray .int, 2) := by decide +kernel
theorem d_Mo_init_105 : decode M_Mo_init.2.1 105 = .ok (.putfield 41, 3) := by decide +kernel
theorem d_Mo_init_108 : decode M_Mo_init.2.1 108 = .ok (.aload_n 0, 1) := by decide +kernel
theorem d_Mo_init_109 : decode M_Mo_init.2.1 109 = .ok (.bipush 80, 2) := by decide +kernel
theorem d_Mo_init_111 : decode M_Mo_init.2.1 111 = .ok (.newarray .int, 2) := by decide +kernel
theorem d_Mo_init_113 : decode M_Mo_init.2.1 113 = .ok (.putfield 44, 3) := by decide +kernel
theorem d_Mo_init_116 : decode M_Mo_init.2.1 116 = .ok (.aload_n 0, 1) := by decide +kernel
theorem d_Mo_init_117 : decode M_Mo_init.2.1 117 = .ok (.iconst 5, 1) := by decide +kernel
theorem d_Mo_init_118 : decode M_Mo_init.2.1 118 = .ok (.newarray .int, 2) := by decide +kernel
theorem d_Mo_init_120 : decode M_Mo_init.2.1 120 = .ok (.putfield 47, 3) := by decide +kernel
theorem d_Mo_init_123 : decode M_Mo_init.2.1 123 = .ok (.aload_n 0, 1) := by decide +kernel
theorem d_Mo_init_124 : decode M_Mo_init.2.1 124 = .ok (.sipush 2400, 3) := by decide +kernel
theorem d_Mo_init_127 : decode M_Mo_init.2.1 127 = .ok (.newarray .int, 2) := by decide +kernel
theorem d_Mo_init_129 : decode M_Mo_init.2.1 129 = .ok (.putfield 50, 3) := by decide +kernel
theorem d_Mo_init_132 : decode M_Mo_init.2.1 132 = .ok (.aload_n 0, 1) := by decide +kernel
theorem d_Mo_init_133 : decode M_Mo_init.2.1 133 = .ok (.bipush 16, 2) := by decide +kernel
theorem d_Mo_init_135 : decode M_Mo_init.2.1 135 = .ok (.newarray .int, 2) := by decide +kernel
theorem d_Mo_init_137 : decode M_Mo_init.2.1 137 = .ok (.putfield 53, 3) := by decide +kernel
theorem d_Mo_init_140 : decode M_Mo_init.2.1 140 = .ok (.aload_n 0, 1) := by decide +kernel
theorem d_Mo_init_141 : decode M_Mo_init.2.1 141 = .ok (.sipush 400, 3) := by decide +kernel
theorem d_Mo_init_144 : decode M_Mo_init.2.1 144 = .ok (.newarray .int, 2) := by decide +kernel
theorem d_Mo_init_146 : decode M_Mo_init.2.1 146 = .ok (.putfield 56, 3) := by decide +kernel
theorem d_Mo_init_149 : decode M_Mo_init.2.1 149 = .ok (.return_, 1) := by decide +kernel
def x_Mo_init (i : Nat) (w : sk_H) : Option sk_H :=
  (some (w ++ [.inl (0, List.replicate 33 0)])).bind fun w1 =>
  (w_put w1 i 7 1 (.ref w.length)).bind fun w2 =>
  (some (w2 ++ [.inl (0, List.replicate 33 0)])).bind fun w3 =>
  (w_put w3 i 7 2 (.ref w2.length)).bind fun w4 =>
  (some (w4 ++ [.inl (0, List.replicate 3960 0)])).bind fun w5 =>
  (w_put w5 i 7 3 (.ref w4.length)).bind fun w6 =>
  (some (w6 ++ [.inl (0, List.replicate 165 0)])).bind fun w7 =>
  (w_put w7 i 7 4 (.ref w6.length)).bind fun w8 =>
  (some (w8 ++ [.inl (1, List.replicate 16 0)])).bind fun w9 =>
  (w_put w9 i 7 5 (.ref w8.length)).bind fun w10 =>
  (some (w10 ++ [.inl (0, List.replicate 16 0)])).bind fun w11 =>
  (w_put w11 i 7 6 (.ref w10.length)).bind fun w12 =>
  (some (w12 ++ [.inl (0, List.replicate 64 0)])).bind fun w13 =>
  (w_put w13 i 7 8 (.ref w12.length)).bind fun w14 =>
  (some (w14 ++ [.inl (0, List.replicate 4 0)])).bind fun w15 =>
  (w_put w15 i 7 10 (.ref w14.length)).bind fun w16 =>
  (some (w16 ++ [.inl (0, List.replicate 4 0)])).bind fun w17 =>
  (w_put w17 i 7 11 (.ref w16.length)).bind fun w18 =>
  (some (w18 ++ [.inl (0, List.replicate 4 0)])).bind fun w19 =>
  (w_ist w19 w18.length 0 (-1)).bind fun w20 =>
  (w_ist w20 w18.length 1 (-1)).bind fun w21 =>
  (w_ist w21 w18.length 2 (-1)).bind fun w22 =>
  (w_ist w22 w18.length 3 (-1)).bind fun w23 =>
  (w_put w23 i 7 12 (.ref w18.length)).bind fun w24 =>
  (some (w24 ++ [.inl (0, List.replicate 2560 0)])).bind fun w25 =>
  (w_put w25 i 7 14 (.ref w24.length)).bind fun w26 =>
  (some (w26 ++ [.inl (0, List.replicate 80 0)])).bind fun w27 =>
  (w_put w27 i 7 15 (.ref w26.length)).bind fun w28 =>
  (some (w28 ++ [.inl (0, List.replicate 5 0)])).bind fun w29 =>
  (w_put w29 i 7 16 (.ref w28.length)).bind fun w30 =>
  (some (w30 ++ [.inl (0, List.replicate 2400 0)])).bind fun w31 =>
  (w_put w31 i 7 18 (.ref w30.length)).bind fun w32 =>
  (some (w32 ++ [.inl (0, List.replicate 16 0)])).bind fun w33 =>
  (w_put w33 i 7 19 (.ref w32.length)).bind fun w34 =>
  (some (w34 ++ [.inl (0, List.replicate 400 0)])).bind fun w35 =>
  (w_put w35 i 7 24 (.ref w34.length)).bind fun w36 =>
  some w36
theorem k_Mo_init {i : Nat} {w w' : sk_H} (h : x_Mo_init i w = some w') : Ct M_Mo_init 1 16 9760 w [.ref i] (PoW w') := by
  refine Ct.of (by decide +kernel) (Nat.le_of_ble_eq_true rfl) (fun Z T => ?_)
  have F := T.F
  unfold x_Mo_init at h
  show Z w 0 [(0, .ref i)] [] 0 0
  refine g_aload_n F (pc := 0) d_Mo_init_0 0 rfl (g_objInit F (pc := 1) d_Mo_init_1 ml_Mo_1 oi_2 oi_3 (by decide) (g_aload_n F (pc := 4) d_Mo_init_4 0 rfl (g_bipush (v := 33) F (pc := 5) d_Mo_init_5 (by decide) (g_newa (t := 0) (N := 33) F (pc := 7) d_Mo_init_7 rfl na_int rfl rfl nb_int (by decide) (by decide) (by decide) (Nat.le_of_ble_eq_true rfl) (Nat.le_of_ble_eq_true rfl) ?_))))
  obtain ⟨w1, ew1, h⟩ := Option.bind_eq_some_iff.mp h
  rw [Option.some.inj ew1]
  obtain ⟨w2, ew2, h⟩ := Option.bind_eq_some_iff.mp h
  obtain ⟨fsw2, pw2, qw2, rw2⟩ := w_put_s ew2
  refine g_put F (pc := 9) d_Mo_init_9 cl_7 (pf_Mo_7 _ rfl rfl) pw2 qw2 (fun _ => rfl) (fun _ => rfl) ?_
  rw [← rw2]
  refine g_aload_n F (pc := 12) d_Mo_init_12 0 rfl (g_bipush (v := 33) F (pc := 13) d_Mo_init_13 (by decide) (g_newa (t := 0) (N := 33) F (pc := 15) d_Mo_init_15 rfl na_int rfl rfl nb_int (by decide) (by decide) (by decide) (Nat.le_of_ble_eq_true rfl) (Nat.le_of_ble_eq_true rfl) ?_))
  obtain ⟨w3, ew3, h⟩ := Option.bind_eq_some_iff.mp h
  rw [Option.some.inj ew3]
  obtain ⟨w4, ew4, h⟩ := Option.bind_eq_some_iff.mp h
  obtain ⟨fsw4, pw4, qw4, rw4⟩ := w_put_s ew4
  refine g_put F (pc := 17) d_Mo_init_17 cl_7 (pf_Mo_13 _ rfl rfl) pw4 qw4 (fun _ => rfl) (fun _ => rfl) ?_
  rw [← rw4]
  refine g_aload_n F (pc := 20) d_Mo_init_20 0 rfl (g_sipush (v := 3960) F (pc := 21) d_Mo_init_21 (by decide) (g_newa (t := 0) (N := 3960) F (pc := 24) d_Mo_init_24 rfl na_int rfl rfl nb_int (by decide) (by decide) (by decide) (Nat.le_of_ble_eq_true rfl) (Nat.le_of_ble_eq_true rfl) ?_))
  obtain ⟨w5, ew5, h⟩ := Option.bind_eq_some_iff.mp h
  rw [Option.some.inj ew5]
  obtain ⟨w6, ew6, h⟩ := Option.bind_eq_some_iff.mp h
  obtain ⟨fsw6, pw6, qw6, rw6⟩ := w_put_s ew6
  refine g_put F (pc := 26) d_Mo_init_26 cl_7 (pf_Mo_16 _ rfl rfl) pw6 qw6 (fun _ => rfl) (fun _ => rfl) ?_
  rw [← rw6]
  refine g_aload_n F (pc := 29) d_Mo_init_29 0 rfl (g_sipush (v := 165) F (pc := 30) d_Mo_init_30 (by decide) (g_newa (t := 0) (N := 165) F (pc := 33) d_Mo_init_33 rfl na_int rfl rfl nb_int (by decide) (by decide) (by decide) (Nat.le_of_ble_eq_true rfl) (Nat.le_of_ble_eq_true rfl) ?_))
  obtain ⟨w7, ew7, h⟩ := Option.bind_eq_some_iff.mp h
  rw [Option.some.inj ew7]
  obtain ⟨w8, ew8, h⟩ := Option.bind_eq_some_iff.mp h
  obtain ⟨fsw8, pw8, qw8, rw8⟩ := w_put_s ew8
  refine g_put F (pc := 35) d_Mo_init_35 cl_7 (pf_Mo_19 _ rfl rfl) pw8 qw8 (fun _ => rfl) (fun _ => rfl) ?_
  rw [← rw8]
  refine g_aload_n F (pc := 38) d_Mo_init_38 0 rfl (g_bipush (v := 16) F (pc := 39) d_Mo_init_39 (by decide) (g_newa (t := 1) (N := 16) F (pc := 41) d_Mo_init_41 rfl na_boolean rfl rfl nb_boolean (by decide) (by decide) (by decide) (Nat.le_of_ble_eq_true rfl) (Nat.le_of_ble_eq_true rfl) ?_))
  obtain ⟨w9, ew9, h⟩ := Option.bind_eq_some_iff.mp h
  rw [Option.some.inj ew9]
  obtain ⟨w10, ew10, h⟩ := Option.bind_eq_some_iff.mp h
  obtain ⟨fsw10, pw10, qw10, rw10⟩ := w_put_s ew10
  refine g_put F (pc := 43) d_Mo_init_43 cl_7 (pf_Mo_22 _ rfl rfl) pw10 qw10 (fun _ => rfl) (fun _ => rfl) ?_
  rw [← rw10]
  refine g_aload_n F (pc := 46) d_Mo_init_46 0 rfl (g_bipush (v := 16) F (pc := 47) d_Mo_init_47 (by decide) (g_newa (t := 0) (N := 16) F (pc := 49) d_Mo_init_49 rfl na_int rfl rfl nb_int (by decide) (by decide) (by decide) (Nat.le_of_ble_eq_true rfl) (Nat.le_of_ble_eq_true rfl) ?_))
  obtain ⟨w11, ew11, h⟩ := Option.bind_eq_some_iff.mp h
  rw [Option.some.inj ew11]
  obtain ⟨w12, ew12, h⟩ := Option.bind_eq_some_iff.mp h
  obtain ⟨fsw12, pw12, qw12, rw12⟩ := w_put_s ew12
  refine g_put F (pc := 51) d_Mo_init_51 cl_7 (pf_Mo_26 _ rfl rfl) pw12 qw12 (fun _ => rfl) (fun _ => rfl) ?_
  rw [← rw12]
  refine g_aload_n F (pc := 54) d_Mo_init_54 0 rfl (g_bipush (v := 64) F (pc := 55) d_Mo_init_55 (by decide) (g_newa (t := 0) (N := 64) F (pc := 57) d_Mo_init_57 rfl na_int rfl rfl nb_int (by decide) (by decide) (by decide) (Nat.le_of_ble_eq_true rfl) (Nat.le_of_ble_eq_true rfl) ?_))
  obtain ⟨w13, ew13, h⟩ := Option.bind_eq_some_iff.mp h
  rw [Option.some.inj ew13]
  obtain ⟨w14, ew14, h⟩ := Option.bind_eq_some_iff.mp h
  obtain ⟨fsw14, pw14, qw14, rw14⟩ := w_put_s ew14
  refine g_put F (pc := 59) d_Mo_init_59 cl_7 (pf_Mo_29 _ rfl rfl) pw14 qw14 (fun _ => rfl) (fun _ => rfl) ?_
  rw [← rw14]
  refine g_aload_n F (pc := 62) d_Mo_init_62 0 rfl (g_iconst (v := 4) F (pc := 63) d_Mo_init_63 (by decide) (g_newa (t := 0) (N := 4) F (pc := 64) d_Mo_init_64 rfl na_int rfl rfl nb_int (by decide) (by decide) (by decide) (Nat.le_of_ble_eq_true rfl) (Nat.le_of_ble_eq_true rfl) ?_))
  obtain ⟨w15, ew15, h⟩ := Option.bind_eq_some_iff.mp h
  rw [Option.some.inj ew15]
  obtain ⟨w16, ew16, h⟩ := Option.bind_eq_some_iff.mp h
  obtain ⟨fsw16, pw16, qw16, rw16⟩ := w_put_s ew16
  refine g_put F (pc := 66) d_Mo_init_66 cl_7 (pf_Mo_32 _ rfl rfl) pw16 qw16 (fun _ => rfl) (fun _ => rfl) ?_
  rw [← rw16]
  refine g_aload_n F (pc := 69) d_Mo_init_69 0 rfl (g_iconst (v := 4) F (pc := 70) d_Mo_init_70 (by decide) (g_newa (t := 0) (N := 4) F (pc := 71) d_Mo_init_71 rfl na_int rfl rfl nb_int (by decide) (by decide) (by decide) (Nat.le_of_ble_eq_true rfl) (Nat.le_of_ble_eq_true rfl) ?_))
  obtain ⟨w17, ew17, h⟩ := Option.bind_eq_some_iff.mp h
  rw [Option.some.inj ew17]
  obtain ⟨w18, ew18, h⟩ := Option.bind_eq_some_iff.mp h
  obtain ⟨fsw18, pw18, qw18, rw18⟩ := w_put_s ew18
  refine g_put F (pc := 73) d_Mo_init_73 cl_7 (pf_Mo_35 _ rfl rfl) pw18 qw18 (fun _ => rfl) (fun _ => rfl) ?_
  rw [← rw18]
  refine g_aload_n F (pc := 76) d_Mo_init_76 0 rfl (g_iconst (v := 4) F (pc := 77) d_Mo_init_77 (by decide) (g_newa (t := 0) (N := 4) F (pc := 78) d_Mo_init_78 rfl na_int rfl rfl nb_int (by decide) (by decide) (by decide) (Nat.le_of_ble_eq_true rfl) (Nat.le_of_ble_eq_true rfl) ?_))
  obtain ⟨w19, ew19, h⟩ := Option.bind_eq_some_iff.mp h
  rw [Option.some.inj ew19]
  refine g_dup F (pc := 80) d_Mo_init_80 rfl (g_iconst (v := 0) F (pc := 81) d_Mo_init_81 (by decide) (g_iconst (v := (-1)) F (pc := 82) d_Mo_init_82 (by decide) ?_))
  obtain ⟨w20, ew20, h⟩ := Option.bind_eq_some_iff.mp h
  obtain ⟨Lw20, pw20, qw20, rw20⟩ := w_ist_s ew20
  refine g_iast (j := 0) F (pc := 83) d_Mo_init_83 pw20 rfl (vq_in qw20 (by decide)) (by decide) ?_
  rw [← rw20]
  refine g_dup F (pc := 84) d_Mo_init_84 rfl (g_iconst (v := 1) F (pc := 85) d_Mo_init_85 (by decide) (g_iconst (v := (-1)) F (pc := 86) d_Mo_init_86 (by decide) ?_))
  obtain ⟨w21, ew21, h⟩ := Option.bind_eq_some_iff.mp h
  obtain ⟨Lw21, pw21, qw21, rw21⟩ := w_ist_s ew21
  refine g_iast (j := 1) F (pc := 87) d_Mo_init_87 pw21 rfl (vq_in qw21 (by decide)) (by decide) ?_
  rw [← rw21]
  refine g_dup F (pc := 88) d_Mo_init_88 rfl (g_iconst (v := 2) F (pc := 89) d_Mo_init_89 (by decide) (g_iconst (v := (-1)) F (pc := 90) d_Mo_init_90 (by decide) ?_))
  obtain ⟨w22, ew22, h⟩ := Option.bind_eq_some_iff.mp h
  obtain ⟨Lw22, pw22, qw22, rw22⟩ := w_ist_s ew22
  refine g_iast (j := 2) F (pc := 91) d_Mo_init_91 pw22 rfl (vq_in qw22 (by decide)) (by decide) ?_
  rw [← rw22]
  refine g_dup F (pc := 92) d_Mo_init_92 rfl (g_iconst (v := 3) F (pc := 93) d_Mo_init_93 (by decide) (g_iconst (v := (-1)) F (pc := 94) d_Mo_init_94 (by decide) ?_))
  obtain ⟨w23, ew23, h⟩ := Option.bind_eq_some_iff.mp h
  obtain ⟨Lw23, pw23, qw23, rw23⟩ := w_ist_s ew23
  refine g_iast (j := 3) F (pc := 95) d_Mo_init_95 pw23 rfl (vq_in qw23 (by decide)) (by decide) ?_
  rw [← rw23]
  obtain ⟨w24, ew24, h⟩ := Option.bind_eq_some_iff.mp h
  obtain ⟨fsw24, pw24, qw24, rw24⟩ := w_put_s ew24
  refine g_put F (pc := 96) d_Mo_init_96 cl_7 (pf_Mo_38 _ rfl rfl) pw24 qw24 (fun _ => rfl) (fun _ => rfl) ?_
  rw [← rw24]
  refine g_aload_n F (pc := 99) d_Mo_init_99 0 rfl (g_sipush (v := 2560) F (pc := 100) d_Mo_init_100 (by decide) (g_newa (t := 0) (N := 2560) F (pc := 103) d_Mo_init_103 rfl na_int rfl rfl nb_int (by decide) (by decide) (by decide) (Nat.le_of_ble_eq_true rfl) (Nat.le_of_ble_eq_true rfl) ?_))
  obtain ⟨w25, ew25, h⟩ := Option.bind_eq_some_iff.mp h
  rw [Option.some.inj ew25]
  obtain ⟨w26, ew26, h⟩ := Option.bind_eq_some_iff.mp h
  obtain ⟨fsw26, pw26, qw26, rw26⟩ := w_put_s ew26
  refine g_put F (pc := 105) d_Mo_init_105 cl_7 (pf_Mo_41 _ rfl rfl) pw26 qw26 (fun _ => rfl) (fun _ => rfl) ?_
  rw [← rw26]
  refine g_aload_n F (pc := 108) d_Mo_init_108 0 rfl (g_bipush (v := 80) F (pc := 109) d_Mo_init_109 (by decide) (g_newa (t := 0) (N := 80) F (pc := 111) d_Mo_init_111 rfl na_int rfl rfl nb_int (by decide) (by decide) (by decide) (Nat.le_of_ble_eq_true rfl) (Nat.le_of_ble_eq_true rfl) ?_))
  obtain ⟨w27, ew27, h⟩ := Option.bind_eq_some_iff.mp h
  rw [Option.some.inj ew27]
  obtain ⟨w28, ew28, h⟩ := Option.bind_eq_some_iff.mp h
  obtain ⟨fsw28, pw28, qw28, rw28⟩ := w_put_s ew28
  refine g_put F (pc := 113) d_Mo_init_113 cl_7 (pf_Mo_44 _ rfl rfl) pw28 qw28 (fun _ => rfl) (fun _ => rfl) ?_
  rw [← rw28]
  refine g_aload_n F (pc := 116) d_Mo_init_116 0 rfl (g_iconst (v := 5) F (pc := 117) d_Mo_init_117 (by decide) (g_newa (t := 0) (N := 5) F (pc := 118) d_Mo_init_118 rfl na_int rfl rfl nb_int (by decide) (by decide) (by decide) (Nat.le_of_ble_eq_true rfl) (Nat.le_of_ble_eq_true rfl) ?_))
  obtain ⟨w29, ew29, h⟩ := Option.bind_eq_some_iff.mp h
  rw [Option.some.inj ew29]
  obtain ⟨w30, ew30, h⟩ := Option.bind_eq_some_iff.mp h
  obtain ⟨fsw30, pw30, qw30, rw30⟩ := w_put_s ew30
  refine g_put F (pc := 120) d_Mo_init_120 cl_7 (pf_Mo_47 _ rfl rfl) pw30 qw30 (fun _ => rfl) (fun _ => rfl) ?_
  rw [← rw30]
  refine g_aload_n F (pc := 123) d_Mo_init_123 0 rfl (g_sipush (v := 2400) F (pc := 124) d_Mo_init_124 (by decide) (g_newa (t := 0) (N := 2400) F (pc := 127) d_Mo_init_127 rfl na_int rfl rfl nb_int (by decide) (by decide) (by decide) (Nat.le_of_ble_eq_true rfl) (Nat.le_of_ble_eq_true rfl) ?_))
  obtain ⟨w31, ew31, h⟩ := Option.bind_eq_some_iff.mp h
  rw [Option.some.inj ew31]
  obtain ⟨w32, ew32, h⟩ := Option.bind_eq_some_iff.mp h
  obtain ⟨fsw32, pw32, qw32, rw32⟩ := w_put_s ew32
  refine g_put F (pc := 129) d_Mo_init_129 cl_7 (pf_Mo_50 _ rfl rfl) pw32 qw32 (fun _ => rfl) (fun _ => rfl) ?_
  rw [← rw32]
  refine g_aload_n F (pc := 132) d_Mo_init_132 0 rfl (g_bipush (v := 16) F (pc := 133) d_Mo_init_133 (by decide) (g_newa (t := 0) (N := 16) F (pc := 135) d_Mo_init_135 rfl na_int rfl rfl nb_int (by decide) (by decide) (by decide) (Nat.le_of_ble_eq_true rfl) (Nat.le_of_ble_eq_true rfl) ?_))
  obtain ⟨w33, ew33, h⟩ := Option.bind_eq_some_iff.mp h
  rw [Option.some.inj ew33]
  obtain ⟨w34, ew34, h⟩ := Option.bind_eq_some_iff.mp h
  obtain ⟨fsw34, pw34, qw34, rw34⟩ := w_put_s ew34
  refine g_put F (pc := 137) d_Mo_init_137 cl_7 (pf_Mo_53 _ rfl rfl) pw34 qw34 (fun _ => rfl) (fun _ => rfl) ?_
  rw [← rw34]
  refine g_aload_n F (pc := 140) d_Mo_init_140 0 rfl (g_sipush (v := 400) F (pc := 141) d_Mo_init_141 (by decide) (g_newa (t := 0) (N := 400) F (pc := 144) d_Mo_init_144 rfl na_int rfl rfl nb_int (by decide) (by decide) (by decide) (Nat.le_of_ble_eq_true rfl) (Nat.le_of_ble_eq_true rfl) ?_))
  obtain ⟨w35, ew35, h⟩ := Option.bind_eq_some_iff.mp h
  rw [Option.some.inj ew35]
  obtain ⟨w36, ew36, h⟩ := Option.bind_eq_some_iff.mp h
  obtain ⟨fsw36, pw36, qw36, rw36⟩ := w_put_s ew36
  refine g_put F (pc := 146) d_Mo_init_146 cl_7 (pf_Mo_56 _ rfl rfl) pw36 qw36 (fun _ => rfl) (fun _ => rfl) ?_
  rw [← rw36]
  rw [Option.some.inj h]
  exact g_vret T (pc := 149) d_Mo_init_149 rfl (Nat.le_of_ble_eq_true rfl) (Nat.le_of_ble_eq_true rfl) ⟨rfl, rfl⟩
