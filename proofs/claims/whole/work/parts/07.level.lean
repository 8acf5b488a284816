
abbrev cM : Type := Nat → Nat → Int32
def c_row (c : cM) (i : Nat) (r : Nat → Int32) : cM := fun a => if a = i then r else c a
def c_up (c : cM) (i j : Nat) (v : Int32) : cM := c_row c i (fun b => if b = j then v else c i b)
def kd (i : Nat) : Nat := (ky.getD i (998, 0, [])).1
def ln (i : Nat) : Nat := (ky.getD i (998, 0, [])).2.1
def rf (i f : Nat) : Nat := ((ky.getD i (998, 0, [])).2.2).getD f 0
def c_N : Nat := ky.length
def c_nv (x : Int32) : Value := if x = 0 then .null else .ref x.toNatClampNeg
def c_fv (r : Nat → Int32) (i f t : Nat) : Value := if t = 0 then .int (r f) else if t = 1 then .ref (rf i f) else c_nv (r f)
def c_fs (r : Nat → Int32) (i ci : Nat) : List Value := (ft ci).mapIdx (fun f t => c_fv r i f t)
def c_el (r : Nat → Int32) (i : Nat) : sk_C :=
  if kd i < 50 then .inr (.inr (kd i, c_fs r i (kd i)))
  else if kd i = 100 then .inl (0, (List.range (ln i)).map r)
  else if kd i = 101 then .inl (1, (List.range (ln i)).map r)
  else if kd i = 102 then .inr (.inl (2, (List.range (ln i)).map (fun j => some (rf i j))))
  else sk_dum
theorem wd_ex : ∃ f : cM → sk_H, f = fun c => (List.range c_N).map (fun i => c_el (c i) i) := ⟨_, rfl⟩
noncomputable def wd : cM → sk_H := Classical.choose wd_ex
theorem wd_def (c : cM) : wd c = (List.range c_N).map (fun i => c_el (c i) i) := congrFun (Classical.choose_spec wd_ex) c
theorem c_row_self {c : cM} {i : Nat} {r : Nat → Int32} : c_row c i r i = r := if_pos rfl
theorem c_row_ne {c : cM} {i a : Nat} {r : Nat → Int32} (h : a ≠ i) : c_row c i r a = c a := if_neg h
theorem c_up_ne {c : cM} {i j a : Nat} {v : Int32} (h : a ≠ i) : c_up c i j v a = c a := if_neg h
theorem c_up_self {c : cM} {i j : Nat} {v : Int32} : c_up c i j v i j = v := by
  unfold c_up; rw [c_row_self, if_pos rfl]
theorem c_up_at {c : cM} {i j b : Nat} {v : Int32} (h : b ≠ j) : c_up c i j v i b = c i b := by
  unfold c_up; rw [c_row_self, if_neg h]
theorem kd_lt {i : Nat} (h : kd i ≠ 998) : i < c_N := by
  rcases Nat.lt_or_ge i c_N with g | g
  · exact g
  · exact absurd (by unfold kd; rw [List.getD_eq_getElem?_getD, List.getElem?_eq_none_iff.mpr g]; rfl) h
theorem wd_len {c : cM} : (wd c).length = c_N := by rw [wd_def, List.length_map, List.length_range]
theorem wd_at {c : cM} {i : Nat} (h : i < c_N) : (wd c)[i]? = some (c_el (c i) i) := by
  rw [wd_def, List.getElem?_map, List.getElem?_range h]
  rfl
theorem wd_set {c : cM} {i : Nat} {r : Nat → Int32} (h : i < c_N) : (wd c).set i (c_el r i) = wd (c_row c i r) := by
  apply List.ext_getElem?
  intro a
  by_cases ha : a = i
  · subst ha
    rw [List.getElem?_set_self (by rw [wd_len]; exact h), wd_at h, c_row_self]
  · rw [List.getElem?_set_ne (Ne.symm ha)]
    by_cases hl : a < c_N
    · rw [wd_at hl, wd_at hl, c_row_ne ha]
    · rw [List.getElem?_eq_none_iff.mpr (by rw [wd_len]; omega), List.getElem?_eq_none_iff.mpr (by rw [wd_len]; omega)]
theorem el_o {r : Nat → Int32} {i ci : Nat} (h : kd i = ci) (hc : ci < 50) : c_el r i = .inr (.inr (ci, c_fs r i ci)) := by
  subst h
  unfold c_el
  rw [if_pos hc]
theorem el_i {r : Nat → Int32} {i : Nat} (h : kd i = 100) : c_el r i = .inl (0, (List.range (ln i)).map r) := by
  unfold c_el
  rw [if_neg (by omega), if_pos h]
theorem el_z {r : Nat → Int32} {i : Nat} (h : kd i = 101) : c_el r i = .inl (1, (List.range (ln i)).map r) := by
  unfold c_el
  rw [if_neg (by omega), if_neg (by omega), if_pos h]
theorem el_q {r : Nat → Int32} {i : Nat} (h : kd i = 102) : c_el r i = .inr (.inl (2, (List.range (ln i)).map (fun j => some (rf i j)))) := by
  unfold c_el
  rw [if_neg (by omega), if_neg (by omega), if_neg (by omega), if_pos h]
theorem wd_o {c : cM} {i ci : Nat} (h : kd i = ci) (hc : ci < 50) : (wd c)[i]? = some (.inr (.inr (ci, c_fs (c i) i ci))) := by
  rw [wd_at (kd_lt (by omega)), el_o h hc]
theorem wd_i {c : cM} {i : Nat} (h : kd i = 100) : (wd c)[i]? = some (.inl (0, (List.range (ln i)).map (c i))) := by
  rw [wd_at (kd_lt (by omega)), el_i h]
theorem wd_z {c : cM} {i : Nat} (h : kd i = 101) : (wd c)[i]? = some (.inl (1, (List.range (ln i)).map (c i))) := by
  rw [wd_at (kd_lt (by omega)), el_z h]
theorem wd_q {c : cM} {i : Nat} (h : kd i = 102) : (wd c)[i]? = some (.inr (.inl (2, (List.range (ln i)).map (fun j => some (rf i j))))) := by
  rw [wd_at (kd_lt (by omega)), el_q h]
theorem c_fs_at {r : Nat → Int32} {i ci f t : Nat} (h : (ft ci)[f]? = some t) : (c_fs r i ci)[f]? = some (c_fv r i f t) := by
  unfold c_fs
  rw [List.getElem?_mapIdx, h]
  rfl
theorem c_mi_set {l : List Nat} {F G : Nat → Nat → Value} {f t : Nat} {x : Value} (h : l[f]? = some t) (hn : ∀ a q, a ≠ f → F a q = G a q) (hx : G f t = x) : (l.mapIdx F).set f x = l.mapIdx G := by
  apply List.ext_getElem?
  intro a
  by_cases ha : a = f
  · subst ha
    rw [List.getElem?_set_self (by rw [List.length_mapIdx]; exact (List.getElem?_eq_some_iff.mp h).1), List.getElem?_mapIdx, h, Option.map_some, hx]
  · rw [List.getElem?_set_ne (Ne.symm ha), List.getElem?_mapIdx, List.getElem?_mapIdx]
    cases l[a]? with
    | none => rfl
    | some q => rw [Option.map_some, Option.map_some, hn a q ha]
theorem c_fv_ne {r r' : Nat → Int32} {i a q : Nat} (h : r a = r' a) : c_fv r i a q = c_fv r' i a q := by
  unfold c_fv
  rw [h]
theorem c_fs_set {r : Nat → Int32} {i ci f t : Nat} {v : Int32} {x : Value} (h : (ft ci)[f]? = some t) (hx : c_fv (fun b => if b = f then v else r b) i f t = x) : (c_fs r i ci).set f x = c_fs (fun b => if b = f then v else r b) i ci :=
  c_mi_set h (fun _ _ ha => c_fv_ne (if_neg ha).symm) hx
theorem c_rg_at {r : Nat → Int32} {N j : Nat} (h : j < N) : ((List.range N).map r).getD j 0 = r j := by
  rw [List.getD_eq_getElem?_getD, List.getElem?_map, List.getElem?_range h]
  rfl
theorem c_rg_len {α : Type} {r : Nat → α} {N : Nat} : ((List.range N).map r).length = N := by rw [List.length_map, List.length_range]
theorem c_rg_set {r : Nat → Int32} {N j : Nat} {v : Int32} : ((List.range N).map r).set j v = (List.range N).map (fun b => if b = j then v else r b) := by
  apply List.ext_getElem?
  intro a
  by_cases hl : a < N
  · by_cases ha : a = j
    · subst ha
      rw [List.getElem?_set_self (by rw [c_rg_len]; exact hl), List.getElem?_map, List.getElem?_range hl, Option.map_some, if_pos rfl]
    · rw [List.getElem?_set_ne (Ne.symm ha), List.getElem?_map, List.getElem?_map, List.getElem?_range hl, Option.map_some, Option.map_some, if_neg ha]
  · rw [List.getElem?_eq_none_iff.mpr (by rw [List.length_set, c_rg_len]; omega), List.getElem?_eq_none_iff.mpr (by rw [c_rg_len]; omega)]
def sk_fI (own : String) (idx ci f : Nat) : Prop := sk_fl own idx ci f ∧ ci < 50 ∧ (ft ci)[f]? = some 0
def sk_fR (own : String) (idx ci f : Nat) : Prop := sk_fl own idx ci f ∧ ci < 50 ∧ (ft ci)[f]? = some 1
def sk_fN (own : String) (idx ci f : Nat) : Prop := sk_fl own idx ci f ∧ ci < 50 ∧ (ft ci)[f]? = some 2
def sk_pF (own : String) (idx ci f : Nat) (ty : FieldType) : Prop := ∃ (C : String) (T : u_T) (N : Nat), vwCl[ci]? = some (C, T, N) ∧ f < N ∧ Cond.fieldLink own idx (T f).1 (T f).2.1 (T f).2.2.1 ∈ sk_ws ∧ (T f).2.2.2 = false ∧ parseFieldDescriptor (T f).2.2.1 = some ty
def sk_pI (own : String) (idx ci f : Nat) : Prop := sk_cl ci ∧ sk_pF own idx ci f .int ∧ ci < 50 ∧ (ft ci)[f]? = some 0
def sk_pZ (own : String) (idx ci f : Nat) : Prop := sk_cl ci ∧ sk_pF own idx ci f .boolean ∧ ci < 50 ∧ (ft ci)[f]? = some 0
def sk_pN (own : String) (idx ci f : Nat) (C : String) : Prop := sk_cl ci ∧ sk_pF own idx ci f (.object C) ∧ ci < 50 ∧ (ft ci)[f]? = some 2
def sk_vc (ci : Nat) (C : String) : Prop := ci < 50 ∧ ∃ (T : u_T) (N : Nat), vwCl[ci]? = some (C, T, N)
def bz (v : Int32) : Prop := v = 0 ∨ v = 1
theorem sk_fp_of {M : sk_M} {idx ci f : Nat} {ty : FieldType} (h : sk_pF M.1.cls idx ci f ty) : sk_fp M idx ci f ty := by
  obtain ⟨C, T, N, h1, h2, h3, h4, h5⟩ := h
  exact ⟨C, T, N, h1, h2, h3, Or.inl h4, h5⟩
def PoV (K : cM → Prop) : Option Value → sk_H → Prop := fun r w' => r = none ∧ ∃ c', w' = wd c' ∧ K c'
def PoI (K : Int32 → cM → Prop) : Option Value → sk_H → Prop := fun r w' => ∃ v c', r = some (.int v) ∧ w' = wd c' ∧ K v c'
def PoL (K : Int64 → cM → Prop) : Option Value → sk_H → Prop := fun r w' => ∃ v c', r = some (.long v) ∧ w' = wd c' ∧ K v c'
def PoR (K : Nat → cM → Prop) : Option Value → sk_H → Prop := fun r w' => ∃ v c', r = some (.ref v) ∧ w' = wd c' ∧ K v c'
theorem poV {K : cM → Prop} {c : cM} (h : K c) : PoV K none (wd c) := ⟨rfl, c, rfl, h⟩
theorem poI {K : Int32 → cM → Prop} {v : Int32} {c : cM} (h : K v c) : PoI K (some (.int v)) (wd c) := ⟨v, c, rfl, rfl, h⟩
theorem poL {K : Int64 → cM → Prop} {v : Int64} {c : cM} (h : K v c) : PoL K (some (.long v)) (wd c) := ⟨v, c, rfl, rfl, h⟩
theorem poR {K : Nat → cM → Prop} {v : Nat} {c : cM} (h : K v c) : PoR K (some (.ref v)) (wd c) := ⟨v, c, rfl, rfl, h⟩
theorem PoV.el {K : cM → Prop} {P : Option Value → sk_H → Prop} {r : Option Value} {w : sk_H} (h : PoV K r w) (f : ∀ c1, K c1 → P none (wd c1)) : P r w := by
  obtain ⟨h1, c1, h2, h3⟩ := h
  rw [h1, h2]
  exact f c1 h3
theorem PoI.el {K : Int32 → cM → Prop} {P : Option Value → sk_H → Prop} {r : Option Value} {w : sk_H} (h : PoI K r w) (f : ∀ v c1, K v c1 → P (some (.int v)) (wd c1)) : P r w := by
  obtain ⟨v, c1, h1, h2, h3⟩ := h
  rw [h1, h2]
  exact f v c1 h3
theorem PoL.el {K : Int64 → cM → Prop} {P : Option Value → sk_H → Prop} {r : Option Value} {w : sk_H} (h : PoL K r w) (f : ∀ v c1, K v c1 → P (some (.long v)) (wd c1)) : P r w := by
  obtain ⟨v, c1, h1, h2, h3⟩ := h
  rw [h1, h2]
  exact f v c1 h3
theorem PoR.el {K : Nat → cM → Prop} {P : Option Value → sk_H → Prop} {r : Option Value} {w : sk_H} (h : PoR K r w) (f : ∀ v c1, K v c1 → P (some (.ref v)) (wd c1)) : P r w := by
  obtain ⟨v, c1, h1, h2, h3⟩ := h
  rw [h1, h2]
  exact f v c1 h3
section SKC
variable {M : sk_M} {d kc ks : Nat} {Po : Option Value → sk_H → Prop} {Z : sk_P} {c : cM} {w : sk_H} {pc : Nat} {lv lv' : List (Nat × Value)} {st : List Value} {k n : Nat}
theorem gc_getI (F : sk_F M d kc ks Z) {idx ci f i : Nat} (hd : decode M.2.1 pc = .ok (.getfield idx, 3)) (hf : sk_fI M.1.cls idx ci f) (ho : kd i = ci) (h : Z (wd c) (pc + 3) lv (.int (c i f) :: st) k n) : Z (wd c) pc lv (.ref i :: st) k n :=
  g_get F hd hf.1 (wd_o ho hf.2.1) (c_fs_at hf.2.2) h
theorem gc_getR (F : sk_F M d kc ks Z) {idx ci f i : Nat} (hd : decode M.2.1 pc = .ok (.getfield idx, 3)) (hf : sk_fR M.1.cls idx ci f) (ho : kd i = ci) (h : Z (wd c) (pc + 3) lv (.ref (rf i f) :: st) k n) : Z (wd c) pc lv (.ref i :: st) k n :=
  g_get F hd hf.1 (wd_o ho hf.2.1) (c_fs_at hf.2.2) h
theorem gc_getN (F : sk_F M d kc ks Z) {idx ci f i : Nat} (hd : decode M.2.1 pc = .ok (.getfield idx, 3)) (hf : sk_fN M.1.cls idx ci f) (ho : kd i = ci) (h : Z (wd c) (pc + 3) lv (c_nv (c i f) :: st) k n) : Z (wd c) pc lv (.ref i :: st) k n :=
  g_get F hd hf.1 (wd_o ho hf.2.1) (c_fs_at hf.2.2) h
theorem c_nv_ne {x : Int32} (h : ¬ x = 0) : c_nv x = .ref x.toNatClampNeg := if_neg h
theorem c_nv_0 : c_nv 0 = .null := if_pos rfl
theorem gc_nn {x : Int32} (h0 : ¬ x = 0) (h : Z w pc lv (.ref x.toNatClampNeg :: st) k n) : Z w pc lv (c_nv x :: st) k n := by rw [c_nv_ne h0]; exact h
theorem gc_put (F : sk_F M d kc ks Z) {idx ci f i t : Nat} {ty : FieldType} {x : Value} {v : Int32} (hd : decode M.2.1 pc = .ok (.putfield idx, 3)) (hcl : sk_cl ci) (hp : sk_pF M.1.cls idx ci f ty) (hc5 : ci < 50) (hft : (ft ci)[f]? = some t) (ho : kd i = ci) (hx : ∀ r : Nat → Int32, r f = v → c_fv r i f t = x) (hn : ∀ ad, narrow ty (sk_v ad x) = sk_v ad x) (hfit : ∀ ad, fits ty (sk_v ad x) = true) (h : Z (wd (c_up c i f v)) (pc + 3) lv st k n) : Z (wd c) pc lv (x :: .ref i :: st) k n := by
  refine g_put F hd hcl (sk_fp_of hp) (wd_o ho hc5) ?_ hn hfit ?_
  · unfold c_fs
    rw [List.length_mapIdx]
    exact (List.getElem?_eq_some_iff.mp hft).1
  · rw [c_fs_set (v := v) hft (hx _ (if_pos rfl)), ← el_o ho hc5, wd_set (kd_lt (by omega))]
    exact h
theorem gc_putI (F : sk_F M d kc ks Z) {idx ci f i : Nat} {v : Int32} (hd : decode M.2.1 pc = .ok (.putfield idx, 3)) (hp : sk_pI M.1.cls idx ci f) (ho : kd i = ci) (h : Z (wd (c_up c i f v)) (pc + 3) lv st k n) : Z (wd c) pc lv (.int v :: .ref i :: st) k n :=
  gc_put F hd hp.1 hp.2.1 hp.2.2.1 hp.2.2.2 ho (fun r hr => by show Value.int (r f) = _; rw [hr]) (fun _ => rfl) (fun _ => rfl) h
theorem bz_n {v : Int32} (h : bz v) : narrow .boolean (.int v) = .int v := by
  rcases h with h | h <;> subst h <;> decide
theorem bz_v {v : Int32} (h : bz v) : vp_nar .boolean v = v := by
  rcases h with h | h <;> subst h <;> decide
theorem bz_f {v : Int32} (h : bz v) : fits .boolean (.int v) = true := by
  rcases h with h | h <;> subst h <;> decide
theorem gc_putZ (F : sk_F M d kc ks Z) {idx ci f i : Nat} {v : Int32} (hd : decode M.2.1 pc = .ok (.putfield idx, 3)) (hp : sk_pZ M.1.cls idx ci f) (ho : kd i = ci) (hv : bz v) (h : Z (wd (c_up c i f v)) (pc + 3) lv st k n) : Z (wd c) pc lv (.int v :: .ref i :: st) k n :=
  gc_put F hd hp.1 hp.2.1 hp.2.2.1 hp.2.2.2 ho (fun r hr => by show Value.int (r f) = _; rw [hr]) (fun _ => bz_n hv) (fun _ => bz_f hv) h
theorem gc_putNull (F : sk_F M d kc ks Z) {idx ci f i : Nat} {C : String} (hd : decode M.2.1 pc = .ok (.putfield idx, 3)) (hp : sk_pN M.1.cls idx ci f C) (ho : kd i = ci) (h : Z (wd (c_up c i f 0)) (pc + 3) lv st k n) : Z (wd c) pc lv (.null :: .ref i :: st) k n :=
  gc_put F hd hp.1 hp.2.1 hp.2.2.1 hp.2.2.2 ho (fun r hr => by show c_nv (r f) = _; rw [hr]; exact c_nv_0) (fun _ => rfl) (fun _ => rfl) h
theorem gc_putRef (F : sk_F M d kc ks Z) {idx ci f i t : Nat} {C : String} (hd : decode M.2.1 pc = .ok (.putfield idx, 3)) (hp : sk_pN M.1.cls idx ci f C) (ho : kd i = ci) (ht : 0 < t ∧ t < 1000) (h : Z (wd (c_up c i f (nI t))) (pc + 3) lv st k n) : Z (wd c) pc lv (.ref t :: .ref i :: st) k n :=
  gc_put F hd hp.1 hp.2.1 hp.2.2.1 hp.2.2.2 ho (fun r hr => by
    show c_nv (r f) = _
    rw [hr, c_nv_ne (fun e => by have h1 := congrArg Int32.toNatClampNeg e; rw [nI_clamp (by omega)] at h1; have h2 : (0 : Int32).toNatClampNeg = 0 := by decide
                                 omega), nI_clamp (by omega)]) (fun _ => rfl) (fun _ => rfl) h
theorem gc_iald (F : sk_F M d kc ks Z) {i : Nat} {x : Int32} (hd : decode M.2.1 pc = .ok (.iaload, 1)) (ho : kd i = 100) (hin : vp_in x (ln i)) (h : Z (wd c) (pc + 1) lv (.int (c i x.toNatClampNeg) :: st) k n) : Z (wd c) pc lv (.int x :: .ref i :: st) k n :=
  g_iald F hd (wd_i ho) rfl (by rw [c_rg_len]; exact hin) rfl (by rw [c_rg_at (sk_in hin)]; exact h)
theorem gc_zald (F : sk_F M d kc ks Z) {i : Nat} {x : Int32} (hd : decode M.2.1 pc = .ok (.baload, 1)) (ho : kd i = 101) (hin : vp_in x (ln i)) (h : Z (wd c) (pc + 1) lv (.int (c i x.toNatClampNeg) :: st) k n) : Z (wd c) pc lv (.int x :: .ref i :: st) k n :=
  g_zald F hd (wd_z ho) rfl (by rw [c_rg_len]; exact hin) rfl (by rw [c_rg_at (sk_in hin)]; exact h)
theorem gc_iast (F : sk_F M d kc ks Z) {i : Nat} {x v : Int32} (hd : decode M.2.1 pc = .ok (.iastore, 1)) (ho : kd i = 100) (hin : vp_in x (ln i)) (h : Z (wd (c_up c i x.toNatClampNeg v)) (pc + 1) lv st k n) : Z (wd c) pc lv (.int v :: .int x :: .ref i :: st) k n := by
  refine g_iast F hd (wd_i ho) rfl (by rw [c_rg_len]; exact hin) rfl ?_
  rw [c_rg_set, ← el_i ho, wd_set (kd_lt (by omega))]
  exact h
theorem gc_zast (F : sk_F M d kc ks Z) {i : Nat} {x v : Int32} (hd : decode M.2.1 pc = .ok (.bastore, 1)) (ho : kd i = 101) (hin : vp_in x (ln i)) (hv : bz v) (h : Z (wd (c_up c i x.toNatClampNeg v)) (pc + 1) lv st k n) : Z (wd c) pc lv (.int v :: .int x :: .ref i :: st) k n := by
  refine g_zast F hd (wd_z ho) rfl (by rw [c_rg_len]; exact hin) rfl (bz_v hv) ?_
  rw [c_rg_set, ← el_z ho, wd_set (kd_lt (by omega))]
  exact h
theorem gc_aald (F : sk_F M d kc ks Z) {i : Nat} {x : Int32} (hd : decode M.2.1 pc = .ok (.aaload, 1)) (ho : kd i = 102) (hin : vp_in x (ln i)) (h : Z (wd c) (pc + 1) lv (.ref (rf i x.toNatClampNeg) :: st) k n) : Z (wd c) pc lv (.int x :: .ref i :: st) k n :=
  g_aald F hd (wd_q ho) rfl (by rw [c_rg_len]; exact hin) rfl (by rw [List.getElem?_map, List.getElem?_range (sk_in hin)]; rfl) h
theorem gc_alen0 (F : sk_F M d kc ks Z) {i : Nat} (hd : decode M.2.1 pc = .ok (.arraylength, 1)) (ho : kd i = 100) (h : Z (wd c) (pc + 1) lv (.int (nI (ln i)) :: st) k n) : Z (wd c) pc lv (.ref i :: st) k n :=
  g_alen1 F hd (wd_i ho) (ty := .int) rfl (by rw [c_rg_len]; exact h)
theorem gc_alen1 (F : sk_F M d kc ks Z) {i : Nat} (hd : decode M.2.1 pc = .ok (.arraylength, 1)) (ho : kd i = 101) (h : Z (wd c) (pc + 1) lv (.int (nI (ln i)) :: st) k n) : Z (wd c) pc lv (.ref i :: st) k n :=
  g_alen1 F hd (wd_z ho) (ty := .boolean) rfl (by rw [c_rg_len]; exact h)
theorem gc_alen2 (F : sk_F M d kc ks Z) {i : Nat} (hd : decode M.2.1 pc = .ok (.arraylength, 1)) (ho : kd i = 102) (h : Z (wd c) (pc + 1) lv (.int (nI (ln i)) :: st) k n) : Z (wd c) pc lv (.ref i :: st) k n :=
  g_alen2 F hd (wd_q ho) (ty := .object "PackShelf$Thing") rfl (by rw [c_rg_len]; exact h)
def c_cp (f g : Nat → Int32) (sp dp N : Nat) : Nat → Int32 := fun j => if dp ≤ j ∧ j < dp + N then f (sp + (j - dp)) else g j
theorem c_rg_cpy {f g : Nat → Int32} {A B sp dp N : Nat} (h4 : sp + N ≤ A) (h5 : dp + N ≤ B) : sk_cpy ((List.range A).map f) ((List.range B).map g) sp dp N = (List.range B).map (c_cp f g sp dp N) := by
  apply List.ext_getElem?
  intro j
  unfold sk_cpy c_cp
  by_cases hj : j < B
  · rw [List.getElem?_map, List.getElem?_range hj, Option.map_some]
    by_cases h1 : j < dp
    · rw [if_neg (by omega), List.append_assoc, List.getElem?_append_left (by rw [List.length_take, c_rg_len]; omega), List.getElem?_take_of_lt h1, List.getElem?_map, List.getElem?_range hj]
      rfl
    · by_cases h2 : j < dp + N
      · rw [if_pos ⟨by omega, h2⟩, List.append_assoc, List.getElem?_append_right (by rw [List.length_take, c_rg_len]; omega), List.getElem?_append_left (by simp only [List.length_take, List.length_drop, c_rg_len]; omega), List.length_take, c_rg_len, Nat.min_eq_left (by omega), List.getElem?_take_of_lt (by omega), List.getElem?_drop, List.getElem?_map, List.getElem?_range (by omega)]
        rfl
      · rw [if_neg (by omega), List.getElem?_append_right (by simp only [List.length_append, List.length_take, List.length_drop, c_rg_len]; omega), List.getElem?_drop, List.getElem?_map, List.getElem?_range (by simp only [List.length_append, List.length_take, List.length_drop, c_rg_len]; omega), Option.map_some]
        congr 2
        simp only [List.length_append, List.length_take, List.length_drop, c_rg_len]
        omega
  · rw [List.getElem?_eq_none_iff.mpr (by simp only [List.length_append, List.length_take, List.length_drop, c_rg_len]; omega), List.getElem?_eq_none_iff.mpr (by rw [c_rg_len]; omega)]
theorem gc_copy (F : sk_F M d kc ks Z) {idx i0 i1 : Nat} {sp dp N : Int32} (hd : decode M.2.1 pc = .ok (.invokestatic idx, 3)) (hw : Cond.methodLink M.1.cls idx arraycopyName ∈ sk_ws) (hw2 : Cond.native arraycopyName ∈ sk_ws) (hw3 : Cond.static arraycopyName ∈ sk_ws) (hw4 : Cond.initialized "java/lang/System" ∈ sk_ws)
    (ho0 : kd i0 = 100) (ho1 : kd i1 = 100) (h1 : ¬ sp < 0) (h2 : ¬ dp < 0) (h3 : ¬ N < 0) (h4 : sp.toNatClampNeg + N.toNatClampNeg ≤ ln i0) (h5 : dp.toNatClampNeg + N.toNatClampNeg ≤ ln i1) (hdd : 1 ≤ d) (hcat : (st.map fun v => v.category).sum ≤ 8)
    (h : Z (wd (c_row c i1 (c_cp (c i0) (c i1) sp.toNatClampNeg dp.toNatClampNeg N.toNatClampNeg))) (pc + 3) lv st k n) : Z (wd c) pc lv (.int N :: .int dp :: .ref i1 :: .int sp :: .ref i0 :: st) k n := by
  refine g_copy F hd hw hw2 hw3 hw4 (wd_i ho0) (wd_i ho1) rfl h1 h2 h3 rfl rfl rfl (by rw [c_rg_len]; exact h4) (by rw [c_rg_len]; exact h5) hdd hcat ?_
  rw [c_rg_cpy h4 h5, ← el_i ho1, wd_set (kd_lt (by omega))]
  exact h
theorem g_lv (F : sk_F M d kc ks Z) (js : List Nat) (hl : lv_pick lv js = lv') (h : Z w pc lv' st k n) : Z w pc lv st k n := by
  obtain ⟨p, l, e, R, s, m, args, below, meth, c', E, ad0, n0, Q, rfl, ⟨hx, hb, hml, hown, hts, hK, hO, hA, hn0, had, hnm⟩, hR⟩ := F
  intro ad H locs ls a1 a2 a3 a4 a5 a6 a7 a8 a9
  subst hl
  have hsub : ∀ q ∈ lv_pick lv js, q ∈ lv := by
    intro q hq
    obtain ⟨j, -, hj⟩ := List.mem_filterMap.mp hq
    exact List.mem_of_getElem? hj
  refine h ad H locs ls a1 a2 (fun q hq => a3 q (hsub q hq)) a4 a5 ⟨a6.1, a6.2.1, fun q hq => ?_⟩ a7 a8 a9
  obtain ⟨q', hq', rfl⟩ := List.mem_map.mp hq
  exact a6.2.2 _ (List.mem_map.mpr ⟨q', hsub q' hq', rfl⟩)
theorem gc_ifnullQ (F : sk_F M d kc ks Z) {x : Int32} {off : Int} {tgt : Nat} (hd : decode M.2.1 pc = .ok (.ifnull off, 3)) (ht : (pc : Int) + off = (tgt : Int)) (kt : x = 0 → Z w tgt lv st k n) (kf : ¬ x = 0 → Z w (pc + 3) lv st k n) : Z w pc lv (c_nv x :: st) k n := by
  by_cases h0 : x = 0
  · rw [h0, c_nv_0]; exact g_ifnullN F hd ht (kt h0)
  · rw [c_nv_ne h0]; exact g_ifnull F hd (kf h0)
theorem gc_ifnonnullQ (F : sk_F M d kc ks Z) {x : Int32} {off : Int} {tgt : Nat} (hd : decode M.2.1 pc = .ok (.ifnonnull off, 3)) (ht : (pc : Int) + off = (tgt : Int)) (kt : ¬ x = 0 → Z w tgt lv st k n) (kf : x = 0 → Z w (pc + 3) lv st k n) : Z w pc lv (c_nv x :: st) k n := by
  by_cases h0 : x = 0
  · rw [h0, c_nv_0]; exact g_ifnonnullN F hd (kf h0)
  · rw [c_nv_ne h0]; exact g_ifnonnull F hd ht (kt h0)
section SKD
variable {M' : sk_M} {d' : Nat} {As stk : List Value}
theorem gc_callSV (F : sk_F M d kc ks Z) {K : cM → Prop} {idx : Nat} (hd : decode M.2.1 pc = .ok (.invokestatic idx, 3)) (hB : sk_cB M.1.cls idx M') (hI : Cond.static M'.1 ∈ sk_ws) (hp : sk_nP M' As.length) (hC : Ct M' d' 0 0 (wd c) As (PoV K)) (hstk : stk = As.reverse ++ st) (hdd : d' + 1 ≤ d) (hk : k ≤ kc) (hn : n ≤ ks) (hcat : (st.map fun v => v.category).sum ≤ 8) (h : ∀ c1, K c1 → Z (wd c1) (pc + 3) lv st k n) : Z (wd c) pc lv stk k n :=
  g_callS F hd hB hI hp hC hstk hdd hk hn hcat (fun r w' hp9 _ => PoV.el (P := fun r w' => Z w' (pc + 3) lv (r.toList ++ st) (k + 0) (n + 0)) hp9 (fun c1 h1 => h c1 h1))
theorem gc_callVV (F : sk_F M d kc ks Z) {K : cM → Prop} {idx ci b : Nat} (hd : decode M.2.1 pc = .ok (.invokevirtual idx, 3)) (hB : sk_cB M.1.cls idx M') (hI : Cond.instanceMethod M'.1 ∈ sk_ws ∧ Cond.selects M'.1.cls M'.1 M'.1 ∈ sk_ws) (hp : sk_nP M' As.length) (ho : kd b = ci) (hv : sk_vc ci M'.1.cls) (hC : Ct M' d' 0 0 (wd c) (.ref b :: As) (PoV K)) (hstk : stk = As.reverse ++ .ref b :: st) (hdd : d' + 1 ≤ d) (hk : k ≤ kc) (hn : n ≤ ks) (hcat : (st.map fun v => v.category).sum ≤ 8) (h : ∀ c1, K c1 → Z (wd c1) (pc + 3) lv st k n) : Z (wd c) pc lv stk k n :=
  by
  obtain ⟨h5, T, N, hc⟩ := hv
  exact g_callV F hd hB hI hp (wd_o ho h5) hc hC hstk hdd hk hn hcat (fun r w' hp9 _ => PoV.el (P := fun r w' => Z w' (pc + 3) lv (r.toList ++ st) (k + 0) (n + 0)) hp9 (fun c1 h1 => h c1 h1))
theorem gc_callSI (F : sk_F M d kc ks Z) {K : Int32 → cM → Prop} {idx : Nat} (hd : decode M.2.1 pc = .ok (.invokestatic idx, 3)) (hB : sk_cB M.1.cls idx M') (hI : Cond.static M'.1 ∈ sk_ws) (hp : sk_nP M' As.length) (hC : Ct M' d' 0 0 (wd c) As (PoI K)) (hstk : stk = As.reverse ++ st) (hdd : d' + 1 ≤ d) (hk : k ≤ kc) (hn : n ≤ ks) (hcat : (st.map fun v => v.category).sum ≤ 8) (h : ∀ v c1, K v c1 → Z (wd c1) (pc + 3) lv (.int v :: st) k n) : Z (wd c) pc lv stk k n :=
  g_callS F hd hB hI hp hC hstk hdd hk hn hcat (fun r w' hp9 _ => PoI.el (P := fun r w' => Z w' (pc + 3) lv (r.toList ++ st) (k + 0) (n + 0)) hp9 (fun v c1 h1 => h v c1 h1))
theorem gc_callVI (F : sk_F M d kc ks Z) {K : Int32 → cM → Prop} {idx ci b : Nat} (hd : decode M.2.1 pc = .ok (.invokevirtual idx, 3)) (hB : sk_cB M.1.cls idx M') (hI : Cond.instanceMethod M'.1 ∈ sk_ws ∧ Cond.selects M'.1.cls M'.1 M'.1 ∈ sk_ws) (hp : sk_nP M' As.length) (ho : kd b = ci) (hv : sk_vc ci M'.1.cls) (hC : Ct M' d' 0 0 (wd c) (.ref b :: As) (PoI K)) (hstk : stk = As.reverse ++ .ref b :: st) (hdd : d' + 1 ≤ d) (hk : k ≤ kc) (hn : n ≤ ks) (hcat : (st.map fun v => v.category).sum ≤ 8) (h : ∀ v c1, K v c1 → Z (wd c1) (pc + 3) lv (.int v :: st) k n) : Z (wd c) pc lv stk k n :=
  by
  obtain ⟨h5, T, N, hc⟩ := hv
  exact g_callV F hd hB hI hp (wd_o ho h5) hc hC hstk hdd hk hn hcat (fun r w' hp9 _ => PoI.el (P := fun r w' => Z w' (pc + 3) lv (r.toList ++ st) (k + 0) (n + 0)) hp9 (fun v c1 h1 => h v c1 h1))
theorem gc_callSL (F : sk_F M d kc ks Z) {K : Int64 → cM → Prop} {idx : Nat} (hd : decode M.2.1 pc = .ok (.invokestatic idx, 3)) (hB : sk_cB M.1.cls idx M') (hI : Cond.static M'.1 ∈ sk_ws) (hp : sk_nP M' As.length) (hC : Ct M' d' 0 0 (wd c) As (PoL K)) (hstk : stk = As.reverse ++ st) (hdd : d' + 1 ≤ d) (hk : k ≤ kc) (hn : n ≤ ks) (hcat : (st.map fun v => v.category).sum ≤ 8) (h : ∀ v c1, K v c1 → Z (wd c1) (pc + 3) lv (.long v :: st) k n) : Z (wd c) pc lv stk k n :=
  g_callS F hd hB hI hp hC hstk hdd hk hn hcat (fun r w' hp9 _ => PoL.el (P := fun r w' => Z w' (pc + 3) lv (r.toList ++ st) (k + 0) (n + 0)) hp9 (fun v c1 h1 => h v c1 h1))
theorem gc_callVL (F : sk_F M d kc ks Z) {K : Int64 → cM → Prop} {idx ci b : Nat} (hd : decode M.2.1 pc = .ok (.invokevirtual idx, 3)) (hB : sk_cB M.1.cls idx M') (hI : Cond.instanceMethod M'.1 ∈ sk_ws ∧ Cond.selects M'.1.cls M'.1 M'.1 ∈ sk_ws) (hp : sk_nP M' As.length) (ho : kd b = ci) (hv : sk_vc ci M'.1.cls) (hC : Ct M' d' 0 0 (wd c) (.ref b :: As) (PoL K)) (hstk : stk = As.reverse ++ .ref b :: st) (hdd : d' + 1 ≤ d) (hk : k ≤ kc) (hn : n ≤ ks) (hcat : (st.map fun v => v.category).sum ≤ 8) (h : ∀ v c1, K v c1 → Z (wd c1) (pc + 3) lv (.long v :: st) k n) : Z (wd c) pc lv stk k n :=
  by
  obtain ⟨h5, T, N, hc⟩ := hv
  exact g_callV F hd hB hI hp (wd_o ho h5) hc hC hstk hdd hk hn hcat (fun r w' hp9 _ => PoL.el (P := fun r w' => Z w' (pc + 3) lv (r.toList ++ st) (k + 0) (n + 0)) hp9 (fun v c1 h1 => h v c1 h1))
theorem gc_callSR (F : sk_F M d kc ks Z) {K : Nat → cM → Prop} {idx : Nat} (hd : decode M.2.1 pc = .ok (.invokestatic idx, 3)) (hB : sk_cB M.1.cls idx M') (hI : Cond.static M'.1 ∈ sk_ws) (hp : sk_nP M' As.length) (hC : Ct M' d' 0 0 (wd c) As (PoR K)) (hstk : stk = As.reverse ++ st) (hdd : d' + 1 ≤ d) (hk : k ≤ kc) (hn : n ≤ ks) (hcat : (st.map fun v => v.category).sum ≤ 8) (h : ∀ v c1, K v c1 → Z (wd c1) (pc + 3) lv (.ref v :: st) k n) : Z (wd c) pc lv stk k n :=
  g_callS F hd hB hI hp hC hstk hdd hk hn hcat (fun r w' hp9 _ => PoR.el (P := fun r w' => Z w' (pc + 3) lv (r.toList ++ st) (k + 0) (n + 0)) hp9 (fun v c1 h1 => h v c1 h1))
theorem gc_callVR (F : sk_F M d kc ks Z) {K : Nat → cM → Prop} {idx ci b : Nat} (hd : decode M.2.1 pc = .ok (.invokevirtual idx, 3)) (hB : sk_cB M.1.cls idx M') (hI : Cond.instanceMethod M'.1 ∈ sk_ws ∧ Cond.selects M'.1.cls M'.1 M'.1 ∈ sk_ws) (hp : sk_nP M' As.length) (ho : kd b = ci) (hv : sk_vc ci M'.1.cls) (hC : Ct M' d' 0 0 (wd c) (.ref b :: As) (PoR K)) (hstk : stk = As.reverse ++ .ref b :: st) (hdd : d' + 1 ≤ d) (hk : k ≤ kc) (hn : n ≤ ks) (hcat : (st.map fun v => v.category).sum ≤ 8) (h : ∀ v c1, K v c1 → Z (wd c1) (pc + 3) lv (.ref v :: st) k n) : Z (wd c) pc lv stk k n :=
  by
  obtain ⟨h5, T, N, hc⟩ := hv
  exact g_callV F hd hB hI hp (wd_o ho h5) hc hC hstk hdd hk hn hcat (fun r w' hp9 _ => PoR.el (P := fun r w' => Z w' (pc + 3) lv (r.toList ++ st) (k + 0) (n + 0)) hp9 (fun v c1 h1 => h v c1 h1))
end SKD
end SKC

theorem adO {E : sk_E} {ad ad0 : Nat → Nat} {n0 i : Nat} (a5 : ∀ i, i < n0 → ad i = ad0 i) (hn0 : sk_k ≤ n0) (had : ∀ i, i < sk_k → ad0 i = eO E i) (h : i < sk_k) : ad i = eO E i := (a5 i (Nat.lt_of_lt_of_le h hn0)).trans (had i h)
theorem k202 {i : Nat} (h : kd i = 202) : i = 1 ∨ i = 2 := by
  have h1 : ∀ i, i < c_N → kd i = 202 → i = 1 ∨ i = 2 := by decide +kernel
  exact h1 i (kd_lt (by omega)) h
theorem k200 {i : Nat} (h : kd i = 200) : 3 ≤ i ∧ i < 3 + oN ∧ rf i 0 = i + oN := by
  have h1 : ∀ i, i < c_N → kd i = 200 → 3 ≤ i ∧ i < 3 + oN ∧ rf i 0 = i + oN := by decide +kernel
  exact h1 i (kd_lt (by omega)) h
theorem k201 {i : Nat} (h : kd i = 201) : 3 + oN ≤ i ∧ i < 3 + oN + oN ∧ ln i = (oB.map List.length).getD (i - (3 + oN)) 0 := by
  have h1 : ∀ i, i < c_N → kd i = 201 → 3 + oN ≤ i ∧ i < 3 + oN + oN ∧ ln i = (oB.map List.length).getD (i - (3 + oN)) 0 := by decide +kernel
  exact h1 i (kd_lt (by omega)) h
theorem k_ln : ln 1 = 5 ∧ ln 2 = 4 := by decide +kernel
theorem k_sk : sk_k = 3 + oN + oN + 1 := by decide +kernel
section SKT
variable {p : Program} {l : Launch} {e : Env} {R : Room} {s : State} {m : MethodId} {args : Array Value} {below : List Frame} {meth : Method} {c : Code} {H : Heap} {locs : List Loc} {cells slots : Nat} {Q : State → Prop} {pc : Nat} {ls : Array Slot} {rest : List Value} {D : va_G} {cl : List vw_C} {A : Nat → Prop} {a : Nat} {tys : List (ClassId × FieldType)} {ws : va_W} {cc : ByteArray}
theorem sk_nn {z : Int32} (hz : ¬ z < 0) : z.toInt = (z.toNatClampNeg : Int) := by
  have h1 : (0 : Int) ≤ z.toInt := by
    have h2 := Int32.le_iff_toInt_le.mp (Int32.not_lt.mp hz)
    simpa using h2
  exact (Int.toNat_of_nonneg h1).symm
theorem sk_copyT (hexec : p.tables.exec = Jvm.exec) (hb : c.code = cc) (hml : c.maxLocals = ls.size) {own : String} {index : Nat} (hown : s.vm.findClass own = some m.cls) (hlink : (Cond.methodLink own index arraycopyName).before args s = true) (hnat : (Cond.native arraycopyName).before args s = true) (hstat : (Cond.static arraycopyName).before args s = true) (hini : (Cond.initialized "java/lang/System").before args s = true)
    (hK : va_K D cl tys s) (hP : va_P D cl ws H) (hD : va_D A ws) (hS : va_S A s.heap H locs) {b0 n0 : Nat} {f : Nat → Int32} (hX : va_T .int b0 n0 (fun j => .int (f j)) A s s.heap) (q1 t1 : Nat) {c1 : ClassId} {n1 : Nat} {g : Nat → Int32} (ha1 : ws[q1]? = some (a, .inl (c1, n1, .inl g))) (ht1 : tys[t1]? = some (c1, .int))
    {sp dp n : Int32} (h1 : ¬ sp < 0) (h2 : ¬ dp < 0) (h3 : ¬ n < 0) (h4 : sp.toNatClampNeg + n.toNatClampNeg ≤ n0) (h5 : dp.toNatClampNeg + n.toNatClampNeg ≤ n1)
    (hframes : 1 ≤ R.frames) (hlocals : (rest.map fun v => v.category).sum + (nativeFrameWords "java/lang/System" "arraycopy" 5 + 11) ≤ R.locals) (hdg : decode cc pc = .ok (.invokestatic index, 3))
    (kk : ∀ (H1 : Heap) (locs1 : List Loc), va_P D cl (ws.set q1 (a, .inl (c1, n1, .inl (va_cpy f g sp.toNatClampNeg dp.toNatClampNeg n.toNatClampNeg)))) H1 → va_D A (ws.set q1 (a, .inl (c1, n1, .inl (va_cpy f g sp.toNatClampNeg dp.toNatClampNeg n.toNatClampNeg)))) → va_S A s.heap H1 locs1 → W p l e R s m args below meth c H1 locs1 cells slots Q (F0 m (pc + 3) ls rest)) : W p l e R s m args below meth c H locs cells slots Q (F0 m pc ls (.int n :: .int dp :: .ref a :: .int sp :: .ref b0 :: rest)) := by
  intro T hT X
  obtain ⟨z0, z1, ⟨z2, k0, z3, m0, z4⟩, z5, z6, -, z7, z8⟩ := hX
  have y0 : H[b0]? = some z0 := (hS.2.1 b0 (Array.getElem?_eq_some_iff.mp z1).1 z8).trans z1
  have y1 : H[a]? = some (vp_cell c1 (n1, .inl g)) := hP q1 _ ha1
  obtain ⟨-, k1, y2, m1, y3⟩ := (hK.2 t1 _ ht1).1 n1 (fun j => .int (g j))
  have y4 : ∀ i, i < n.toNatClampNeg → z0.slots.getD (sp.toNatClampNeg + i) .null = .int (f (sp.toNatClampNeg + i)) := fun i hi => by
    rw [Array.getD_eq_getD_getElem?, z7 _ (by omega)]; rfl
  obtain ⟨vm', X', step⟩ := X.arraycopy hexec hown hlink hnat hstat hini (src := b0) (dst := a) (cs := z0) (cd := vp_cell c1 (n1, .inl g)) (srcPos := sp) (destPos := dp) (n := n) (by rw [hT]; exact y0) (by rw [hT]; exact y1)
    z2 (fun _ h => by cases h) z5 (fun h => by cases h) z3 y2 z4 y3 (by simp [refKind]) h1 h2 h3 (by rw [sk_nn h1, sk_nn h3]; omega) (by rw [sk_nn h2, sk_nn h3]; show ¬ _ > ((arrV c1 n1 (fun j => .int (g j))).slots.size : Int); rw [arrV_size]; omega)
    (fun _ _ i hi => by rw [y4 i hi]; exact ⟨rfl, trivial⟩) (g := F0 m pc ls (.int n :: .int dp :: .ref a :: .int sp :: .ref b0 :: rest)) rfl (by rw [hml]) (rest := rest) rfl (by rw [hb]; exact hdg) hframes (by show 2 * 0 + _ + _ ≤ _; omega)
  have y5 : copied z0 (vp_cell c1 (n1, .inl g)) sp dp n = vp_cell c1 (n1, .inl (va_cpy f g sp.toNatClampNeg dp.toNatClampNeg n.toNatClampNeg)) := va_copiedX (fun z => .int z) z0 c1 f g z7 h4
  rw [y5] at X' step
  have y6 : a < H.size := (Array.getElem?_eq_some_iff.mp y1).1
  have y7 : ∀ q : Nat, q ≠ a → (H.setIfInBounds a (vp_cell c1 (n1, .inl (va_cpy f g sp.toNatClampNeg dp.toNatClampNeg n.toNatClampNeg))))[q]? = H[q]? := fun q hq => by simp [Array.getElem?_setIfInBounds, Ne.symm hq]
  obtain ⟨t, b1, b2⟩ := kk _ _ (hP.set hD ha1 (show (H.setIfInBounds a _)[a]? = some _ by simp [Array.getElem?_setIfInBounds, y6]) y7) (hD.set ha1) ⟨by simp; exact hS.1, fun q g1 g2 => (y7 q (fun e9 => g2 (by rw [e9]; exact hD.2 q1 _ ha1))).trans (hS.2.1 q g1 g2), fun q hq => by
    rcases List.mem_append.mp hq with h9 | h9
    · exact hS.2.2 q h9
    · obtain ⟨z, -, hz⟩ := List.mem_map.mp h9
      rw [← hz]
      exact hD.2 q1 _ ha1⟩ _ (show ((T.setVm vm').setCell a (vp_cell c1 (n1, .inl (va_cpy f g sp.toNatClampNeg dp.toNatClampNeg n.toNatClampNeg)))).heap = H.setIfInBounds a _ by rw [← hT]; rfl) X'
  exact ⟨t, step t b1, b2⟩
end SKT
section SKO
variable {M M' : sk_M} {d d' kc ks : Nat} {Z : sk_P} {c : cM} {w : sk_H} {pc : Nat} {lv : List (Nat × Value)} {st As stk : List Value} {k n : Nat}
def sk_ss (own : String) (idx i : Nat) : Prop := (i = 1 ∧ Cond.fieldLink own idx "PackShelf$Sum" "FIRST" "[I" ∈ sk_ws) ∨ (i = 2 ∧ Cond.fieldLink own idx "PackShelf$Sum" "ADDED" "[I" ∈ sk_ws)
theorem go_st (F : sk_F M d kc ks Z) {idx i : Nat} (hd : decode M.2.1 pc = .ok (.getstatic idx, 3)) (hs : sk_ss M.1.cls idx i) (h : Z w (pc + 3) lv (.ref i :: st) k n) : Z w pc lv st k n := by
  obtain ⟨p, l, e, R, s, m, args, below, meth, c', E, ad0, n0, Q, rfl, ⟨hx, hb, hml, hown, hts, hK, hO, hA, hn0, had, hnm⟩, hR⟩ := F
  intro ad H locs ls a1 a2 a3 a4 a5 a6 a7 a8 a9
  have hk := k_sk
  have hl := sk_oW_len a2
  have hi : i < sk_k := by rcases hs with h1 | h1 <;> omega
  have h2 := h ad H locs ls a1 a2 a3 (sk_cons (sk_oV_ref (by omega)) a4) a5 a6 a7 a8 a9
  have e1 : (Value.ref i :: st).map (sk_v ad) = .ref (eO E i) :: st.map (sk_v ad) := by
    show Value.ref (ad i) :: _ = _
    rw [adO a5 hn0 had hi]
  rw [e1] at h2
  rcases hs with ⟨rfl, h1⟩ | ⟨rfl, h1⟩
  · exact va_gets hx hb hO.2.1.2 a9 hown (hts _ h1) (fun _ h9 => h9) hd h2
  · exact va_gets hx hb hO.2.2.1.2 a9 hown (hts _ h1) (fun _ h9 => h9) hd h2
theorem go_stI (F : sk_F M d kc ks Z) {idx : Nat} (hd : decode M.2.1 pc = .ok (.getstatic idx, 3)) (hs : Cond.fieldLink M.1.cls idx "java/lang/String" "COMPACT_STRINGS" "Z" ∈ sk_ws) (h : Z w (pc + 3) lv (.int 1 :: st) k n) : Z w pc lv st k n := by
  obtain ⟨p, l, e, R, s, m, args, below, meth, c', E, ad0, n0, Q, rfl, ⟨hx, hb, hml, hown, hts, hK, hO, hA, hn0, had, hnm⟩, hR⟩ := F
  intro ad H locs ls a1 a2 a3 a4 a5 a6 a7 a8 a9
  exact va_gets hx hb hO.2.2.2.2.2.1 a9 hown (hts _ hs) (fun _ h9 => h9) hd (h ad H locs ls a1 a2 a3 (sk_cons sk_oV_int a4) a5 a6 a7 a8 a9)
theorem go_stF (F : sk_F M d kc ks Z) {idx : Nat} (hd : decode M.2.1 pc = .ok (.getstatic idx, 3)) (hs : Cond.fieldLink M.1.cls idx "jdk/internal/util/Preconditions" "SIOOBE_FORMATTER" "Ljava/util/function/BiFunction;" ∈ sk_ws) (h : ∀ v : Value, (v = .null ∨ v = .ref (3 + oN + oN)) → Z w (pc + 3) lv (v :: st) k n) : Z w pc lv st k n := by
  obtain ⟨p, l, e, R, s, m, args, below, meth, c', E, ad0, n0, Q, rfl, ⟨hx, hb, hml, hown, hts, hK, hO, hA, hn0, had, hnm⟩, hR⟩ := F
  intro ad H locs ls a1 a2 a3 a4 a5 a6 a7 a8 a9
  have hk := k_sk
  have hl := sk_oW_len a2
  rcases hO.2.2.2.2.2.2.2 with g | g
  · exact va_gets hx hb g a9 hown (hts _ hs) (fun _ h9 => h9) hd (h .null (Or.inl rfl) ad H locs ls a1 a2 a3 (sk_cons sk_oV_null a4) a5 a6 a7 a8 a9)
  · have h2 := h (.ref (3 + oN + oN)) (Or.inr rfl) ad H locs ls a1 a2 a3 (sk_cons (sk_oV_ref (by omega)) a4) a5 a6 a7 a8 a9
    have e1 : (Value.ref (3 + oN + oN) :: st).map (sk_v ad) = .ref (eO E (3 + oN + oN)) :: st.map (sk_v ad) := by
      show Value.ref (ad (3 + oN + oN)) :: _ = _
      rw [adO a5 hn0 had (by omega)]
    rw [e1] at h2
    exact va_gets hx hb g a9 hown (hts _ hs) (fun _ h9 => h9) hd h2
theorem go_iald (F : sk_F M d kc ks Z) {i : Nat} {x : Int32} (hd : decode M.2.1 pc = .ok (.iaload, 1)) (ho : kd i = 202) (hin : vp_in x (ln i)) (h : Z w (pc + 1) lv (.int (oc i x.toNatClampNeg) :: st) k n) : Z w pc lv (.int x :: .ref i :: st) k n := by
  obtain ⟨p, l, e, R, s, m, args, below, meth, c', E, ad0, n0, Q, rfl, ⟨hx, hb, hml, hown, hts, hK, hO, hA, hn0, had, hnm⟩, hR⟩ := F
  intro ad H locs ls a1 a2 a3 a4 a5 a6 a7 a8 a9
  have hk := k_sk
  have h2 := h ad H locs ls a1 a2 a3 (sk_cons sk_oV_int (sk_tail (sk_tail a4))) a5 a6 a7 a8 a9
  have hi : i < sk_k := by rcases k202 ho with h1 | h1 <;> omega
  have e1 : (Value.int x :: .ref i :: st).map (sk_v ad) = .int x :: .ref (eO E i) :: st.map (sk_v ad) := by
    show Value.int x :: Value.ref (ad i) :: _ = _
    rw [adO a5 hn0 had hi]
  rw [e1]
  rcases k202 ho with rfl | rfl
  · exact va_ti hx hb hO.2.1.1 a9 (by rw [k_ln.1] at hin; exact hin) rfl hd h2
  · exact va_ti hx hb hO.2.2.1.1 a9 (by rw [k_ln.2] at hin; exact hin) rfl hd h2
theorem go_bald (F : sk_F M d kc ks Z) {i : Nat} {x : Int32} (hd : decode M.2.1 pc = .ok (.baload, 1)) (ho : kd i = 201) (hin : vp_in x (ln i)) (h : Z w (pc + 1) lv (.int (oc i x.toNatClampNeg) :: st) k n) : Z w pc lv (.int x :: .ref i :: st) k n := by
  obtain ⟨p, l, e, R, s, m, args, below, meth, c', E, ad0, n0, Q, rfl, ⟨hx, hb, hml, hown, hts, hK, hO, hA, hn0, had, hnm⟩, hR⟩ := F
  intro ad H locs ls a1 a2 a3 a4 a5 a6 a7 a8 a9
  have hk := k_sk
  obtain ⟨k1, k2, k3⟩ := k201 ho
  have h2 := h ad H locs ls a1 a2 a3 (sk_cons sk_oV_int (sk_tail (sk_tail a4))) a5 a6 a7 a8 a9
  have e1 : (Value.int x :: .ref i :: st).map (sk_v ad) = .int x :: .ref (eO E (3 + oN + (i - (3 + oN)))) :: st.map (sk_v ad) := by
    show Value.int x :: Value.ref (ad i) :: _ = _
    rw [adO a5 hn0 had (by omega), Nat.add_sub_cancel' k1]
  rw [e1]
  refine va_tb hx hb (hO.2.2.2.1.1 (i - (3 + oN)) (by omega)).2.2.2 a9 (by rw [← k3]; exact hin) ?_ hd h2
  show _ = Value.int (oc i x.toNatClampNeg)
  unfold oc
  rw [if_neg (by omega), if_neg (by omega)]
theorem go_alen (F : sk_F M d kc ks Z) {i : Nat} (hd : decode M.2.1 pc = .ok (.arraylength, 1)) (ho : kd i = 201) (h : Z w (pc + 1) lv (.int (nI (ln i)) :: st) k n) : Z w pc lv (.ref i :: st) k n := by
  obtain ⟨p, l, e, R, s, m, args, below, meth, c', E, ad0, n0, Q, rfl, ⟨hx, hb, hml, hown, hts, hK, hO, hA, hn0, had, hnm⟩, hR⟩ := F
  intro ad H locs ls a1 a2 a3 a4 a5 a6 a7 a8 a9
  have hk := k_sk
  obtain ⟨k1, k2, k3⟩ := k201 ho
  have h2 := h ad H locs ls a1 a2 a3 (sk_cons sk_oV_int (sk_tail a4)) a5 a6 a7 a8 a9
  have e1 : (Value.ref i :: st).map (sk_v ad) = .ref (eO E (3 + oN + (i - (3 + oN)))) :: st.map (sk_v ad) := by
    show Value.ref (ad i) :: _ = _
    rw [adO a5 hn0 had (by omega), Nat.add_sub_cancel' k1]
  rw [e1]
  exact va_tlen hx hb (hO.2.2.2.1.1 (i - (3 + oN)) (by omega)).2.2.2 a9 (by rw [← k3]; rfl) hd h2
theorem go_copy (F : sk_F M d kc ks Z) {idx i0 i1 : Nat} {sp dp N : Int32} (hd : decode M.2.1 pc = .ok (.invokestatic idx, 3)) (hw : Cond.methodLink M.1.cls idx arraycopyName ∈ sk_ws) (hw2 : Cond.native arraycopyName ∈ sk_ws) (hw3 : Cond.static arraycopyName ∈ sk_ws) (hw4 : Cond.initialized "java/lang/System" ∈ sk_ws)
    (ho0 : kd i0 = 202) (ho1 : kd i1 = 100) (h1 : ¬ sp < 0) (h2 : ¬ dp < 0) (h3 : ¬ N < 0) (h4 : sp.toNatClampNeg + N.toNatClampNeg ≤ ln i0) (h5 : dp.toNatClampNeg + N.toNatClampNeg ≤ ln i1) (hdd : 1 ≤ d) (hcat : (st.map fun v => v.category).sum ≤ 8)
    (h : Z (wd (c_row c i1 (c_cp (oc i0) (c i1) sp.toNatClampNeg dp.toNatClampNeg N.toNatClampNeg))) (pc + 3) lv st k n) : Z (wd c) pc lv (.int N :: .int dp :: .ref i1 :: .int sp :: .ref i0 :: st) k n := by
  have hk := k_sk
  have hi : i0 < sk_k := by rcases k202 ho0 with h1 | h1 <;> omega
  have hw' : (wd c).set i1 (.inl (0, (List.range (ln i1)).map (c_cp (oc i0) (c i1) sp.toNatClampNeg dp.toNatClampNeg N.toNatClampNeg))) = wd (c_row c i1 (c_cp (oc i0) (c i1) sp.toNatClampNeg dp.toNatClampNeg N.toNatClampNeg)) := by
    rw [← el_i ho1, wd_set (kd_lt (by omega))]
  rw [← hw'] at h
  obtain ⟨p, l, e, R, s, m, args, below, meth, c', E, ad0, n0, Q, rfl, ⟨hx, hb, hml, hown, hts, hK, hO, hA, hn0, had, hnm⟩, hR⟩ := F
  intro ad H locs ls a1 a2 a3 a4 a5 a6 a7 a8 a9
  have he1 := wd_i (c := c) ho1
  have hg := sk_ge a2 he1 sk_nd1
  have hat := sk_w_at (tc := eT E) (ad := ad) he1 hg
  have hcp : va_cpy (fun j => oc i0 j) (fun j => ((List.range (ln i1)).map (c i1)).getD j 0) sp.toNatClampNeg dp.toNatClampNeg N.toNatClampNeg = fun j => ((List.range (ln i1)).map (c_cp (oc i0) (c i1) sp.toNatClampNeg dp.toNatClampNeg N.toNatClampNeg)).getD j 0 := by
    funext j
    unfold va_cpy c_cp
    by_cases hj : j < ln i1
    · rw [c_rg_at hj]
      by_cases h9 : dp.toNatClampNeg ≤ j ∧ j < dp.toNatClampNeg + N.toNatClampNeg
      · rw [if_pos h9, if_pos h9]
      · rw [if_neg h9, if_neg h9]
        exact c_rg_at hj
    · rw [if_neg (by omega)]
      show ((List.range (ln i1)).map (c i1)).getD j 0 = _
      rw [List.getD_eq_getElem?_getD, List.getD_eq_getElem?_getD, List.getElem?_eq_none_iff.mpr (by rw [c_rg_len]; omega), List.getElem?_eq_none_iff.mpr (by rw [c_rg_len]; omega)]
  have hset : sk_w (eT E) ad ((wd c).set i1 (.inl (0, (List.range (ln i1)).map (c_cp (oc i0) (c i1) sp.toNatClampNeg dp.toNatClampNeg N.toNatClampNeg)))) = (sk_w (eT E) ad (wd c)).set (i1 - sk_k) (ad i1, .inl (eT E 0, ((List.range (ln i1)).map (c i1)).length, .inl (va_cpy (fun j => oc i0 j) (fun j => ((List.range (ln i1)).map (c i1)).getD j 0) sp.toNatClampNeg dp.toNatClampNeg N.toNatClampNeg))) := by
    rw [sk_w_set hg, hcp]
    show (sk_w (eT E) ad (wd c)).set (i1 - sk_k) (ad i1, .inl (eT E 0, ((List.range (ln i1)).map _).length, .inl _)) = _
    rw [c_rg_len, c_rg_len]
  have hk2 : ∀ (H1 : Heap) (locs1 : List Loc), va_P (eD E) vwCl ((sk_w (eT E) ad (wd c)).set (i1 - sk_k) (ad i1, .inl (eT E 0, ((List.range (ln i1)).map (c i1)).length, .inl (va_cpy (fun j => oc i0 j) (fun j => ((List.range (ln i1)).map (c i1)).getD j 0) sp.toNatClampNeg dp.toNatClampNeg N.toNatClampNeg)))) H1 → va_D (eA E) ((sk_w (eT E) ad (wd c)).set (i1 - sk_k) (ad i1, .inl (eT E 0, ((List.range (ln i1)).map (c i1)).length, .inl (va_cpy (fun j => oc i0 j) (fun j => ((List.range (ln i1)).map (c i1)).getD j 0) sp.toNatClampNeg dp.toNatClampNeg N.toNatClampNeg)))) → va_S (eA E) s.heap H1 locs1 → W p l e R s m args below meth c' H1 locs1 k n Q (F0 m (pc + 3) ls (st.map (sk_v ad))) := by
    intro H1 locs1 b1 b2 b3
    rw [← hset] at b1 b2
    exact h ad H1 locs1 ls (by rw [List.length_set]; exact a1) (sk_oW_set a2 hg trivial) (by rw [List.length_set]; exact a3) (by rw [List.length_set]; exact sk_tail (sk_tail (sk_tail (sk_tail (sk_tail a4))))) a5 a6 b1 b2 b3
  have e1 : (Value.int N :: .int dp :: .ref i1 :: .int sp :: .ref i0 :: st).map (sk_v ad) = .int N :: .int dp :: .ref (ad i1) :: .int sp :: .ref (eO E i0) :: st.map (sk_v ad) := by
    show Value.int N :: .int dp :: .ref (ad i1) :: .int sp :: .ref (ad i0) :: _ = _
    rw [adO a5 hn0 had hi]
  rw [e1]
  have h5' : dp.toNatClampNeg + N.toNatClampNeg ≤ ((List.range (ln i1)).map (c i1)).length := by rw [c_rg_len]; exact h5
  rcases k202 ho0 with rfl | rfl
  · exact sk_copyT hx hb (hml.trans a6.1.symm) hown (hts _ hw) (hts _ hw2) (hts _ hw3) (hts _ hw4) hK a7 a8 a9 hO.2.1.1 (i1 - sk_k) 0 hat (sk_ty rfl) h1 h2 h3 (by rw [k_ln.1] at h4; exact h4) h5' (Nat.le_trans hdd hR.1) (sk_natw hcat hR hdd) hd hk2
  · exact sk_copyT hx hb (hml.trans a6.1.symm) hown (hts _ hw) (hts _ hw2) (hts _ hw3) (hts _ hw4) hK a7 a8 a9 hO.2.2.1.1 (i1 - sk_k) 0 hat (sk_ty rfl) h1 h2 h3 (by rw [k_ln.2] at h4; exact h4) h5' (Nat.le_trans hdd hR.1) (sk_natw hcat hR hdd) hd hk2
def sk_sv (own : String) (idx : Nat) : Prop := Cond.fieldLink own idx "java/lang/String" "value" "[B" ∈ sk_ws
def sk_sc (own : String) (idx : Nat) : Prop := Cond.fieldLink own idx "java/lang/String" "coder" "B" ∈ sk_ws
theorem go_strV (F : sk_F M d kc ks Z) {idx i : Nat} (hd : decode M.2.1 pc = .ok (.getfield idx, 3)) (hs : sk_sv M.1.cls idx) (ho : kd i = 200) (h : Z w (pc + 3) lv (.ref (rf i 0) :: st) k n) : Z w pc lv (.ref i :: st) k n := by
  obtain ⟨p, l, e, R, s, m, args, below, meth, c', E, ad0, n0, Q, rfl, ⟨hx, hb, hml, hown, hts, hK, hO, hA, hn0, had, hnm⟩, hR⟩ := F
  intro ad H locs ls a1 a2 a3 a4 a5 a6 a7 a8 a9
  have hk := k_sk
  have hl := sk_oW_len a2
  obtain ⟨k1, k2, k3⟩ := k200 ho
  rw [k3] at h
  have h2 := h ad H locs ls a1 a2 a3 (sk_cons (sk_oV_ref (by omega)) (sk_tail a4)) a5 a6 a7 a8 a9
  have e1 : (Value.ref i :: st).map (sk_v ad) = .ref (eO E (3 + (i - 3))) :: st.map (sk_v ad) := by
    show Value.ref (ad i) :: _ = _
    rw [adO a5 hn0 had (by omega), Nat.add_sub_cancel' k1]
  have e2 : (Value.ref (i + oN) :: st).map (sk_v ad) = .ref (eO E (3 + oN + (i - 3))) :: st.map (sk_v ad) := by
    show Value.ref (ad (i + oN)) :: _ = _
    rw [adO a5 hn0 had (by omega), show 3 + oN + (i - 3) = i + oN by omega]
  rw [e1]
  rw [e2] at h2
  exact vk_getf hx hb (hO.2.2.2.1.1 (i - 3) (by omega)).2.2.1 a9 hown (hts _ hs) (fun _ h9 => h9) hd h2
theorem go_strC (F : sk_F M d kc ks Z) {idx i : Nat} (hd : decode M.2.1 pc = .ok (.getfield idx, 3)) (hs : sk_sc M.1.cls idx) (ho : kd i = 200) (h : Z w (pc + 3) lv (.int 0 :: st) k n) : Z w pc lv (.ref i :: st) k n := by
  obtain ⟨p, l, e, R, s, m, args, below, meth, c', E, ad0, n0, Q, rfl, ⟨hx, hb, hml, hown, hts, hK, hO, hA, hn0, had, hnm⟩, hR⟩ := F
  intro ad H locs ls a1 a2 a3 a4 a5 a6 a7 a8 a9
  have hk := k_sk
  obtain ⟨k1, k2, k3⟩ := k200 ho
  have h2 := h ad H locs ls a1 a2 a3 (sk_cons sk_oV_int (sk_tail a4)) a5 a6 a7 a8 a9
  have e1 : (Value.ref i :: st).map (sk_v ad) = .ref (eO E (3 + (i - 3))) :: st.map (sk_v ad) := by
    show Value.ref (ad i) :: _ = _
    rw [adO a5 hn0 had (by omega), Nat.add_sub_cancel' k1]
  rw [e1]
  exact vk_getf hx hb (hO.2.2.2.1.1 (i - 3) (by omega)).2.1 a9 hown (hts _ hs) (fun _ h9 => h9) hd h2
def sk_sr (own : String) (idx i : Nat) : Prop := ∃ (tx : String) (j : Nat), (own, idx, tx, j) ∈ oR ∧ i = 3 + j ∧ j < oN
theorem go_ldc (F : sk_F M d kc ks Z) {idx i : Nat} (hd : decode M.2.1 pc = .ok (.ldc idx, 2)) (hs : sk_sr M.1.cls idx i) (h : Z w (pc + 2) lv (.ref i :: st) k n) : Z w pc lv st k n := by
  obtain ⟨p, l, e, R, s, m, args, below, meth, c', E, ad0, n0, Q, rfl, ⟨hx, hb, hml, hown, hts, hK, hO, hA, hn0, had, hnm⟩, hR⟩ := F
  intro ad H locs ls a1 a2 a3 a4 a5 a6 a7 a8 a9
  have hk := k_sk
  have hl := sk_oW_len a2
  obtain ⟨tx, j, h1, rfl, h3⟩ := hs
  have h2 := h ad H locs ls a1 a2 a3 (sk_cons (sk_oV_ref (by omega)) a4) a5 a6 a7 a8 a9
  have e1 : (Value.ref (3 + j) :: st).map (sk_v ad) = .ref (eO E (3 + j)) :: st.map (sk_v ad) := by
    show Value.ref (ad (3 + j)) :: _ = _
    rw [adO a5 hn0 had (by omega)]
  rw [e1] at h2
  exact va_ldcS hx hb hown (hO.2.2.2.2.1 _ h1) hd h2
theorem go_callV (F : sk_F M d kc ks Z) {Po' : Option Value → sk_H → Prop} {idx b kc' ks' : Nat} (hd : decode M.2.1 pc = .ok (.invokevirtual idx, 3)) (hB : sk_cB M.1.cls idx M') (hI : Cond.instanceMethod M'.1 ∈ sk_ws ∧ Cond.selects M'.1.cls M'.1 M'.1 ∈ sk_ws) (hp : sk_nP M' As.length) (ho : kd b = 200) (hS' : M'.1.cls = "java/lang/String")
    (hC : Ct M' d' kc' ks' w (.ref b :: As) Po') (hstk : stk = As.reverse ++ .ref b :: st) (hdd : d' + 1 ≤ d) (hk : k + kc' ≤ kc) (hn : n + ks' ≤ ks) (hcat : (st.map fun v => v.category).sum ≤ 8)
    (h : ∀ r w', Po' r w' → w.length ≤ w'.length → Z w' (pc + 3) lv (r.toList ++ st) (k + kc') (n + ks')) : Z w pc lv stk k n := by
  obtain ⟨p, l, e, R, s, m, args, below, meth, c', E, ad0, n0, Q, rfl, ⟨hx, hb, hml, hown, hts, hK, hO, hA, hn0, had, hnm⟩, hR⟩ := F
  intro ad H locs ls a1 a2 a3 a4 a5 a6 a7 a8 a9
  obtain ⟨o1, o2⟩ := sk_mapok (st := .ref b :: st) hstk a4
  have hk' := k_sk
  obtain ⟨k1, k2, k3⟩ := k200 ho
  have hrecv : ∃ cell : Cell, H[ad b]? = some cell ∧ cell.vm.isStatics = false ∧ s.vm.findClass M'.1.cls = some cell.cls := by
    have h9 := vk_recv (i := b - 3) hO.2.2.2.1 (by omega) a9
    rw [show 3 + (b - 3) = b by omega, ← adO a5 hn0 had (by omega)] at h9
    rw [hS']
    exact h9
  have hrun := va_runV (e := e) (below := below) (meth := meth) (Ts := sk_ws) (As := As.map (sk_v ad)) (rest := st.map (sk_v ad)) (b := ad b) (g := F0 m pc ls (stk.map (sk_v ad))) (H := H) (locs := locs) (cells := k) (slots := n) ⟨hx, hb, hml, hown, hts⟩ (hC l E ad a2 (sk_cons (sk_hd o2) o1) (fun i hi => (a5 i (Nat.lt_of_lt_of_le hi hn0)).trans (had i hi)))
    ⟨sk_callB (kc := kc) (ks := ks) hB hp hts hR hdd, hts _ hI.1, hts _ hI.2⟩ ⟨sk_blind, hrecv, sk_at hK hO hA a7 a8 a9⟩ rfl (List.length_map _) a6.1 (by rw [hstk, List.map_append, List.map_reverse]; rfl) (lv_room (by rw [sk_cats]; exact hcat)) hd ⟨Nat.le_trans hk hR.2.1, Nat.le_trans hn hR.2.2.1⟩
  refine sk_after hrun a9 (fun r w' ad' H1 locs1 c1 c2 c3 c4 c5 c6 c7 c8 => ?_)
  have e2 : st.map (sk_v ad) = st.map (sk_v ad') := List.map_congr_left (fun v hv => (sk_v_agree c5 (sk_tail o2 v hv)).symm)
  have e3 : sk_l ad lv = sk_l ad' lv := List.map_congr_left (fun v hv => by rw [sk_v_agree c5 (a3 v hv)])
  rw [e2, ← sk_pushm]
  exact h r w' c1 c2 ad' H1 locs1 ls (Nat.le_trans a1 c2) c3 (fun q hq => sk_oV_mono (a3 q hq) c2) (sk_push c4 (fun v hv => sk_oV_mono (sk_tail o2 v hv) c2)) (fun i hi => (c5 i (Nat.lt_of_lt_of_le hi a1)).trans (a5 i hi)) (by rw [← e3]; exact a6) c6 c7 c8
theorem go_callVI (F : sk_F M d kc ks Z) {K : Int32 → cM → Prop} {idx b : Nat} (hd : decode M.2.1 pc = .ok (.invokevirtual idx, 3)) (hB : sk_cB M.1.cls idx M') (hI : Cond.instanceMethod M'.1 ∈ sk_ws ∧ Cond.selects M'.1.cls M'.1 M'.1 ∈ sk_ws) (hp : sk_nP M' As.length) (ho : kd b = 200) (hS' : M'.1.cls = "java/lang/String") (hC : Ct M' d' 0 0 (wd c) (.ref b :: As) (PoI K)) (hstk : stk = As.reverse ++ .ref b :: st) (hdd : d' + 1 ≤ d) (hk : k ≤ kc) (hn : n ≤ ks) (hcat : (st.map fun v => v.category).sum ≤ 8)
    (h : ∀ v c1, K v c1 → Z (wd c1) (pc + 3) lv (.int v :: st) k n) : Z (wd c) pc lv stk k n :=
  go_callV F hd hB hI hp ho hS' hC hstk hdd hk hn hcat (fun r w' hp9 _ => PoI.el (P := fun r w' => Z w' (pc + 3) lv (r.toList ++ st) (k + 0) (n + 0)) hp9 (fun v c1 h1 => h v c1 h1))
end SKO
