
abbrev sk_C : Type := (Nat × List Int32) ⊕ (Nat × List (Option Nat)) ⊕ (Nat × List Value)
abbrev sk_H : Type := List sk_C
abbrev sk_P : Type := sk_H → Nat → List (Nat × Value) → List Value → Nat → Nat → Prop
abbrev sk_M : Type := MethodName × ByteArray × Nat × Option FieldType
def sk_dum : sk_C := .inr (.inr (999, []))
def sk_v (ad : Nat → Nat) (v : Value) : Value := match v with
  | .ref i => .ref (ad i)
  | .int x => .int x
  | .long x => .long x
  | .float x => .float x
  | .double x => .double x
  | .null => .null
  | .retAddr x => .retAddr x
def sk_c (tc : Nat → ClassId) (ad : Nat → Nat) (c : sk_C) : va_E := match c with
  | .inl a => .inl (tc a.1, (a.2.length, .inl (fun j => a.2.getD j 0)))
  | .inr (.inl a) => .inl (tc a.1, (a.2.length, .inr (.inr (.inr (.inr (fun j => (a.2.getD j none).map ad))))))
  | .inr (.inr o) => .inr (o.1, o.2.map (sk_v ad))
def sk_w (tc : Nat → ClassId) (ad : Nat → Nat) (w : sk_H) : va_W := (w.drop sk_k).mapIdx (fun i c => (ad (i + sk_k), sk_c tc ad c))
def sk_l (ad : Nat → Nat) (lv : List (Nat × Value)) : List (Nat × Value) := lv.map (fun q => (q.1, sk_v ad q.2))
def sk_oV (n : Nat) (v : Value) : Prop := ∀ i, v = .ref i → i < n
def sk_oC (n : Nat) (c : sk_C) : Prop := match c with
  | .inl _ => True
  | .inr (.inl a) => ∀ i, some i ∈ a.2 → i < n
  | .inr (.inr o) => ∀ v ∈ o.2, sk_oV n v
def sk_oW (w : sk_H) : Prop := (∀ i, i < sk_k → w[i]? = some sk_dum) ∧ ∀ c ∈ w, sk_oC w.length c
def sk_t (tc : Nat → ClassId) : List (ClassId × FieldType) := sk_tys.mapIdx (fun t ty => (tc t, ty))
def sk_R (d kc ks : Nat) : Room := { frames := d, cells := kc, slots := ks, locals := 32 * d }
theorem sk_oV_int {n : Nat} {x : Int32} : sk_oV n (.int x) := fun i h => by cases h
theorem sk_oV_long {n : Nat} {x : Int64} : sk_oV n (.long x) := fun i h => by cases h
theorem sk_oV_null {n : Nat} : sk_oV n .null := fun i h => by cases h
theorem sk_oV_ref {n i : Nat} (h : i < n) : sk_oV n (.ref i) := fun j e => by cases e; exact h
theorem sk_oV_mono {n n' : Nat} {v : Value} (h : sk_oV n v) (hn : n ≤ n') : sk_oV n' v := fun i e => Nat.lt_of_lt_of_le (h i e) hn
theorem sk_oC_mono {n n' : Nat} {c : sk_C} (h : sk_oC n c) (hn : n ≤ n') : sk_oC n' c := by
  rcases c with a | a | o
  · trivial
  · exact fun i hi => Nat.lt_of_lt_of_le (h i hi) hn
  · exact fun v hv => sk_oV_mono (h v hv) hn
theorem sk_tail {α : Type} {P : α → Prop} {a : α} {l : List α} (h : ∀ v ∈ a :: l, P v) : ∀ v ∈ l, P v := fun v hv => h v (List.mem_cons_of_mem _ hv)
theorem sk_cons {α : Type} {P : α → Prop} {a : α} {l : List α} (h0 : P a) (h : ∀ v ∈ l, P v) : ∀ v ∈ a :: l, P v := fun v hv => by
  rcases List.mem_cons.mp hv with e | e
  · rw [e]; exact h0
  · exact h v e
theorem sk_v_agree {ad ad' : Nat → Nat} {n : Nat} (ha : ∀ i, i < n → ad' i = ad i) {v : Value} (h : sk_oV n v) : sk_v ad' v = sk_v ad v := by
  cases v with
  | ref i => show Value.ref (ad' i) = Value.ref (ad i); rw [ha i (h i rfl)]
  | _ => rfl
theorem sk_c_agree {tc : Nat → ClassId} {ad ad' : Nat → Nat} {n : Nat} (ha : ∀ i, i < n → ad' i = ad i) {c : sk_C} (h : sk_oC n c) : sk_c tc ad' c = sk_c tc ad c := by
  rcases c with a | a | o
  · rfl
  · have e : (fun j => (a.2.getD j none).map ad') = (fun j => (a.2.getD j none).map ad) := by
      funext j
      cases hj : a.2.getD j none with
      | none => rfl
      | some i =>
        have hm : some i ∈ a.2 := by
          rw [List.getD_eq_getElem?_getD] at hj
          cases h9 : a.2[j]? with
          | none => rw [h9] at hj; cases hj
          | some z => rw [h9] at hj; cases hj; exact List.mem_of_getElem? h9
        show some (ad' i) = some (ad i)
        rw [ha i (h i hm)]
    simp only [sk_c, e]
  · have e : o.2.map (sk_v ad') = o.2.map (sk_v ad) := List.map_congr_left (fun v hv => sk_v_agree ha (h v hv))
    simp only [sk_c, e]
theorem sk_cat (ad : Nat → Nat) (v : Value) : (sk_v ad v).category = v.category := by cases v <;> rfl
theorem sk_w_at {tc : Nat → ClassId} {ad : Nat → Nat} {w : sk_H} {i : Nat} {c : sk_C} (h : w[i]? = some c) (hk : sk_k ≤ i) : (sk_w tc ad w)[i - sk_k]? = some (ad i, sk_c tc ad c) := by
  unfold sk_w
  rw [List.getElem?_mapIdx, List.getElem?_drop, Nat.add_sub_cancel' hk, h, Option.map_some, Nat.sub_add_cancel hk]
theorem sk_w_set {tc : Nat → ClassId} {ad : Nat → Nat} {w : sk_H} {i : Nat} {c : sk_C} (hk : sk_k ≤ i) : sk_w tc ad (w.set i c) = (sk_w tc ad w).set (i - sk_k) (ad i, sk_c tc ad c) := by
  apply List.ext_getElem?
  intro j
  unfold sk_w
  rw [List.getElem?_mapIdx, List.getElem?_drop, List.getElem?_set, List.getElem?_set, List.getElem?_mapIdx, List.getElem?_drop, List.length_mapIdx, List.length_drop]
  by_cases hj : i - sk_k = j
  · subst hj
    rw [if_pos (by omega), if_pos rfl]
    by_cases hl : i < w.length
    · rw [if_pos hl, if_pos (by omega), Option.map_some, Nat.sub_add_cancel hk]
    · rw [if_neg hl, if_neg (by omega)]; rfl
  · rw [if_neg (by omega), if_neg hj]
theorem sk_w_push {tc : Nat → ClassId} {ad ad' : Nat → Nat} {w : sk_H} {c : sk_C} (hw : sk_oW w) (hl : sk_k ≤ w.length) (ha : ∀ i, i < w.length → ad' i = ad i) : sk_w tc ad' (w ++ [c]) = sk_w tc ad w ++ [(ad' w.length, sk_c tc ad' c)] := by
  apply List.ext_getElem?
  intro j
  unfold sk_w
  rw [List.getElem?_mapIdx, List.getElem?_drop]
  by_cases hj : sk_k + j < w.length
  · rw [List.getElem?_append_left hj, List.getElem?_append_left (by rw [List.length_mapIdx, List.length_drop]; omega), List.getElem?_mapIdx, List.getElem?_drop]
    cases hc : w[sk_k + j]? with
    | none => rfl
    | some x =>
      rw [Option.map_some, Option.map_some, ha (j + sk_k) (by omega), sk_c_agree ha (hw.2 x (List.mem_of_getElem? hc))]
  · rw [List.getElem?_append_right (by omega), List.getElem?_append_right (by rw [List.length_mapIdx, List.length_drop]; omega), List.length_mapIdx, List.length_drop]
    by_cases h0 : sk_k + j = w.length
    · rw [show sk_k + j - w.length = 0 by omega, show j - (w.length - sk_k) = 0 by omega]
      show some (ad' (j + sk_k), sk_c tc ad' c) = some (ad' w.length, sk_c tc ad' c)
      rw [show j + sk_k = w.length by omega]
    · rw [show sk_k + j - w.length = (sk_k + j - w.length - 1) + 1 by omega, show j - (w.length - sk_k) = (j - (w.length - sk_k) - 1) + 1 by omega]
      rfl
theorem sk_oW_set {w : sk_H} {i : Nat} {c : sk_C} (h : sk_oW w) (hk : sk_k ≤ i) (hc : sk_oC w.length c) : sk_oW (w.set i c) := by
  refine ⟨fun j hj => ?_, fun x hx => ?_⟩
  · rw [List.getElem?_set_ne (by omega)]; exact h.1 j hj
  · rw [List.length_set]
    rcases List.mem_or_eq_of_mem_set hx with h1 | h1
    · exact h.2 x h1
    · rw [h1]; exact hc
theorem sk_oW_len {w : sk_H} (h : sk_oW w) : sk_k ≤ w.length := by
  cases hk : sk_k with
  | zero => exact Nat.zero_le _
  | succ n => exact (List.getElem?_eq_some_iff.mp (h.1 n (by omega))).1
theorem sk_oW_push {w : sk_H} {c : sk_C} (h : sk_oW w) (hc : sk_oC (w.length + 1) c) : sk_oW (w ++ [c]) := by
  have hl := sk_oW_len h
  refine ⟨fun j hj => ?_, fun x hx => ?_⟩
  · rw [List.getElem?_append_left (by omega)]; exact h.1 j hj
  · rw [List.length_append, List.length_singleton]
    rcases List.mem_append.mp hx with h1 | h1
    · exact sk_oC_mono (h.2 x h1) (Nat.le_succ _)
    · rw [List.mem_singleton.mp h1]; exact hc
theorem sk_ge {w : sk_H} (h : sk_oW w) {i : Nat} {c : sk_C} (hi : w[i]? = some c) (hc : c ≠ sk_dum) : sk_k ≤ i := by
  rcases Nat.lt_or_ge i sk_k with h1 | h1
  · exact absurd (Option.some.inj (hi.symm.trans (h.1 i h1))) hc
  · exact h1
