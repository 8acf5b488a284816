/-- the writer's state: what is written, the number of the thing before and where it starts, how many differences in a row, the numbers of all written things -/
abbrev Wst : Type := List Int32 × Option Nat × Nat × Nat × List Nat
def dfo (ths : List Th) (w : Wst) (x : Th) : Option (List Int32) :=
  (w.2.1.bind (fun j => ths[j]?)).bind (fun z => if z.1 = x.1 ∧ w.2.2.2.1 < 3 ∧ (dif z.2.1 x.2.1).length < x.2.1.length then some (dif z.2.1 x.2.1) else none)
def wtD (w : Wst) (i : Nat) (d : List Int32) : Wst := (w.1 ++ mkB 6 d.length ++ dsB (w.1.length - w.2.2.1) ++ wrp d, some i, w.1.length, w.2.2.2.1 + 1, w.2.2.2.2 ++ [i])
def wtW (w : Wst) (i t : Nat) (L : List Int32) : Wst := (w.1 ++ mkB t L.length ++ wrp L, some i, w.1.length, 0, w.2.2.2.2 ++ [i])
def wt (ths : List Th) (w : Wst) (i : Nat) (x : Th) (t : Nat) : Wst := (dfo ths w x).elim (wtW w i t x.2.1) (wtD w i)
def wI (ths : List Th) (t : Nat) : Nat → Wst → Wst
  | 0, w => w
  | i + 1, w => (ths[i]?).elim (wI ths t i w) (fun x => if x.1 = nI t then wt ths (wI ths t i w) i x t else wI ths t i w)
def wS (n : Nat) : Wst := (hb 1346454347 4 ++ hb 2 4 ++ hb (nI n) 4, none, 0, 0, [])
def wK (ths : List Th) : Nat → Wst
  | 0 => wS ths.length
  | t + 1 => wI ths (t + 1) ths.length (wK ths t)
def WOK (ths : List Th) (t i : Nat) (w : Wst) : Prop := byt w.1 ∧ w.1.length ≤ 12 + 135 * w.2.2.2.2.length ∧ w.2.2.1 ≤ w.1.length ∧ w.2.2.2.1 ≤ 3 ∧ (∀ j, w.2.1 = some j → j < ths.length) ∧ w.2.2.2.2.Nodup ∧ ∀ j ∈ w.2.2.2.2, ∃ x s, ths[j]? = some x ∧ x.1 = nI s ∧ s ≤ 3 ∧ (s < t ∨ s = t ∧ j < i)
theorem dfo_s {ths : List Th} {w : Wst} {x : Th} {d : List Int32} (h : dfo ths w x = some d) : ∃ j z, w.2.1 = some j ∧ ths[j]? = some z ∧ z.1 = x.1 ∧ w.2.2.2.1 < 3 ∧ d = dif z.2.1 x.2.1 ∧ d.length < x.2.1.length := by
  unfold dfo at h
  cases e : w.2.1 with
  | none => rw [e] at h; cases h
  | some j =>
    rw [e] at h
    cases e2 : ths[j]? with
    | none =>
      have h' : (ths[j]?).bind _ = some d := h
      rw [e2] at h'; cases h'
    | some z =>
      have h' : (ths[j]?).bind _ = some d := h
      rw [e2] at h'
      by_cases g : z.1 = x.1 ∧ w.2.2.2.1 < 3 ∧ (dif z.2.1 x.2.1).length < x.2.1.length
      · have h2 : (if z.1 = x.1 ∧ w.2.2.2.1 < 3 ∧ (dif z.2.1 x.2.1).length < x.2.1.length then some (dif z.2.1 x.2.1) else none) = some d := h'
        rw [if_pos g] at h2
        cases h2
        exact ⟨j, z, rfl, e2, g.1, g.2.1, rfl, g.2.2⟩
      · have h2 : (if z.1 = x.1 ∧ w.2.2.2.1 < 3 ∧ (dif z.2.1 x.2.1).length < x.2.1.length then some (dif z.2.1 x.2.1) else none) = some d := h'
        rw [if_neg g] at h2
        cases h2
theorem dfo_at {ths : List Th} {w : Wst} {x z : Th} {j : Nat} (e : w.2.1 = some j) (e2 : ths[j]? = some z) : dfo ths w x = if z.1 = x.1 ∧ w.2.2.2.1 < 3 ∧ (dif z.2.1 x.2.1).length < x.2.1.length then some (dif z.2.1 x.2.1) else none := by
  unfold dfo
  rw [e]
  show (ths[j]?).bind _ = _
  rw [e2]
  rfl
theorem dfo_n {ths : List Th} {w : Wst} {x : Th} (e : w.2.1 = none) : dfo ths w x = none := by
  unfold dfo
  rw [e]
  rfl
theorem WOK.room {ths : List Th} {t i : Nat} {w : Wst} {x : Th} (h : WOK ths t i w) (hn : ths.length ≤ 16) (hx : ths[i]? = some x) (hxt : x.1 = nI t) (ht : t ≤ 3) : ¬ i ∈ w.2.2.2.2 ∧ w.2.2.2.2.length + 1 ≤ 16 ∧ (w.2.2.2.2 ++ [i]).Nodup := by
  obtain ⟨h1, h2, h3, h4, h5, h6, h7⟩ := h
  have hni : ¬ i ∈ w.2.2.2.2 := fun hm => by
    obtain ⟨y, s, e1, e2, e3, e4⟩ := h7 i hm
    rw [hx] at e1
    cases e1
    rw [hxt] at e2
    have := (nI_eq (by omega) (by omega)).mp e2
    omega
  have hnd : (w.2.2.2.2 ++ [i]).Nodup := by
    rw [List.nodup_append]
    refine ⟨h6, List.nodup_cons.mpr ⟨List.not_mem_nil, List.nodup_nil⟩, fun a ha b hb e9 => ?_⟩
    rw [List.mem_singleton] at hb
    rw [e9, hb] at ha
    exact hni ha
  have hi := (List.getElem?_eq_some_iff.mp hx).1
  have hle := nodup_le ths.length (w.2.2.2.2 ++ [i]) hnd (fun a ha => by
    rcases List.mem_append.mp ha with q | q
    · obtain ⟨y, s, e1, -⟩ := h7 a q
      exact (List.getElem?_eq_some_iff.mp e1).1
    · rw [List.mem_singleton] at q; rw [q]; exact hi)
  rw [List.length_append, List.length_singleton] at hle
  exact ⟨hni, by omega, hnd⟩
theorem WOK.top {ths : List Th} {t i : Nat} {w : Wst} (h : WOK ths t i w) (hn : ths.length ≤ 16) : w.1.length ≤ 2172 := by
  obtain ⟨h1, h2, h3, h4, h5, h6, h7⟩ := h
  have hle := nodup_le ths.length w.2.2.2.2 h6 (fun a ha => by
    obtain ⟨y, s, e1, -⟩ := h7 a ha
    exact (List.getElem?_eq_some_iff.mp e1).1)
  omega
theorem WOK.skip {ths : List Th} {t i : Nat} {w : Wst} (h : WOK ths t i w) : WOK ths t (i + 1) w := by
  obtain ⟨h1, h2, h3, h4, h5, h6, h7⟩ := h
  refine ⟨h1, h2, h3, h4, h5, h6, fun j hj => ?_⟩
  obtain ⟨y, s, e1, e2, e3, e4⟩ := h7 j hj
  exact ⟨y, s, e1, e2, e3, by omega⟩
theorem WOK.next {ths : List Th} {t i : Nat} {w : Wst} (h : WOK ths t i w) : WOK ths (t + 1) 0 w := by
  obtain ⟨h1, h2, h3, h4, h5, h6, h7⟩ := h
  refine ⟨h1, h2, h3, h4, h5, h6, fun j hj => ?_⟩
  obtain ⟨y, s, e1, e2, e3, e4⟩ := h7 j hj
  exact ⟨y, s, e1, e2, e3, by omega⟩
theorem WOK.wri {ths : List Th} {t i : Nat} {w : Wst} {x : Th} (h : WOK ths t i w) (hV : ∀ x ∈ ths, VT x) (hn : ths.length ≤ 16) (hx : ths[i]? = some x) (hxt : x.1 = nI t) (ht : t ≤ 3) : WOK ths t (i + 1) (wt ths w i x t) := by
  obtain ⟨r1, r2, r3⟩ := h.room hn hx hxt ht
  have h0 := h.top hn
  obtain ⟨h1, h2, h3, h4, h5, h6, h7⟩ := h
  have hi := (List.getElem?_eq_some_iff.mp hx).1
  have vx := hV x (List.mem_of_getElem? hx)
  have done : ∀ j ∈ w.2.2.2.2 ++ [i], ∃ x s, ths[j]? = some x ∧ x.1 = nI s ∧ s ≤ 3 ∧ (s < t ∨ s = t ∧ j < i + 1) := fun j hj => by
    rcases List.mem_append.mp hj with q | q
    · obtain ⟨y, s, e1, e2, e3, e4⟩ := h7 j q
      exact ⟨y, s, e1, e2, e3, by omega⟩
    · rw [List.mem_singleton] at q
      rw [q]
      exact ⟨x, t, hx, hxt, ht, Or.inr ⟨rfl, by omega⟩⟩
  unfold wt
  cases e : dfo ths w x with
  | none =>
    refine ⟨byt_app (byt_app h1 (mkB_byt (by omega) (by have := vx.2.2; omega))) (wrp_byt vx.2.1), ?_, ?_, Nat.zero_le _, fun j hj => ?_, r3, done⟩
    · show (w.1 ++ mkB t x.2.1.length ++ wrp x.2.1).length ≤ 12 + 135 * (w.2.2.2.2 ++ [i]).length
      rw [List.length_append, List.length_append, List.length_append, wrp_len, List.length_singleton]
      have := mkB_len t x.2.1.length
      have := vx.2.2
      omega
    · show w.1.length ≤ (w.1 ++ mkB t x.2.1.length ++ wrp x.2.1).length
      rw [List.length_append, List.length_append]
      omega
    · cases hj; exact hi
  | some d =>
    obtain ⟨j, z, e1, e2, e3, e4, e5, e6⟩ := dfo_s e
    have vz := hV z (List.mem_of_getElem? e2)
    have dp := dif_p (x := z.2.1) (y := x.2.1) vz.2.2 vx.2.2 vx.2.1
    rw [← e5] at dp
    have vl := vx.2.2
    refine ⟨byt_app (byt_app (byt_app h1 (mkB_byt (by omega) (by omega))) (dsB_byt (by omega))) (wrp_byt dp.2), ?_, ?_, ?_, fun j hj => ?_, r3, done⟩
    · show (w.1 ++ mkB 6 d.length ++ dsB (w.1.length - w.2.2.1) ++ wrp d).length ≤ 12 + 135 * (w.2.2.2.2 ++ [i]).length
      rw [List.length_append, List.length_append, List.length_append, List.length_append, wrp_len, List.length_singleton]
      have := mkB_len 6 d.length
      have := dsB_len (w.1.length - w.2.2.1)
      omega
    · show w.1.length ≤ (w.1 ++ mkB 6 d.length ++ dsB (w.1.length - w.2.2.1) ++ wrp d).length
      rw [List.length_append, List.length_append, List.length_append]
      omega
    · show w.2.2.2.1 + 1 ≤ 3
      omega
    · cases hj; exact hi
theorem wI_n {ths : List Th} {t i : Nat} {w : Wst} {x : Th} (hx : ths[i]? = some x) (h : ¬ x.1 = nI t) : wI ths t (i + 1) w = wI ths t i w := by
  rw [wI, hx]
  exact if_neg h
theorem wI_t {ths : List Th} {t i : Nat} {w : Wst} {x : Th} (hx : ths[i]? = some x) (h : x.1 = nI t) : wI ths t (i + 1) w = wt ths (wI ths t i w) i x t := by
  rw [wI, hx]
  exact if_pos h
theorem wI_ok {ths : List Th} {t : Nat} {w : Wst} (hV : ∀ x ∈ ths, VT x) (hn : ths.length ≤ 16) (ht : t ≤ 3) (h : WOK ths t 0 w) : ∀ i, i ≤ ths.length → WOK ths t i (wI ths t i w)
  | 0, _ => h
  | i + 1, hi => by
    obtain ⟨x, hx⟩ := get_some (l := ths) (j := i) (by omega)
    have g := wI_ok hV hn ht h i (by omega)
    by_cases e : x.1 = nI t
    · rw [wI_t hx e]
      exact g.wri hV hn hx e ht
    · rw [wI_n hx e]
      exact g.skip
theorem wK_ok {ths : List Th} (hV : ∀ x ∈ ths, VT x) (hn : ths.length ≤ 16) : ∀ t, t ≤ 3 → WOK ths (t + 1) 0 (wK ths t)
  | 0, _ => by
    refine ⟨byt_app (byt_app (byt_hb _ 4) (byt_hb _ 4)) (byt_hb _ 4), ?_, Nat.zero_le _, Nat.zero_le _, fun j hj => (by cases hj), List.nodup_nil, fun j hj => absurd hj List.not_mem_nil⟩
    show (hb 1346454347 4 ++ hb 2 4 ++ hb (nI ths.length) 4).length ≤ _
    rw [List.length_append, List.length_append, hb_len, hb_len, hb_len]
    exact Nat.le_refl _
  | t + 1, ht => (wI_ok hV hn ht (wK_ok hV hn t (by omega)) ths.length (Nat.le_refl _)).next
