def fu (ρ : Nat → List Int32) (r : Nat) (L : List Int32) : Nat → List Int32 := fun a => if a = r then L else ρ a
theorem fu_self {ρ : Nat → List Int32} {r : Nat} {L : List Int32} : fu ρ r L r = L := if_pos rfl
theorem fu_ne {ρ : Nat → List Int32} {r a : Nat} {L : List Int32} (h : a ≠ r) : fu ρ r L a = ρ a := if_neg h
theorem fu_fu {ρ : Nat → List Int32} {r : Nat} {L L' : List Int32} : fu (fu ρ r L) r L' = fu ρ r L' := by
  funext a
  unfold fu
  by_cases h : a = r
  · rw [if_pos h, if_pos h]
  · rw [if_neg h, if_neg h, if_neg h]
theorem fu_id {ρ : Nat → List Int32} {r : Nat} : fu ρ r (ρ r) = ρ := by
  funext a
  unfold fu
  by_cases h : a = r
  · rw [if_pos h, h]
  · rw [if_neg h]
def RW (c : cM) (r : Nat) (L : List Int32) : Prop := c r 1 = nI L.length ∧ L.length ≤ ln (r + 1) ∧ ∀ j, j < L.length → c (r + 1) j = L.getD j 0
def rc (a : Nat) : Prop := kd a = 1 ∨ (0 < a ∧ kd (a - 1) = 1)
def Rep (c : cM) (ρ : Nat → List Int32) (γ : cM) : Prop := (∀ r, kd r = 1 → RW c r (ρ r)) ∧ ∀ a, ¬ rc a → c a = γ a
theorem row_k {r : Nat} (h : kd r = 1) : rf r 0 = r + 1 ∧ kd (r + 1) = 100 ∧ ln (r + 1) < 3000 := by
  have h1 : ∀ i, i < c_N → kd i = 1 → rf i 0 = i + 1 ∧ kd (i + 1) = 100 ∧ ln (i + 1) < 3000 := by decide +kernel
  exact h1 r (kd_lt (by omega)) h
theorem Rep.row {c c' : cM} {ρ : Nat → List Int32} {γ : cM} {r : Nat} {L' : List Int32} (h : Rep c ρ γ) (hr : kd r = 1) (ho : ∀ a, a ≠ r → a ≠ r + 1 → c' a = c a) (hw : RW c' r L') : Rep c' (fu ρ r L') γ := by
  have hk := row_k hr
  refine ⟨fun q hq => ?_, fun a ha => ?_⟩
  · by_cases e : q = r
    · subst e
      rw [fu_self]
      exact hw
    · rw [fu_ne e]
      have hk2 := row_k hq
      have n1 : q ≠ r + 1 := by
        intro e1
        rw [e1] at hq
        omega
      have n2 : q + 1 ≠ r := by
        intro e1
        rw [e1] at hk2
        omega
      obtain ⟨a1, a2, a3⟩ := h.1 q hq
      refine ⟨by rw [ho q e n1]; exact a1, a2, fun j hj => ?_⟩
      rw [ho (q + 1) n2 (by omega)]
      exact a3 j hj
  · rw [ho a (fun e => ha (Or.inl (by rw [e]; exact hr))) (fun e => ha (Or.inr ⟨by omega, by rw [e]; exact hr⟩))]
    exact h.2 a ha
theorem Rep.cell {c c' : cM} {ρ : Nat → List Int32} {γ : cM} {a : Nat} {f : Nat → Int32} (h : Rep c ρ γ) (ha : ¬ rc a) (hc : c' = c_row c a f) : Rep c' ρ (c_row γ a f) := by
  subst hc
  refine ⟨fun q hq => ?_, fun b hb => ?_⟩
  · have n1 : q ≠ a := fun e => ha (Or.inl (by rw [← e]; exact hq))
    have n2 : q + 1 ≠ a := fun e => ha (Or.inr ⟨by omega, by rw [← e]; exact hq⟩)
    obtain ⟨a1, a2, a3⟩ := h.1 q hq
    refine ⟨by rw [c_row_ne n1]; exact a1, a2, fun j hj => ?_⟩
    rw [c_row_ne n2]
    exact a3 j hj
  · by_cases e : b = a
    · subst e
      rw [c_row_self, c_row_self]
    · rw [c_row_ne e, c_row_ne e]
      exact h.2 b hb
theorem Rep.up {c c' : cM} {ρ : Nat → List Int32} {γ : cM} {a j : Nat} {v : Int32} (h : Rep c ρ γ) (ha : ¬ rc a) (hc : c' = c_up c a j v) : Rep c' ρ (c_up γ a j v) := by
  have h1 := h.cell (c' := c') (f := fun b => if b = j then v else c a b) ha hc
  rw [h.2 a ha] at h1
  exact h1
theorem gd_app {L M : List Int32} {j : Nat} (h : j < L.length) : (L ++ M).getD j 0 = L.getD j 0 := by
  rw [List.getD_eq_getElem?_getD, List.getD_eq_getElem?_getD, List.getElem?_append_left h]
theorem gd_app2 {L M : List Int32} {j : Nat} (h : L.length ≤ j) : (L ++ M).getD j 0 = M.getD (j - L.length) 0 := by
  rw [List.getD_eq_getElem?_getD, List.getD_eq_getElem?_getD, List.getElem?_append_right h]
theorem s_put {c : cM} {ρ : Nat → List Int32} {γ : cM} {r : Nat} {v : Int32} {K : cM → Prop} (h : Rep c ρ γ) (hr : kd r = 1) (hl : (ρ r).length < ln (r + 1)) (hk : ∀ c', Rep c' (fu ρ r (ρ r ++ [v])) γ → K c') : f_Row_put r v c K := by
  obtain ⟨k1, k2, k3⟩ := row_k hr
  obtain ⟨w1, w2, w3⟩ := h.1 r hr
  unfold f_Row_put
  rw [k1, w1, nI_clamp (by omega)]
  refine ⟨hr, k2, fun hge => absurd hge (nI_ge hl (by omega)), fun _ => ⟨vp_in_nI hl (by omega), fun c5 e5 c6 e6 => hk c6 ?_⟩⟩
  have g1 : c5 r = c r := by rw [e5]; exact c_up_ne (by omega)
  refine h.row hr (fun a n1 n2 => by rw [e6, c_up_ne n1, e5, c_up_ne n2]) ⟨?_, ?_, fun j hj => ?_⟩
  · rw [e6, c_up_self, g1, w1, List.length_append, List.length_singleton, ← nI_succ]
  · rw [List.length_append, List.length_singleton]
    omega
  · rw [List.length_append, List.length_singleton] at hj
    rw [e6, c_up_ne (by omega), e5]
    by_cases ej : j = (ρ r).length
    · subst ej
      rw [c_up_self, gd_app2 (Nat.le_refl _), Nat.sub_self]
      rfl
    · rw [c_up_at ej, gd_app (by omega)]
      exact w3 j (by omega)
theorem s_clear {c : cM} {ρ : Nat → List Int32} {γ : cM} {r : Nat} {K : cM → Prop} (h : Rep c ρ γ) (hr : kd r = 1) (hk : ∀ c', Rep c' (fu ρ r []) γ → K c') : f_Row_clear r c K := by
  unfold f_Row_clear
  refine ⟨hr, fun c2 e2 => hk c2 (h.row hr (fun a n1 n2 => by rw [e2, c_up_ne n1]) ⟨?_, Nat.zero_le _, fun j hj => absurd hj (Nat.not_lt_zero _)⟩)⟩
  rw [e2, c_up_self]
  rfl
/-- the byte at a place, or -1 -/
def atL (L : List Int32) (x : Int32) : Int32 := if x < 0 then -1 else if nI L.length ≤ x then -1 else L.getD x.toNatClampNeg 0
theorem s_at {c : cM} {ρ : Nat → List Int32} {γ : cM} {r : Nat} {x : Int32} {K : Int32 → cM → Prop} (h : Rep c ρ γ) (hr : kd r = 1) (hk : K (atL (ρ r) x) c) : f_Row_at r x c K := by
  obtain ⟨k1, k2, k3⟩ := row_k hr
  obtain ⟨w1, w2, w3⟩ := h.1 r hr
  unfold f_Row_at
  rw [k1, w1]
  unfold atL at hk
  refine ⟨fun h1 => ?_, fun h1 => ⟨hr, fun h2 => ?_, fun h2 => ⟨k2, ?_⟩⟩⟩
  · rw [if_pos h1] at hk; exact hk
  · rw [if_neg h1, if_pos h2] at hk; exact hk
  · rw [if_neg h1, if_neg h2] at hk
    obtain ⟨j, hj, rfl⟩ := nI_of h1
    have hlt : j < (ρ r).length := by
      rcases Nat.lt_or_ge j (ρ r).length with g | g
      · exact g
      · exact absurd (nI_le g hj) h2
    rw [nI_clamp hj] at hk ⊢
    refine ⟨vp_in_nI (by omega) (by omega), ?_⟩
    rw [w3 j hlt]
    exact hk
theorem atL_nI {L : List Int32} {j : Nat} (h : j < L.length) (hl : L.length < 2 ^ 31) : atL L (nI j) = L.getD j 0 := by
  unfold atL
  rw [if_neg (nI_pos (by omega)), if_neg (nI_ge h hl), nI_clamp (by omega)]
theorem atL_out {L : List Int32} {j : Nat} (h : L.length ≤ j) (hj : j < 2 ^ 31) : atL L (nI j) = -1 := by
  unfold atL
  rw [if_neg (nI_pos hj), if_pos (nI_le h hj)]
/-- the n lower bytes, the highest first -/
def hb (x : Int32) : Nat → List Int32
  | 0 => []
  | n + 1 => (c_ushr x (nI (8 * n)) &&& 255) :: hb x n
theorem hb_len (x : Int32) : ∀ n, (hb x n).length = n
  | 0 => rfl
  | n + 1 => by show (hb x n).length + 1 = n + 1; rw [hb_len x n]
theorem i8 (n : Nat) : (8 : Int32) * nI n = nI (8 * n) := by
  rw [show (8 : Int32) = nI 8 from rfl, pk_mul]
theorem s_putHigh {c : cM} {ρ : Nat → List Int32} {γ : cM} {r : Nat} {x : Int32} {n : Nat} {K : cM → Prop} (h : Rep c ρ γ) (hr : kd r = 1) (hn : n < 100) (hl : (ρ r).length + n ≤ ln (r + 1)) (hk : ∀ c', Rep c' (fu ρ r (ρ r ++ hb x n)) γ → K c') : f_Row_putHighFirst r x (nI n) c K := by
  unfold f_Row_putHighFirst
  refine ⟨fun j y c' => ∃ (A : List Int32), j ≤ n ∧ y = nI j - 1 ∧ A ++ hb x j = ρ r ++ hb x n ∧ Rep c' (fu ρ r A) γ, ⟨n, ρ r, Nat.le_refl _, rfl, rfl, by rw [fu_id]; exact h⟩, ?_⟩
  rintro j y c' ⟨A, hj, rfl, hA, hR⟩
  have hlen : A.length + j = (ρ r).length + n := by
    have := congrArg List.length hA
    rw [List.length_append, List.length_append, hb_len, hb_len] at this
    exact this
  cases j with
  | zero =>
    refine ⟨fun _ => hk c' ?_, fun h1 => absurd (by decide) h1⟩
    rw [hb, List.append_nil] at hA
    rw [← hA]
    exact hR
  | succ j =>
    rw [nI_pred]
    refine ⟨fun h1 => absurd h1 (nI_pos (by omega)), fun _ => ⟨hr, s_put hR hr (by rw [fu_self]; omega) (fun c2 h2 => ⟨j, by omega, A ++ [c_ushr x (nI (8 * j)) &&& 255], by omega, ?_, ?_, ?_⟩)⟩⟩
    · rw [Int32.sub_eq_add_neg]
    · rw [List.append_assoc]
      exact hA
    · rw [fu_self, fu_fu, i8] at h2
      exact h2
