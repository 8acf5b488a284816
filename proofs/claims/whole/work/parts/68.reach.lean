theorem nodup_le : ∀ (n : Nat) (q : List Nat), q.Nodup → (∀ x ∈ q, x < n) → q.length ≤ n
  | 0, q, _, h => by
    cases q with
    | nil => exact Nat.le_refl _
    | cons a l => exact absurd (h a List.mem_cons_self) (Nat.not_lt_zero _)
  | n + 1, q, hd, h => by
    by_cases hn : n ∈ q
    · have h1 := nodup_le n (q.erase n) (hd.erase n) (fun x hx => by
        have h2 := (hd.mem_erase_iff).mp hx
        have h3 := h x h2.2
        have h4 := h2.1
        omega)
      rw [List.length_erase_of_mem hn] at h1
      omega
    · have h1 := nodup_le n q hd (fun x hx => by
        have h2 := h x hx
        have h3 : x ≠ n := fun e => hn (by rw [← e]; exact hx)
        omega)
      omega
def rfr (ths : List Th) (i j : Nat) : Prop := ∃ x y, ths[i]? = some x ∧ ths[j]? = some y ∧ ¬ x.1 = 3 ∧ ∃ p, hasAt x.2.1 p y.2.2 5
def hld (d : Nat → Int32) (i : Nat) : Prop := ∃ b, b < 4 ∧ d b = nI i
def Rch (ths : List Th) (d : Nat → Int32) (i : Nat) : Prop := i < ths.length ∧ ∀ S : Nat → Prop, (∀ i, i < ths.length → hld d i → S i) → (∀ i j, i < ths.length → j < ths.length → S i → rfr ths i j → S j) → S i
theorem Rch.base {ths : List Th} {d : Nat → Int32} {i : Nat} (hi : i < ths.length) (h : hld d i) : Rch ths d i := ⟨hi, fun S h1 _ => h1 i hi h⟩
theorem Rch.step {ths : List Th} {d : Nat → Int32} {i j : Nat} (h : Rch ths d i) (hj : j < ths.length) (hr : rfr ths i j) : Rch ths d j := ⟨hj, fun S h1 h2 => h2 i j h.1 hj (h.2 S h1 h2) hr⟩
theorem hasAt_congr {L : List Int32} {p : Nat} {f g : Nat → Int32} (h : sameN f g) : hasAt L p f 5 ↔ hasAt L p g 5 := ⟨fun w => ⟨w.1, fun k hk => by rw [w.2 k hk]; exact h k hk⟩, fun w => ⟨w.1, fun k hk => by rw [w.2 k hk]; exact (h k hk).symm⟩⟩
theorem s_refers {c : cM} {ρ : Nat → List Int32} {γ : cM} {ths : List Th} {i j : Nat} {K : Int32 → cM → Prop} (h : Rep c ρ γ) (hs : StR ρ γ ths) (hi : i < ths.length) (hj : j < ths.length) (hk : K (pI (rfr ths i j)) c) : f_Thing_refersTo (21 + 4 * i) (21 + 4 * j) c K := by
  have hn := hs.2.1
  obtain ⟨x, hx⟩ := get_some hi
  obtain ⟨y, hy⟩ := get_some hj
  obtain ⟨x1, x2, x3⟩ := hs.2.2 i x hx
  obtain ⟨y1, y2, y3⟩ := hs.2.2 j y hy
  refine s_refersTo h (st_t i (by omega)).2 (st_t j (by omega)).2 ?_
  rw [x1, x2]
  have e : (¬ x.1 = 3 ∧ ∃ p, hasAt x.2.1 p (γ (21 + 4 * j + 3)) 5) ↔ rfr ths i j := by
    constructor
    · rintro ⟨h1, p, hp⟩
      exact ⟨x, y, hx, hy, h1, p, (hasAt_congr y3).mp hp⟩
    · rintro ⟨x', y', hx', hy', h1, p, hp⟩
      rw [hx] at hx'
      rw [hy] at hy'
      cases hx'
      cases hy'
      exact ⟨h1, p, (hasAt_congr y3).mpr hp⟩
  rw [pI_iff e]
  exact hk
/-- the store's list of reached things -/
def Qu (γ : cM) (n : Nat) (q : List Nat) : Prop := q.Nodup ∧ (∀ x ∈ q, x < n) ∧ γ 19 5 = nI q.length ∧ (∀ k, k < q.length → γ 87 k = nI (q.getD k 0)) ∧ ∀ i, i < 16 → γ 86 i = pI (i ∈ q)
def Fr (γ γ' : cM) : Prop := (∀ a, a ≠ 19 → a ≠ 86 → a ≠ 87 → γ' a = γ a) ∧ ∀ k, k ≠ 5 → γ' 19 k = γ 19 k
theorem Fr.tr {γ γ' γ'' : cM} (h : Fr γ γ') (g : Fr γ' γ'') : Fr γ γ'' := ⟨fun a h1 h2 h3 => (g.1 a h1 h2 h3).trans (h.1 a h1 h2 h3), fun k hk => (g.2 k hk).trans (h.2 k hk)⟩
theorem Fr.rf (γ : cM) : Fr γ γ := ⟨fun _ _ _ _ => rfl, fun _ _ => rfl⟩
theorem Fr.pe {ρ : Nat → List Int32} {γ γ' : cM} (h : Fr γ γ') : Pe ρ γ ρ γ' := ⟨fun _ _ => rfl, fun a _ h1 h2 h3 => h.1 a h1 h2 h3, h.2 1 (by decide)⟩
theorem s_reach {c : cM} {ρ : Nat → List Int32} {γ : cM} {n : Nat} {q : List Nat} {x : Int32} {K : cM → Prop} (h : Rep c ρ γ) (hn : γ 19 1 = nI n) (hn2 : n ≤ 16) (hq : Qu γ n q) (h0 : (∀ j, j < n → x = nI j → j ∈ q) → K c) (h1 : ∀ j, j < n → x = nI j → ¬ j ∈ q → ∀ c' γ', Rep c' ρ γ' → Qu γ' n (q ++ [j]) → Fr γ γ' → K c') : f_Store_reach 19 x c K := by
  obtain ⟨q1, q2, q3, q4, q5⟩ := hq
  have ql := nodup_le n q q1 q2
  unfold f_Store_reach
  rw [st_k.2.2.1, st_k.2.2.2.1, st_k2.2.1, st_k2.2.2.2]
  refine ⟨st_k.2.2.2.2.1, s_has h hn (by omega) (fun j hj e => ⟨fun g => absurd g (by decide), fun _ => ⟨st_k2.1, ?_⟩⟩) (fun g => ⟨fun _ => h0 (fun j hj e => absurd e (g j hj)), fun g2 => absurd rfl g2⟩)⟩
  rw [e, nI_clamp (show j < 2 ^ 31 by omega), h.2 86 n86, q5 j (by omega), h.2 19 n19, q3]
  refine ⟨vp_in_nI (by omega) (by decide), fun g => h0 (fun i hi ei => ?_), fun g => ?_⟩
  · have eij : i = j := (nI_eq (by omega) (by omega)).mp (ei.symm.trans e)
    rw [eij]
    exact Classical.byContradiction (fun w => g (pI_f w))
  · have hjq : ¬ j ∈ q := pI_eq0.mp g
    have hnd : (q ++ [j]).Nodup := by
      rw [List.nodup_append]
      refine ⟨q1, List.nodup_cons.mpr ⟨List.not_mem_nil, List.nodup_nil⟩, fun a ha b hb e9 => ?_⟩
      rw [List.mem_singleton.mp hb] at e9
      exact hjq (by rw [← e9]; exact ha)
    have hlt : ∀ a ∈ q ++ [j], a < n := fun a ha => by
      rcases List.mem_append.mp ha with w | w
      · exact q2 a w
      · rw [List.mem_singleton.mp w]; exact hj
    have ql2 := nodup_le n (q ++ [j]) hnd hlt
    rw [List.length_append, List.length_singleton] at ql2
    refine ⟨fun g2 => absurd ((nI_leI (a := 16) (by decide) (by omega)).mp g2) (by omega), fun _ c9 e9 => ⟨st_k2.2.2.1, ?_⟩⟩
    have u9 := h.up n86 e9
    have v9 : c9 19 5 = nI q.length := by rw [e9, c_up_ne (by decide), h.2 19 n19]; exact q3
    rw [v9, nI_clamp (by omega)]
    refine ⟨vp_in_nI (by omega) (by decide), fun c12 e12 c13 e13 => ?_⟩
    have u12 := u9.up n87 e12
    have v12 : c12 19 5 = nI q.length := by rw [e12, c_up_ne (by decide)]; exact v9
    rw [v12, show (1 : Int32) = nI 1 from rfl, nI_add] at e13
    have u13 := u12.up n19 e13
    refine h1 j hj e hjq c13 _ u13 ⟨hnd, hlt, ?_, fun k hk => ?_, fun i hi => ?_⟩ ⟨fun a a1 a2 a3 => ?_, fun k hk => ?_⟩
    · rw [c_up_self, List.length_append, List.length_singleton]
    · rw [List.length_append, List.length_singleton] at hk
      rw [c_up_ne (by decide)]
      by_cases ek : k = q.length
      · rw [ek, c_up_self, List.getD_eq_getElem?_getD, List.getElem?_append_right (Nat.le_refl _), Nat.sub_self]
        rfl
      · rw [c_up_at ek, c_up_ne (by decide), q4 k (by omega), List.getD_eq_getElem?_getD, List.getD_eq_getElem?_getD, List.getElem?_append_left (by omega)]
    · rw [c_up_ne (by decide), c_up_ne (by decide)]
      by_cases ei : i = j
      · rw [ei, c_up_self, pI_t (List.mem_append_right _ (List.mem_singleton.mpr rfl))]
      · rw [c_up_at ei, q5 i hi]
        refine pI_iff ⟨fun w => List.mem_append_left _ w, fun w => ?_⟩
        rcases List.mem_append.mp w with w | w
        · exact w
        · exact absurd (List.mem_singleton.mp w) ei
    · rw [c_up_ne a1, c_up_ne a3, c_up_ne a2]
    · rw [c_up_at hk, c_up_ne (by decide), c_up_ne (by decide)]
