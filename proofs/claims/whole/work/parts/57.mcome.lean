theorem pI_1 {P : Prop} (h : pI P = 1) : P := Classical.byContradiction (fun g => by rw [pI_f g] at h; exact absurd h (by decide))
def nmA (c : cM) (i : Nat) : Nat → Int32 := fun q => c 180 (5 * i + q)
theorem m_sameAs {c : cM} {i n : Nat} {K : Int32 → cM → Prop} (hi : i < 33) (hn : c 176 0 = nI n) (hn2 : n ≤ 16) (hk : ∀ v, ((∃ j, j < n ∧ sameN (nmA c j) (nmA c i) ∧ v = nI j) ∨ ((∀ j, j < n → ¬ sameN (nmA c j) (nmA c i)) ∧ v = -1)) → K v c) : f_Mo_sameAs 176 (nI i) c K := by
  unfold f_Mo_sameAs
  rw [mk_k.2.2.2.2.1, mk_l.2.2.2.1, hn]
  refine ⟨fun m y z => ∃ j, m = n - j ∧ j ≤ n ∧ z = nI j ∧ ((∃ p, p < j ∧ sameN (nmA c p) (nmA c i) ∧ y = nI p) ∨ ((∀ p, p < j → ¬ sameN (nmA c p) (nmA c i)) ∧ y = -1)), ⟨n, 0, rfl, Nat.zero_le _, rfl, Or.inr ⟨fun p hp => absurd hp (Nat.not_lt_zero _), rfl⟩⟩, ?_⟩
  rintro m y z ⟨j, rfl, hj, rfl, hy⟩
  refine ⟨mk_k.1, fun g => ?_, fun g => ?_⟩
  · have ej : j = n := by
      have := (nI_leI (by omega) (by omega)).mp g
      omega
    subst ej
    exact hk y hy
  · have hjn : j < n := by
      rcases Nat.lt_or_ge j n with w | w
      · exact w
      · exact absurd (nI_le w (by omega)) g
    refine ⟨fun m s t => ∃ q, m = 5 - q ∧ q ≤ 5 ∧ t = nI q ∧ s = pI (∀ p, p < q → nmA c j p = nmA c i p), ⟨5, 0, rfl, Nat.zero_le _, rfl, (pI_t (fun p hp => absurd hp (Nat.not_lt_zero _))).symm⟩, ?_⟩
    rintro m s t ⟨q, rfl, hq, rfl, hs⟩
    refine ⟨fun g5 => ?_, fun g5 => ?_⟩
    · have e5 : q = 5 := by
        have := (nI_leI (a := 5) (by omega) (by omega)).mp g5
        omega
      subst e5
      refine ⟨fun v => (∃ p, p < j + 1 ∧ sameN (nmA c p) (nmA c i) ∧ v = nI p) ∨ ((∀ p, p < j + 1 → ¬ sameN (nmA c p) (nmA c i)) ∧ v = -1), fun v hv => ⟨n - (j + 1), by omega, j + 1, rfl, by omega, (nI_succ j).symm, hv⟩, fun g0 => ?_, fun g0 => ?_⟩
      · rw [hs] at g0
        have hno : ¬ sameN (nmA c j) (nmA c i) := pI_eq0.mp g0
        rcases hy with ⟨p, h1, h2, h3⟩ | ⟨h1, h2⟩
        · exact Or.inl ⟨p, by omega, h2, h3⟩
        · refine Or.inr ⟨fun p hp => ?_, h2⟩
          by_cases e : p = j
          · rw [e]; exact hno
          · exact h1 p (by omega)
      · rw [hs] at g0
        have hyes : sameN (nmA c j) (nmA c i) := Classical.byContradiction (fun w => g0 (pI_f w))
        exact Or.inl ⟨j, by omega, hyes, rfl⟩
    · have hq5 : q < 5 := by
        rcases Nat.lt_or_ge q 5 with w | w
        · exact w
        · exact absurd (nI_le (a := 5) w (by omega)) g5
      rw [show (5 : Int32) = nI 5 from rfl, pk_mul, pk_mul, nI_add, nI_add, nI_clamp (show 5 * j + q < 2 ^ 31 by omega), nI_clamp (show 5 * i + q < 2 ^ 31 by omega)]
      refine ⟨fun v => v = pI (∀ p, p < q + 1 → nmA c j p = nmA c i p), fun v hv => ⟨5 - (q + 1), by omega, q + 1, rfl, by omega, (nI_succ q).symm, hv⟩, ¬ (∀ p, p < q + 1 → nmA c j p = nmA c i p), fun hno => (pI_f hno).symm, fun g0 => ?_, fun g0 => ⟨mk_a.2.2.2.1, vp_in_nI (by omega) (by decide), vp_in_nI (by omega) (by decide), fun g1 => ?_, fun g1 => ?_⟩⟩
      · rw [hs] at g0
        exact fun w => pI_eq0.mp g0 (fun p hp => w p (by omega))
      · exact fun w => g1 (w q (by omega))
      · rw [hs] at g0
        have hyes : ∀ p, p < q → nmA c j p = nmA c i p := Classical.byContradiction (fun w => g0 (pI_f w))
        refine (pI_t (fun p hp => ?_)).symm
        by_cases e : p = q
        · rw [e]; exact g1
        · exact hyes p (by omega)
def cpB (f : Nat → Int32) (s d n : Nat) : Nat → Int32 := fun q => if d ≤ q ∧ q < d + n then f (s + (q - d)) else f q
theorem cpB_0 {f : Nat → Int32} {s d : Nat} : cpB f s d 0 = f := by
  funext q
  unfold cpB
  rw [if_neg (by omega)]
theorem cpB_step {f : Nat → Int32} {a b w j : Nat} (hj : j < w) : (fun q => if q = w * b + j then cpB f (w * a) (w * b) j (w * a + j) else cpB f (w * a) (w * b) j q) = cpB f (w * a) (w * b) (j + 1) := by
  have hv : cpB f (w * a) (w * b) j (w * a + j) = f (w * a + j) := by
    unfold cpB
    by_cases e : a = b
    · subst e
      rw [if_neg (by omega)]
    · rcases Nat.lt_or_gt_of_ne e with g | g
      · have : w * (a + 1) ≤ w * b := Nat.mul_le_mul_left w g
        rw [Nat.mul_add, Nat.mul_one] at this
        rw [if_neg (by omega)]
      · have : w * (b + 1) ≤ w * a := Nat.mul_le_mul_left w g
        rw [Nat.mul_add, Nat.mul_one] at this
        rw [if_neg (by omega)]
  funext q
  rw [hv]
  unfold cpB
  by_cases e : q = w * b + j
  · rw [if_pos e, if_pos (by omega), e, Nat.add_sub_cancel_left]
  · rw [if_neg e]
    by_cases e2 : w * b ≤ q ∧ q < w * b + j
    · rw [if_pos e2, if_pos (by omega)]
    · rw [if_neg e2, if_neg (by omega)]
def cpS (c : cM) (a b : Nat) : cM := c_row (c_row (c_up (c_up c 177 b (c 177 a)) 178 b (c 178 a)) 179 (cpB (c 179) (120 * a) (120 * b) 120)) 180 (cpB (c 180) (5 * a) (5 * b) 5)
theorem m_copy {c : cM} {a b : Nat} {K : cM → Prop} (ha : a < 33) (hb : b < 33) (hk : K (cpS c a b)) : f_Mo_copy 176 (nI a) (nI b) c K := by
  unfold f_Mo_copy
  rw [mk_k.2.1, mk_k.2.2.1, mk_k.2.2.2.1, mk_k.2.2.2.2.1, mk_l.1, mk_l.2.1, mk_l.2.2.1, mk_l.2.2.2.1, nI_clamp (show a < 2 ^ 31 by omega), nI_clamp (show b < 2 ^ 31 by omega)]
  refine ⟨mk_k.1, mk_a.1, vp_in_nI ha (by decide), vp_in_nI hb (by decide), fun c5 e5 => ⟨mk_a.2.1, vp_in_nI ha (by decide), vp_in_nI hb (by decide), fun c9 e9 => ?_⟩⟩
  have g178 : c5 178 a = c 178 a := by rw [e5, c_up_ne (by decide)]
  rw [g178, e5] at e9
  have g9 : c9 179 = c 179 := by rw [e9, c_up_ne (by decide), c_up_ne (by decide)]
  have h9 : c9 180 = c 180 := by rw [e9, c_up_ne (by decide), c_up_ne (by decide)]
  refine ⟨fun m y c' => ∃ j, m = 120 - j ∧ j ≤ 120 ∧ y = nI j ∧ c' = c_row c9 179 (cpB (c 179) (120 * a) (120 * b) j), ⟨120, 0, rfl, Nat.zero_le _, rfl, by rw [cpB_0, ← g9]; exact c_row_id.symm⟩, ?_⟩
  rintro m y c15 ⟨j, rfl, hj, rfl, rfl⟩
  refine ⟨fun g => ?_, fun g => ?_⟩
  · have ej : j = 120 := by
      have := (nI_leI (a := 120) (by omega) (by omega)).mp g
      omega
    subst ej
    refine ⟨fun m y c' => ∃ q, m = 5 - q ∧ q ≤ 5 ∧ y = nI q ∧ c' = c_row (c_row c9 179 (cpB (c 179) (120 * a) (120 * b) 120)) 180 (cpB (c 180) (5 * a) (5 * b) q), ⟨5, 0, rfl, Nat.zero_le _, rfl, ?_⟩, ?_⟩
    · rw [cpB_0 (f := c 180), ← h9]
      have : c9 180 = c_row c9 179 (cpB (c 179) (120 * a) (120 * b) 120) 180 := (c_row_ne (by decide)).symm
      rw [this]
      exact c_row_id.symm
    · rintro m y c22 ⟨q, rfl, hq, rfl, rfl⟩
      refine ⟨fun g5 => ?_, fun g5 => ?_⟩
      · have e5' : q = 5 := by
          have := (nI_leI (a := 5) (by omega) (by omega)).mp g5
          omega
        subst e5'
        rw [e9]
        exact hk
      · have hq5 : q < 5 := by
          rcases Nat.lt_or_ge q 5 with w | w
          · exact w
          · exact absurd (nI_le (a := 5) w (by omega)) g5
        rw [show (5 : Int32) = nI 5 from rfl, pk_mul, pk_mul, nI_add, nI_add, nI_clamp (show 5 * a + q < 2 ^ 31 by omega), nI_clamp (show 5 * b + q < 2 ^ 31 by omega)]
        refine ⟨mk_a.2.2.2.1, vp_in_nI (by omega) (by decide), vp_in_nI (by omega) (by decide), fun c27 e27 => ⟨5 - (q + 1), by omega, q + 1, rfl, by omega, (nI_succ q).symm, ?_⟩⟩
        rw [e27, c_up_row, c_row_self, c_row_row, cpB_step hq5]
  · have hj120 : j < 120 := by
      rcases Nat.lt_or_ge j 120 with w | w
      · exact w
      · exact absurd (nI_le (a := 120) w (by omega)) g
    rw [show (120 : Int32) = nI 120 from rfl, pk_mul, pk_mul, nI_add, nI_add, nI_clamp (show 120 * a + j < 2 ^ 31 by omega), nI_clamp (show 120 * b + j < 2 ^ 31 by omega)]
    refine ⟨mk_a.2.2.1, vp_in_nI (by omega) (by decide), vp_in_nI (by omega) (by decide), fun c31 e31 => ⟨120 - (j + 1), by omega, j + 1, rfl, by omega, (nI_succ j).symm, ?_⟩⟩
    rw [e31, c_up_row, c_row_self, c_row_row, cpB_step hj120]
theorem m_begin {c : cM} {k : Int32} {K : cM → Prop} (hk : ∀ c', c' = c_up (c_up c 177 32 k) 178 32 0 → K c') : f_Mo_begin 176 k c K := by
  have t32 : Int32.toNatClampNeg 32 = 32 := by decide
  unfold f_Mo_begin
  rw [mk_k.2.1, mk_k.2.2.1, mk_l.1, mk_l.2.1, t32]
  exact ⟨mk_k.1, mk_a.1, vin 32 32 33 rfl (by decide) (by decide), fun c4 e4 => ⟨mk_a.2.1, vin 32 32 33 rfl (by decide) (by decide), fun c7 e7 => hk c7 (by rw [e7, e4])⟩⟩
/-- what adding to slot 32 leaves -/
def Fa (c c' : cM) : Prop := (∀ a, a ≠ 178 → a ≠ 179 → c' a = c a) ∧ (∀ i, i ≠ 32 → c' 178 i = c 178 i) ∧ ∀ q, q < 3840 → c' 179 q = c 179 q
theorem Fa.rf (c : cM) : Fa c c := ⟨fun _ _ _ => rfl, fun _ _ => rfl, fun _ _ => rfl⟩
theorem Fa.tr {c c' c'' : cM} (h : Fa c c') (g : Fa c' c'') : Fa c c'' := ⟨fun a h1 h2 => (g.1 a h1 h2).trans (h.1 a h1 h2), fun i hi => (g.2.1 i hi).trans (h.2.1 i hi), fun q hq => (g.2.2 q hq).trans (h.2.2 q hq)⟩
theorem m_add {c : cM} {k x : Int32} {L : List Int32} {K : cM → Prop} (h : slC c 32 k L) (hl : L.length < 120) (hk : ∀ c', slC c' 32 k (L ++ [x]) → Fa c c' → K c') : f_Mo_add 176 x c K := by
  have t32 : Int32.toNatClampNeg 32 = 32 := by decide
  obtain ⟨s1, s2, s3⟩ := h
  unfold f_Mo_add
  rw [mk_k.2.2.1, mk_k.2.2.2.1, mk_l.2.1, mk_l.2.2.1, t32, s2, show (3840 : Int32) = nI 3840 from rfl, nI_add, nI_clamp (show 3840 + L.length < 2 ^ 31 by omega)]
  refine ⟨mk_k.1, mk_a.2.1, vin 32 32 33 rfl (by decide) (by decide), mk_a.2.2.1, vp_in_nI (by omega) (by decide), fun c6 e6 c7 e7 => hk c7 ⟨?_, ?_, fun j hj => ?_⟩ ⟨fun a h1 h2 => ?_, fun i hi => ?_, fun q hq => ?_⟩⟩
  · rw [e7, c_up_ne (by decide), e6, c_up_ne (by decide)]; exact s1
  · rw [e7, c_up_self, e6, c_up_ne (by decide), s2, List.length_append, List.length_singleton, ← nI_succ]
  · rw [List.length_append, List.length_singleton] at hj
    rw [e7, c_up_ne (by decide), e6]
    by_cases ej : j = L.length
    · subst ej
      rw [show 120 * 32 + L.length = 3840 + L.length by omega, c_up_self, gd_app2 (Nat.le_refl _), Nat.sub_self]
      rfl
    · rw [c_up_at (by omega), gd_app (by omega)]
      exact s3 j (by omega)
  · rw [e7, c_up_ne h1, e6, c_up_ne h2]
  · rw [e7, c_up_at hi, e6, c_up_ne (by decide)]
  · rw [e7, c_up_ne (by decide), e6, c_up_at (by omega)]
