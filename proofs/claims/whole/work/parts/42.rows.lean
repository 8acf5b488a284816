noncomputable def pI (P : Prop) : Int32 := @ite Int32 P (Classical.propDecidable P) 1 0
theorem pI_t {P : Prop} (h : P) : pI P = 1 := by unfold pI; rw [if_pos h]
theorem pI_f {P : Prop} (h : ¬ P) : pI P = 0 := by unfold pI; rw [if_neg h]
theorem pI_iff {P Q : Prop} (h : P ↔ Q) : pI P = pI Q := by rw [show P = Q from propext h]
theorem pI_bz (P : Prop) : bz (pI P) := by
  rcases Classical.em P with h | h
  · rw [pI_t h]; exact Or.inr rfl
  · rw [pI_f h]; exact Or.inl rfl
theorem pI_eq0 {P : Prop} : pI P = 0 ↔ ¬ P := by
  rcases Classical.em P with h | h
  · rw [pI_t h]; exact ⟨fun e => absurd e (by decide), fun e => absurd h e⟩
  · rw [pI_f h]; exact ⟨fun _ => h, fun _ => rfl⟩
/-- decimal digits from 10^(k-1) down, without the zeros ahead -/
def dcs (n : Nat) : Nat → List Int32
  | 0 => []
  | k + 1 => (if 10 ^ k ≤ n ∨ k = 0 then [nI (48 + n / 10 ^ k % 10)] else []) ++ dcs n k
theorem p10_lt {k : Nat} (h : k ≤ 9) : 10 ^ k < 2 ^ 31 := by
  have h1 : ∀ k, k < 10 → 10 ^ k < 2 ^ 31 := by decide
  exact h1 k (by omega)
theorem p10_pos (k : Nat) : 0 < 10 ^ k := Nat.pow_pos (by decide)
theorem dg_eq {n k : Nat} (hn : n < 2 ^ 31) (hk : k ≤ 9) : (48 : Int32) + c_rem (nI n / nI (10 ^ k)) 10 = nI (48 + n / 10 ^ k % 10) := by
  have h1 := p10_lt hk
  have h2 := p10_pos k
  have h3 : n / 10 ^ k ≤ n := Nat.div_le_self _ _
  unfold c_rem
  rw [pk_div hn h2 h1, show (10 : Int32) = nI 10 from rfl, pk_rem (by omega) (by decide) (by decide), show (48 : Int32) = nI 48 from rfl, nI_add]
theorem s_putDec {c : cM} {ρ : Nat → List Int32} {γ : cM} {r n : Nat} {K : cM → Prop} (h : Rep c ρ γ) (hr : kd r = 1) (hn : n < 2 ^ 31) (hl : (ρ r).length + (dcs n 10).length ≤ ln (r + 1)) (hk : ∀ c', Rep c' (fu ρ r (ρ r ++ dcs n 10)) γ → K c') : f_Row_putDecimal r (nI n) c K := by
  unfold f_Row_putDecimal
  refine ⟨fun m y c' => ∃ (A : List Int32), (m = 0 ∧ y = 0 ∨ ∃ k, m = k + 1 ∧ k ≤ 9 ∧ y = nI (10 ^ k)) ∧ m ≤ 10 ∧ A ++ dcs n m = ρ r ++ dcs n 10 ∧ Rep c' (fu ρ r A) γ, ⟨10, ρ r, Or.inr ⟨9, rfl, Nat.le_refl _, rfl⟩, Nat.le_refl _, rfl, by rw [fu_id]; exact h⟩, ?_⟩
  rintro m y c' ⟨A, hm, hm10, hA, hR⟩
  have hlen : A.length + (dcs n m).length = (ρ r).length + (dcs n 10).length := by
    have := congrArg List.length hA
    rw [List.length_append, List.length_append] at this
    exact this
  rcases hm with ⟨rfl, rfl⟩ | ⟨k, rfl, hk9, rfl⟩
  · refine ⟨fun _ => hk c' ?_, fun h1 => absurd (by decide) h1⟩
    rw [dcs, List.append_nil] at hA
    rw [← hA]
    exact hR
  · have h1 := p10_lt hk9
    have h2 := p10_pos k
    have hdiv : nI (10 ^ k) / 10 = nI (10 ^ k / 10) := by rw [show (10 : Int32) = nI 10 from rfl, pk_div h1 (by decide) (by decide)]
    have hnext : (k = 0 ∧ nI (10 ^ k) / 10 = 0 ∨ ∃ k', k = k' + 1 ∧ k' ≤ 9 ∧ nI (10 ^ k) / 10 = nI (10 ^ k')) := by
      rcases k with _ | k
      · left
        exact ⟨rfl, by decide⟩
      · right
        refine ⟨k, rfl, by omega, ?_⟩
        rw [hdiv, Nat.pow_succ, Nat.mul_div_cancel _ (by decide)]
    refine ⟨fun h3 => absurd h3 (nI_nle h2 h1), fun _ => ?_⟩
    by_cases hd : 10 ^ k ≤ n ∨ k = 0
    · have e1 : dcs n (k + 1) = [nI (48 + n / 10 ^ k % 10)] ++ dcs n k := by rw [dcs, if_pos hd]
      rw [e1] at hA hlen
      rw [List.length_append, List.length_singleton] at hlen
      refine ⟨fun c2 => Rep c2 (fu ρ r (A ++ [nI (48 + n / 10 ^ k % 10)])) γ, fun c2 h4 => ⟨k, by omega, A ++ [nI (48 + n / 10 ^ k % 10)], hnext, by omega, by rw [List.append_assoc]; exact hA, h4⟩, True, fun _ => ⟨nI_ne0 h2 h1, hr, ?_⟩, fun _ => trivial, fun h5 => ⟨fun h6 => ?_, fun _ => trivial⟩⟩
      · refine s_put hR hr (by rw [fu_self]; omega) (fun c2 h4 => ?_)
        rw [fu_self, fu_fu, dg_eq hn hk9] at h4
        exact h4
      · rcases hd with hd | hd
        · exact absurd (nI_le hd hn) h5
        · subst hd
          exact absurd rfl h6
    · have e1 : dcs n (k + 1) = dcs n k := by rw [dcs, if_neg hd, List.nil_append]
      rw [e1] at hA
      refine ⟨fun c2 => c2 = c', fun c2 h4 => ⟨k, by omega, A, hnext, by omega, hA, by rw [h4]; exact hR⟩, False, fun h => h.elim, fun h5 => ?_, fun h5 => ⟨fun _ => rfl, fun h6 => ?_⟩⟩
      · exact hd (Or.inl ((nI_leI h1 hn).mp h5))
      · have h7 : 10 ^ k = 1 := by
          have h8 := congrArg Int32.toNatClampNeg h6
          rw [nI_clamp h1] at h8
          exact h8
        refine hd (Or.inr ?_)
        rcases k with _ | k
        · rfl
        · rw [Nat.pow_succ] at h7
          have := p10_pos k
          omega
theorem s_putPart {c : cM} {ρ : Nat → List Int32} {γ : cM} {r q a b : Nat} {K : Int32 → cM → Prop} (h : Rep c ρ γ) (hr : kd r = 1) (hq : kd q = 1) (hne : q ≠ r) (ha : a < 100000) (hb : b < 100000) (h1 : a + b ≤ (ρ q).length → (ρ r).length + b ≤ ln (r + 1) → ∀ c', Rep c' (fu ρ r (ρ r ++ ((ρ q).drop a).take b)) γ → K 1 c') (h0 : ¬ (a + b ≤ (ρ q).length ∧ (ρ r).length + b ≤ ln (r + 1)) → K 0 c) : f_Row_putPart r q (nI a) (nI b) c K := by
  obtain ⟨k1, k2, k3⟩ := row_k hr
  obtain ⟨w1, w2, w3⟩ := h.1 r hr
  obtain ⟨l1, l2, l3⟩ := row_k hq
  obtain ⟨v1, v2, v3⟩ := h.1 q hq
  unfold f_Row_putPart
  rw [k1, l1, w1, v1, nI_add, nI_add, nI_clamp (show a < 2 ^ 31 by omega), nI_clamp (show b < 2 ^ 31 by omega), nI_clamp (show (ρ r).length < 2 ^ 31 by omega)]
  refine ⟨fun h2 => absurd h2 (nI_pos (by omega)), fun _ => ⟨fun h2 => absurd h2 (nI_pos (by omega)), fun _ => ⟨hq, fun h2 => ?_, fun h2 => ⟨hr, k2, fun h3 => ?_, fun h3 => ?_⟩⟩⟩⟩
  · refine h0 (fun h3 => ?_)
    have := (nI_ltI (by omega) (by omega)).mp h2
    omega
  · have h4 : a + b ≤ (ρ q).length := by
      rcases Nat.lt_or_ge (ρ q).length (a + b) with g | g
      · exact absurd (nI_lt g (by omega)) h2
      · exact g
    have h5 : (ρ r).length + b ≤ ln (r + 1) := (nI_leI (by omega) (by omega)).mp h3
    refine ⟨nI_pos (by omega), nI_pos (by omega), nI_pos (by omega), by omega, h5, l2, fun c2 e2 c3 e3 => h1 h4 h5 c3 ?_⟩
    have n1 : q + 1 ≠ r + 1 := by omega
    refine h.row hr (fun z n1 n2 => by rw [e3, c_up_ne n1, e2, c_row_ne n2]) ⟨?_, ?_, fun j hj => ?_⟩
    · rw [e3, c_up_self, e2, c_row_ne (by omega), w1, nI_add, List.length_append, List.length_take, List.length_drop]
      congr 1
      omega
    · rw [List.length_append, List.length_take, List.length_drop]
      omega
    · rw [List.length_append, List.length_take, List.length_drop] at hj
      rw [e3, c_up_ne (by omega), e2, c_row_self]
      unfold c_cp
      by_cases hj2 : j < (ρ r).length
      · rw [if_neg (by omega), gd_app hj2]
        exact w3 j hj2
      · rw [if_pos (by omega), gd_app2 (by omega), v3 _ (by omega), List.getD_eq_getElem?_getD, List.getD_eq_getElem?_getD, List.getElem?_take_of_lt (by omega), List.getElem?_drop]
  · refine h0 (fun h4 => h3 (nI_le h4.2 (by omega)))
theorem s_putPart0 {c : cM} {r q : Nat} {x y : Int32} {K : Int32 → cM → Prop} (hx : x < 0 ∨ y < 0) (h0 : K 0 c) : f_Row_putPart r q x y c K := by
  unfold f_Row_putPart
  refine ⟨fun _ => h0, fun h1 => ⟨fun _ => h0, fun h2 => ?_⟩⟩
  rcases hx with hx | hx
  · exact absurd hx h1
  · exact absurd hx h2
/-- four bytes as an int, the highest first -/
def be4 (f : Nat → Int32) (i : Nat) : Int32 := ((c_shl (f i) 24 ||| c_shl (f (i + 1)) 16) ||| c_shl (f (i + 2)) 8) ||| f (i + 3)
def gL (L : List Int32) : Nat → Int32 := fun j => L.getD j 0
theorem s_intAt {c : cM} {ρ : Nat → List Int32} {γ : cM} {r i : Nat} {K : Int32 → cM → Prop} (h : Rep c ρ γ) (hr : kd r = 1) (hi : i < 100000) (hk : K (if i + 4 ≤ (ρ r).length then be4 (gL (ρ r)) i else 0) c) : f_Row_intAt r (nI i) c K := by
  obtain ⟨k1, k2, k3⟩ := row_k hr
  obtain ⟨w1, w2, w3⟩ := h.1 r hr
  unfold f_Row_intAt
  rw [k1, w1, show (4 : Int32) = nI 4 from rfl, show (3 : Int32) = nI 3 from rfl, show (2 : Int32) = nI 2 from rfl, show (1 : Int32) = nI 1 from rfl, nI_add, nI_add, nI_add, nI_add, nI_clamp (show i < 2 ^ 31 by omega), nI_clamp (show i + 1 < 2 ^ 31 by omega), nI_clamp (show i + 2 < 2 ^ 31 by omega), nI_clamp (show i + 3 < 2 ^ 31 by omega)]
  refine ⟨fun h2 => absurd h2 (nI_pos (by omega)), fun _ => ⟨hr, fun h2 => ⟨k2, ?_⟩, fun h2 => ?_⟩⟩
  · have h3 : i + 4 ≤ (ρ r).length := (nI_leI (by omega) (by omega)).mp h2
    rw [if_pos h3] at hk
    refine ⟨vp_in_nI (by omega) (by omega), vp_in_nI (by omega) (by omega), vp_in_nI (by omega) (by omega), vp_in_nI (by omega) (by omega), ?_⟩
    rw [w3 i (by omega), w3 (i + 1) (by omega), w3 (i + 2) (by omega), w3 (i + 3) (by omega)]
    exact hk
  · rw [if_neg (fun h3 => h2 (nI_le h3 (by omega)))] at hk
    exact hk
theorem i4 (n : Nat) : (4 : Int32) * nI n = nI (4 * n) := by
  rw [show (4 : Int32) = nI 4 from rfl, pk_mul]
def hasAt (L : List Int32) (i : Nat) (f : Nat → Int32) (n : Nat) : Prop := i + 4 * n ≤ L.length ∧ ∀ k, k < n → be4 (gL L) (i + 4 * k) = f k
theorem s_hasInts {c : cM} {ρ : Nat → List Int32} {γ : cM} {r a n i : Nat} {K : Int32 → cM → Prop} (h : Rep c ρ γ) (hr : kd r = 1) (ha : kd a = 100) (hn : ln a = n) (hn2 : n < 100) (hna : ¬ rc a) (hi : i < 90000) (hk : K (pI (hasAt (ρ r) i (γ a) n)) c) : f_Row_hasInts r (nI i) a c K := by
  obtain ⟨k1, k2, k3⟩ := row_k hr
  obtain ⟨w1, w2, w3⟩ := h.1 r hr
  unfold f_Row_hasInts
  rw [hn, w1, i4, nI_add]
  refine ⟨fun h2 => absurd h2 (nI_pos (by omega)), fun _ => ⟨ha, hr, fun h2 => ?_, fun h2 => ?_⟩⟩
  · have h3 : i + 4 * n ≤ (ρ r).length := (nI_leI (by omega) (by omega)).mp h2
    refine ⟨fun m y c' => ∃ j, m = n - j ∧ j ≤ n ∧ y = nI j ∧ c' = c ∧ ∀ k, k < j → be4 (gL (ρ r)) (i + 4 * k) = γ a k, ⟨n, 0, rfl, Nat.zero_le _, rfl, rfl, fun k hk => absurd hk (Nat.not_lt_zero _)⟩, ?_⟩
    rintro m y c' ⟨j, rfl, hj, rfl, rfl, hm⟩
    refine ⟨fun h4 => ?_, fun h4 => ?_⟩
    · have h5 : n ≤ j := (nI_leI (by omega) (by omega)).mp h4
      rw [pI_t ⟨h3, fun k hk => hm k (by omega)⟩] at hk
      exact hk
    · have h5 : j < n := by
        rcases Nat.lt_or_ge j n with g | g
        · exact g
        · exact absurd (nI_le g (by omega)) h4
      rw [i4, nI_add]
      refine s_intAt h hr (by omega) ?_
      rw [if_pos (by omega), nI_clamp (by omega), h.2 a hna]
      refine ⟨vp_in_nI h5 (by omega), fun h6 => ⟨n - (j + 1), by omega, j + 1, rfl, by omega, (nI_succ j).symm, rfl, fun k hk2 => ?_⟩, fun h6 => ?_⟩
      · by_cases e : k = j
        · rw [e]; exact h6
        · exact hm k (by omega)
      · rw [pI_f (fun h7 => h6 (h7.2 j h5))] at hk
        exact hk
  · rw [pI_f (fun h3 => h2 (nI_le h3.1 (by omega)))] at hk
    exact hk
theorem s_hasAny {c : cM} {ρ : Nat → List Int32} {γ : cM} {r a n : Nat} {K : Int32 → cM → Prop} (h : Rep c ρ γ) (hr : kd r = 1) (ha : kd a = 100) (hn : ln a = n) (hn2 : n < 100) (hna : ¬ rc a) (hk : K (pI (∃ p, hasAt (ρ r) p (γ a) n)) c) : f_Row_hasIntsAnywhere r a c K := by
  obtain ⟨k1, k2, k3⟩ := row_k hr
  obtain ⟨w1, w2, w3⟩ := h.1 r hr
  unfold f_Row_hasIntsAnywhere
  rw [hn, i4]
  refine ⟨fun m y c' => ∃ j, m + j = 5000 ∧ j ≤ (ρ r).length + 1 ∧ y = nI j ∧ c' = c ∧ ∀ p, p < j → ¬ hasAt (ρ r) p (γ a) n, ⟨5000, 0, rfl, Nat.zero_le _, rfl, rfl, fun k hk => absurd hk (Nat.not_lt_zero _)⟩, ?_⟩
  rintro m y c' ⟨j, hm, hj, rfl, rfl, hno⟩
  rw [w1, nI_add]
  refine ⟨ha, hr, fun h2 => ?_, fun h2 => ?_⟩
  · have h3 : (ρ r).length < j + 4 * n := (nI_ltI (by omega) (by omega)).mp h2
    have h4 : ¬ ∃ p, hasAt (ρ r) p (γ a) n := by
      rintro ⟨p, hp⟩
      rcases Nat.lt_or_ge p j with g | g
      · exact hno p g hp
      · have := hp.1
        omega
    rw [pI_f h4] at hk
    exact hk
  · have h3 : j + 4 * n ≤ (ρ r).length := by
      rcases Nat.lt_or_ge (ρ r).length (j + 4 * n) with g | g
      · exact absurd (nI_lt g (by omega)) h2
      · exact g
    refine s_hasInts h hr ha hn hn2 hna (by omega) ⟨fun h4 => ⟨m - 1, by omega, j + 1, by omega, by omega, (nI_succ j).symm, rfl, fun p hp => ?_⟩, fun h4 => ?_⟩
    · by_cases e : p = j
      · rw [e]; exact pI_eq0.mp h4
      · exact hno p (by omega)
    · have h5 : hasAt (ρ r) j (γ a) n := Classical.byContradiction (fun h6 => h4 (pI_f h6))
      rw [pI_t ⟨j, h5⟩] at hk
      exact hk
