/-- n bytes from place k on, the lowest first -/
def lb (x : Int32) (k : Nat) : Nat → List Int32
  | 0 => []
  | n + 1 => (c_ushr x (nI (8 * k)) &&& 255) :: lb x (k + 1) n
theorem lb_len (x : Int32) : ∀ n k, (lb x k n).length = n
  | 0, _ => rfl
  | n + 1, k => by show (lb x (k + 1) n).length + 1 = n + 1; rw [lb_len x n]
theorem s_putLow {c : cM} {ρ : Nat → List Int32} {γ : cM} {r : Nat} {x : Int32} {n : Nat} {K : cM → Prop} (h : Rep c ρ γ) (hr : kd r = 1) (hn : n < 100) (hl : (ρ r).length + n ≤ ln (r + 1)) (hk : ∀ c', Rep c' (fu ρ r (ρ r ++ lb x 0 n)) γ → K c') : f_Row_putLowFirst r x (nI n) c K := by
  unfold f_Row_putLowFirst
  refine ⟨fun m y c' => ∃ (j : Nat) (A : List Int32), m = n - j ∧ j ≤ n ∧ y = nI j ∧ A ++ lb x j (n - j) = ρ r ++ lb x 0 n ∧ Rep c' (fu ρ r A) γ, ⟨n, 0, ρ r, rfl, Nat.zero_le _, rfl, rfl, by rw [fu_id]; exact h⟩, ?_⟩
  rintro m y c' ⟨j, A, rfl, hj, rfl, hA, hR⟩
  have hlen : A.length + (n - j) = (ρ r).length + n := by
    have := congrArg List.length hA
    rw [List.length_append, List.length_append, lb_len, lb_len] at this
    exact this
  refine ⟨fun h1 => hk c' ?_, fun h1 => ⟨hr, ?_⟩⟩
  · have e : j = n := by
      rcases Nat.lt_or_ge j n with g | g
      · exact absurd h1 (nI_ge g (by omega))
      · omega
    subst e
    rw [Nat.sub_self, lb, List.append_nil] at hA
    rw [← hA]
    exact hR
  · have hlt : j < n := by
      rcases Nat.lt_or_ge j n with g | g
      · exact g
      · exact absurd (nI_le g (by omega)) h1
    refine s_put hR hr (by rw [fu_self]; omega) (fun c2 h2 => ⟨n - (j + 1), by omega, j + 1, A ++ [c_ushr x (nI (8 * j)) &&& 255], rfl, by omega, (nI_succ j).symm, ?_, ?_⟩)
    · rw [List.append_assoc, ← hA]
      congr 1
      rw [show n - j = (n - (j + 1)) + 1 by omega]
      rfl
    · rw [fu_self, fu_fu, i8] at h2
      exact h2
/-- the bytes of m ints from place k on -/
def ib (f : Nat → Int32) (k : Nat) : Nat → List Int32
  | 0 => []
  | m + 1 => hb (f k) 4 ++ ib f (k + 1) m
theorem ib_len (f : Nat → Int32) : ∀ m k, (ib f k m).length = 4 * m
  | 0, _ => rfl
  | m + 1, k => by
    show (hb (f k) 4 ++ ib f (k + 1) m).length = _
    rw [List.length_append, hb_len, ib_len f m]
    omega
theorem s_putInts {c : cM} {ρ : Nat → List Int32} {γ : cM} {r a n : Nat} {K : cM → Prop} (h : Rep c ρ γ) (hr : kd r = 1) (ha : kd a = 100) (hn : ln a = n) (hn2 : n < 100) (hna : ¬ rc a) (hl : (ρ r).length + 4 * n ≤ ln (r + 1)) (hk : ∀ c', Rep c' (fu ρ r (ρ r ++ ib (γ a) 0 n)) γ → K c') : f_Row_putInts r a c K := by
  unfold f_Row_putInts
  rw [hn]
  refine ⟨fun m y c' => ∃ (j : Nat) (A : List Int32), m = n - j ∧ j ≤ n ∧ y = nI j ∧ A ++ ib (γ a) j (n - j) = ρ r ++ ib (γ a) 0 n ∧ Rep c' (fu ρ r A) γ, ⟨n, 0, ρ r, rfl, Nat.zero_le _, rfl, rfl, by rw [fu_id]; exact h⟩, ?_⟩
  rintro m y c' ⟨j, A, rfl, hj, rfl, hA, hR⟩
  have hlen : A.length + 4 * (n - j) = (ρ r).length + 4 * n := by
    have := congrArg List.length hA
    rw [List.length_append, List.length_append, ib_len, ib_len] at this
    exact this
  refine ⟨ha, fun h1 => hk c' ?_, fun h1 => ?_⟩
  · have e : j = n := by
      rcases Nat.lt_or_ge j n with g | g
      · exact absurd h1 (nI_ge g (by omega))
      · omega
    subst e
    rw [Nat.sub_self, ib, List.append_nil] at hA
    rw [← hA]
    exact hR
  · have hlt : j < n := by
      rcases Nat.lt_or_ge j n with g | g
      · exact g
      · exact absurd (nI_le g (by omega)) h1
    refine ⟨vp_in_nI hlt (by omega), hr, ?_⟩
    rw [nI_clamp (by omega), hR.2 a hna]
    refine s_putHigh (n := 4) hR hr (by decide) (by rw [fu_self]; omega) (fun c2 h2 => ⟨n - (j + 1), by omega, j + 1, A ++ hb (γ a j) 4, rfl, by omega, (nI_succ j).symm, ?_, ?_⟩)
    · rw [List.append_assoc, ← hA]
      congr 1
      rw [show n - j = (n - (j + 1)) + 1 by omega]
      rfl
    · rw [fu_self, fu_fu] at h2
      exact h2
theorem s_coder {i : Nat} {c : cM} {K : Int32 → cM → Prop} (hi : kd i = 200) (hk : K 0 c) : f_JStr_coder i c K := by
  unfold f_JStr_coder
  refine ⟨fun h1 => absurd h1 (by decide), fun _ => ⟨hi, ?_⟩⟩
  exact ⟨by decide, hk⟩
theorem s_length {i : Nat} {c : cM} {K : Int32 → cM → Prop} (hi : kd i = 200) (hl : kd (rf i 0) = 201) (hln : ln (rf i 0) < 100) (hk : K (nI (ln (rf i 0))) c) : f_JStr_length i c K := by
  unfold f_JStr_length
  refine ⟨hi, hl, s_coder hi ?_⟩
  have e : c_shr (nI (ln (rf i 0))) 0 = nI (ln (rf i 0)) := by
    unfold c_shr
    rw [show (0 : Int32) &&& 31 = 0 from by decide, pk_shrN (by omega) 0 0 (by decide), Nat.pow_zero, Nat.div_one]
  rw [e]
  exact hk
theorem s_isLatin1 {i : Nat} {c : cM} {K : Int32 → cM → Prop} (hi : kd i = 200) (hk : K 1 c) : f_JStr_isLatin1 i c K := by
  unfold f_JStr_isLatin1
  refine ⟨fun h1 => absurd h1 (by decide), fun _ => ⟨hi, fun h1 => absurd rfl h1, fun _ => hk⟩⟩
def txO (i : Nat) : List Int32 := oB.getD (i - 3) []
theorem tx_ok : ∀ i, i < c_N → kd i = 200 → (kd (rf i 0) = 201 ∧ ln (rf i 0) < 100 ∧ (txO i).length = ln (rf i 0) ∧ ∀ j, j < ln (rf i 0) → (c_i2c (oc (rf i 0) j &&& 255) = (txO i).getD j 0 ∧ narrow .char (.int ((txO i).getD j 0)) = .int ((txO i).getD j 0))) := by decide +kernel
theorem s_charAt {i j : Nat} {c : cM} {K : Int32 → cM → Prop} (hi : kd i = 200) (hj : j < ln (rf i 0)) (hk : K ((txO i).getD j 0) c) : f_JStr_charAt i (nI j) c K := by
  obtain ⟨t1, t2, t3, t4⟩ := tx_ok i (kd_lt (by omega)) hi
  obtain ⟨t5, t6⟩ := t4 j hj
  unfold f_JStr_charAt
  refine ⟨hi, s_isLatin1 hi ⟨fun h1 => absurd h1 (by decide), fun _ => ?_⟩⟩
  unfold f_JLat_charAt
  refine ⟨t1, ⟨nI_pos (by omega), nI_lt hj (by omega), vp_in_nI hj (by omega), ?_⟩⟩
  rw [nI_clamp (by omega), t5]
  exact ⟨t6, t6, hk⟩
theorem s_putText {c : cM} {ρ : Nat → List Int32} {γ : cM} {r i : Nat} {K : cM → Prop} (h : Rep c ρ γ) (hr : kd r = 1) (hi : kd i = 200) (hl : (ρ r).length + (txO i).length ≤ ln (r + 1)) (hk : ∀ c', Rep c' (fu ρ r (ρ r ++ txO i)) γ → K c') : f_Row_putText r i c K := by
  obtain ⟨t1, t2, t3, t4⟩ := tx_ok i (kd_lt (by omega)) hi
  unfold f_Row_putText
  refine ⟨fun m y c' => ∃ j, m = (txO i).length - j ∧ j ≤ (txO i).length ∧ y = nI j ∧ Rep c' (fu ρ r (ρ r ++ (txO i).take j)) γ, ⟨_, 0, rfl, Nat.zero_le _, rfl, by rw [List.take_zero, List.append_nil, fu_id]; exact h⟩, ?_⟩
  rintro m y c' ⟨j, rfl, hj, rfl, hR⟩
  refine ⟨hi, s_length hi t1 t2 ⟨fun h1 => hk c' ?_, fun h1 => ?_⟩⟩
  · have e : j = (txO i).length := by
      rcases Nat.lt_or_ge j (txO i).length with g | g
      · exact absurd h1 (nI_ge (by omega) (by omega))
      · omega
    rw [e, List.take_length] at hR
    exact hR
  · have hlt : j < (txO i).length := by
      rcases Nat.lt_or_ge j (txO i).length with g | g
      · exact g
      · exact absurd (nI_le (by omega) (by omega)) h1
    refine s_charAt hi (by omega) ⟨hr, s_put hR hr (by rw [fu_self, List.length_append, List.length_take]; omega) (fun c2 h2 => ⟨(txO i).length - (j + 1), by omega, j + 1, rfl, by omega, (nI_succ j).symm, ?_⟩)⟩
    rw [fu_self, fu_fu, List.append_assoc] at h2
    have e2 : (txO i).take j ++ [(txO i).getD j 0] = (txO i).take (j + 1) := by
      rw [List.take_succ, List.getD_eq_getElem?_getD, List.getElem?_eq_getElem hlt]
      rfl
    rw [e2] at h2
    exact h2
