theorem take_snoc {L : List Int32} {j : Nat} (h : j < L.length) : L.take (j + 1) = L.take j ++ [L.getD j 0] := by
  rw [List.take_succ, List.getD_eq_getElem?_getD, List.getElem?_eq_getElem h]
  rfl
theorem s_takeRow {c : cM} {ρ : Nat → List Int32} {γ : cM} {S : sS} {r n : Nat} {K : cM → Prop} (h : Rep c ρ (gs γ S)) (hr : kd r = 1) (ht : S.2.2 < 50000) (hn : n < 100000) (hk : ∀ c', Rep c' ρ (gs γ (((ρ r).take n).foldl tk S)) → K c') : f_Sum_takeRow 93 r (nI n) c K := by
  obtain ⟨k1, k2, k3⟩ := row_k hr
  have hl0 := (h.1 r hr).2.1
  have q0 : kd 93 = 2 := by decide +kernel
  unfold f_Sum_takeRow
  rw [k1]
  refine ⟨fun m y c' => ∃ j, m + j = 5000 ∧ j ≤ (ρ r).length ∧ j ≤ n ∧ y = nI j ∧ Rep c' ρ (gs γ (((ρ r).take j).foldl tk S)), ⟨5000, 0, rfl, Nat.zero_le _, Nat.zero_le _, rfl, by rw [List.take_zero]; exact h⟩, ?_⟩
  rintro m y c' ⟨j, hm, hj, hjn, rfl, hR⟩
  obtain ⟨w1, w2, w3⟩ := hR.1 r hr
  refine ⟨fun h1 => ?_, fun h1 => ⟨hr, fun h2 => ?_, fun h2 => ⟨k2, ?_⟩⟩⟩
  · have h3 : n ≤ j := (nI_leI (by omega) (by omega)).mp h1
    have e : j = n := by omega
    subst e
    exact hk c' hR
  · rw [w1] at h2
    have h3 : (ρ r).length ≤ j := (nI_leI (by omega) (by omega)).mp h2
    rw [List.take_of_length_le (by omega)] at hR hk
    exact hk c' hR
  · rw [w1] at h2
    have h3 : j < (ρ r).length := by
      rcases Nat.lt_or_ge j (ρ r).length with g | g
      · exact g
      · exact absurd (nI_le g (by omega)) h2
    have h4 : j < n := by
      rcases Nat.lt_or_ge j n with g | g
      · exact g
      · exact absurd (nI_le g (by omega)) h1
    rw [nI_clamp (by omega), w3 j h3]
    refine ⟨vp_in_nI (by omega) (by omega), q0, s_take hR (by rw [tks_t, List.length_take]; omega) (fun c2 h5 => ⟨m - 1, by omega, j + 1, by omega, by omega, by omega, (nI_succ j).symm, ?_⟩)⟩
    rw [take_snoc h3, List.foldl_append]
    exact h5
def hF (H : Nat → Int32) : Nat → Int32 := fun j => if j < 5 then oc 1 j else H j
theorem s_begin {c : cM} {ρ : Nat → List Int32} {γ : cM} {K : cM → Prop} (h : Rep c ρ γ) (hk : ∀ c', Rep c' ρ (gs γ (hF (γ 94), γ 95, 0)) → K c') : f_Sum_begin 93 c K := by
  have r0 : rf 93 0 = 94 := by decide +kernel
  have q0 : kd 93 = 2 := by decide +kernel
  have q1 : kd 94 = 100 := by decide +kernel
  have q3 : kd 1 = 202 := by decide +kernel
  have l0 : ln 94 = 5 := by decide +kernel
  have l1 : ln 1 = 5 := by decide +kernel
  have n93 : ¬ rc 93 := nrc (by decide +kernel)
  have n94 : ¬ rc 94 := nrc (by decide +kernel)
  unfold f_Sum_begin
  rw [r0, l0, l1, tn0, tn5]
  refine ⟨q0, q1, by decide, by decide, q3, fun c6 e6 c7 e7 => hk c7 ?_⟩
  have u6 := h.cell n94 e6
  have u7 := u6.up n93 e7
  have e : c_up (c_row γ 94 (c_cp (oc 1) (c 94) 0 0 5)) 93 3 0 = gs γ (hF (γ 94), γ 95, 0) := by
    refine gs_ext ?_ ?_ ?_ ?_ ?_
    · rw [c_up_ne (by decide), c_row_self, h.2 94 n94]
      funext j
      show c_cp (oc 1) (γ 94) 0 0 5 j = hF (γ 94) j
      unfold c_cp hF
      by_cases hj : j < 5
      · rw [if_pos ⟨Nat.zero_le _, by omega⟩, if_pos hj, Nat.zero_add, Nat.sub_zero]
      · rw [if_neg (by omega), if_neg hj]
    · rw [c_up_ne (by decide), c_row_ne (by decide)]
    · rw [c_up_self]; rfl
    · intro k hk3
      rw [c_up_at hk3, c_row_ne (by decide)]
    · intro a ha
      rw [c_up_ne ha.1, c_row_ne ha.2.1]
  rw [e] at u7
  exact u7
def padT (t : Nat) : List Int32 := 128 :: (List.replicate ((120 - (t + 1) % 64) % 64) 0 ++ (List.replicate 4 0 ++ hb (nI (8 * t)) 4))
theorem rep_snoc (n : Nat) (S : sS) : (List.replicate (n + 1) (0 : Int32)).foldl tk S = tk ((List.replicate n 0).foldl tk S) 0 := by
  rw [List.replicate_succ', List.foldl_append]
  rfl
theorem s_end {c : cM} {ρ : Nat → List Int32} {γ : cM} {S : sS} {K : cM → Prop} (h : Rep c ρ (gs γ S)) (ht : S.2.2 < 50000) (hk : ∀ c', Rep c' ρ (gs γ ((padT S.2.2).foldl tk S)) → K c') : f_Sum_end 93 c K := by
  have q0 : kd 93 = 2 := by decide +kernel
  have n93 : ¬ rc 93 := nrc (by decide +kernel)
  have g93 : c 93 3 = nI S.2.2 := by rw [h.2 93 n93, gs_93]
  unfold f_Sum_end
  rw [g93, i8]
  generalize hz : (120 - (S.2.2 + 1) % 64) % 64 = z
  refine ⟨q0, s_take h (by omega) (fun c2 h2 => ?_)⟩
  have g2 : c2 93 3 = nI (S.2.2 + 1) := by rw [h2.2 93 n93, gs_93, tk_t]
  have ez : (120 - (c2 93 3 &&& 63)) &&& 63 = nI z := by
    rw [g2, and63 (by omega), show (120 : Int32) = nI 120 from rfl, pk_sub (by omega), and63 (by omega), hz]
  rw [ez]
  have hz64 : z < 64 := by omega
  refine ⟨fun j y c' => j ≤ z ∧ y = nI j ∧ Rep c' ρ (gs γ ((List.replicate (z - j) 0).foldl tk (tk S 128))), ⟨z, Nat.le_refl _, rfl, by rw [Nat.sub_self]; exact h2⟩, ?_⟩
  rintro j y c3 ⟨hj, rfl, hR⟩
  refine ⟨fun h3 => ?_, fun h3 => ?_⟩
  · have e0 : j = 0 := by
      rcases Nat.eq_zero_or_pos j with g | g
      · exact g
      · exact absurd h3 (nI_nle g (by omega))
    subst e0
    rw [Nat.sub_zero] at hR
    generalize hS1 : (List.replicate z 0).foldl tk (tk S 128) = S1 at hR
    have t1 : S1.2.2 = S.2.2 + 1 + z := by rw [← hS1, tks_t, tk_t, List.length_replicate]
    refine ⟨fun m y c' => ∃ i, m = 4 - i ∧ i ≤ 4 ∧ y = nI i ∧ Rep c' ρ (gs γ ((List.replicate i 0).foldl tk S1)), ⟨4, 0, rfl, Nat.zero_le _, rfl, hR⟩, ?_⟩
    rintro m y c4 ⟨i, rfl, hi, rfl, hR4⟩
    refine ⟨fun h4 => ?_, fun h4 => ?_⟩
    · have e4 : i = 4 := by
        have := (nI_leI (a := 4) (by omega) (by omega)).mp h4
        omega
      subst e4
      generalize hS2 : (List.replicate 4 0).foldl tk S1 = S2 at hR4
      have t2 : S2.2.2 = S.2.2 + 1 + z + 4 := by rw [← hS2, tks_t, t1, List.length_replicate]
      refine ⟨fun m y c' => ∃ (A : List Int32), m ≤ 4 ∧ y = nI (8 * m) - 8 ∧ A ++ hb (nI (8 * S.2.2)) m = hb (nI (8 * S.2.2)) 4 ∧ Rep c' ρ (gs γ (A.foldl tk S2)), ⟨4, [], Nat.le_refl _, by decide, rfl, hR4⟩, ?_⟩
      rintro m y c5 ⟨A, hm, rfl, hA, hR5⟩
      have hlen : A.length + m = 4 := by
        have := congrArg List.length hA
        rw [List.length_append, hb_len, hb_len] at this
        exact this
      cases m with
      | zero =>
        refine ⟨fun _ => hk c5 ?_, fun h5 => absurd (by decide) h5⟩
        rw [hb, List.append_nil] at hA
        unfold padT
        rw [hz, List.foldl_cons, List.foldl_append, List.foldl_append, hS1, hS2, ← hA]
        exact hR5
      | succ m =>
        have ey : nI (8 * (m + 1)) - 8 = nI (8 * m) := by
          rw [show (8 : Int32) = nI 8 from rfl, pk_sub (by omega)]
          congr 1
        rw [ey]
        refine ⟨fun h5 => absurd h5 (nI_pos (by omega)), fun _ => s_take hR5 (by rw [tks_t, t2]; omega) (fun c6 h6 => ⟨m, by omega, A ++ [c_ushr (nI (8 * S.2.2)) (nI (8 * m)) &&& 255], by omega, ?_, ?_, ?_⟩)⟩
        · rw [Int32.sub_eq_add_neg]
        · rw [List.append_assoc]
          exact hA
        · rw [List.foldl_append]
          exact h6
    · have h5 : i < 4 := by
        rcases Nat.lt_or_ge i 4 with g | g
        · exact g
        · exact absurd (nI_le (a := 4) g (by omega)) h4
      refine s_take hR4 (by rw [tks_t, t1, List.length_replicate]; omega) (fun c5 h6 => ⟨4 - (i + 1), by omega, i + 1, rfl, by omega, (nI_succ i).symm, ?_⟩)
      rw [rep_snoc]
      exact h6
  · rcases j with _ | j
    · exact absurd (by decide) h3
    · refine s_take hR (by rw [tks_t, tk_t, List.length_replicate]; omega) (fun c5 h6 => ⟨j, by omega, by omega, ?_, ?_⟩)
      · rw [nI_succ, Int32.add_assoc]
        rw [show (1 : Int32) + -1 = 0 from by decide, Int32.add_zero]
      · rw [show z - j = (z - (j + 1)) + 1 by omega, rep_snoc]
        exact h6
/-- the sum's state behind n bytes and their end, from the first state -/
def shS (H W : Nat → Int32) (B : List Int32) : sS := (padT B.length).foldl tk (B.foldl tk (hF H, W, 0))
theorem s_ofRow {c : cM} {ρ : Nat → List Int32} {γ : cM} {r n : Nat} {K : cM → Prop} (h : Rep c ρ γ) (hr : kd r = 1) (hn : n ≤ (ρ r).length) (hk : ∀ c', Rep c' ρ (gs γ (shS (γ 94) (γ 95) ((ρ r).take n))) → K c') : f_Sum_ofRow 93 r (nI n) c K := by
  obtain ⟨k1, k2, k3⟩ := row_k hr
  have hl0 := (h.1 r hr).2.1
  unfold f_Sum_ofRow
  refine ⟨by decide +kernel, s_begin h (fun c2 h2 => s_takeRow h2 hr (show 0 < 50000 by decide) (by omega) (fun c3 h3 => s_end h3 (by rw [tks_t, List.length_take]; show 0 + _ < _; omega) (fun c4 h4 => hk c4 ?_)))⟩
  have e : (((ρ r).take n).foldl tk (hF (γ 94), γ 95, 0)).2.2 = ((ρ r).take n).length := by rw [tks_t]; exact Nat.zero_add _
  rw [e] at h4
  exact h4
