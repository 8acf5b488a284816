theorem thing_k {t : Nat} (h : kd t = 3) : rf t 1 = t + 1 ∧ rf t 2 = t + 3 ∧ kd (t + 1) = 1 ∧ kd (t + 3) = 100 ∧ ln (t + 3) = 5 ∧ ln (t + 2) = 120 ∧ ¬ kd (t - 1) = 1 ∧ ¬ kd (t + 2) = 1 ∧ t + 1 ≠ 96 ∧ t + 1 ≠ 93 ∧ t + 3 ≠ 93 ∧ t + 3 ≠ 94 ∧ t + 3 ≠ 95 ∧ t ≠ 93 ∧ t ≠ 94 ∧ t ≠ 95 ∧ 18 < t ∧ t < 176 := by
  have h1 : ∀ t, t < c_N → kd t = 3 → rf t 1 = t + 1 ∧ rf t 2 = t + 3 ∧ kd (t + 1) = 1 ∧ kd (t + 3) = 100 ∧ ln (t + 3) = 5 ∧ ln (t + 2) = 120 ∧ ¬ kd (t - 1) = 1 := by decide +kernel
  have h2 : ∀ t, t < c_N → kd t = 3 → ¬ kd (t + 2) = 1 ∧ t + 1 ≠ 96 ∧ t + 1 ≠ 93 ∧ t + 3 ≠ 93 ∧ t + 3 ≠ 94 ∧ t + 3 ≠ 95 := by decide +kernel
  have h3 : ∀ t, t < c_N → kd t = 3 → t ≠ 93 ∧ t ≠ 94 ∧ t ≠ 95 ∧ 18 < t ∧ t < 176 := by decide +kernel
  obtain ⟨a1, a2, a3, a4, a5, a6, a7⟩ := h1 t (kd_lt (by omega)) h
  obtain ⟨b1, b2, b3, b4, b5, b6⟩ := h2 t (kd_lt (by omega)) h
  obtain ⟨d1, d2, d3, d4, d5⟩ := h3 t (kd_lt (by omega)) h
  exact ⟨a1, a2, a3, a4, a5, a6, a7, b1, b2, b3, b4, b5, b6, d1, d2, d3, d4, d5⟩
theorem thing_n {t : Nat} (h : kd t = 3) : ¬ rc t ∧ ¬ rc (t + 3) := by
  obtain ⟨-, -, h1, h2, -, -, h3, h4, -⟩ := thing_k h
  exact ⟨nrc ⟨by omega, h3⟩, nrc ⟨by omega, h4⟩⟩
/-- a thing's head: its word, its size, a zero -/
def hdB (k : Int32) (n : Nat) : List Int32 := ((if k = 1 then txO 3 else if k = 2 then txO 4 else txO 5) ++ dcs n 10) ++ [0]
theorem dcs_len : ∀ n, n < 121 → (dcs n 10).length ≤ 3 := by decide +kernel
theorem tx_len : (txO 3).length = 7 ∧ (txO 4).length = 5 ∧ (txO 5).length = 5 := by decide +kernel
def nm5 (f g : Nat → Int32) : Nat → Int32 := fun j => if j < 5 then f j else g j
theorem c_cp5 {f g : Nat → Int32} : c_cp f g 0 0 5 = nm5 f g := by
  funext j
  unfold c_cp nm5
  by_cases hj : j < 5
  · rw [if_pos ⟨Nat.zero_le _, by omega⟩, if_pos hj, Nat.zero_add, Nat.sub_zero]
  · rw [if_neg (by omega), if_neg hj]
theorem s_giveName {c : cM} {ρ : Nat → List Int32} {γ : cM} {t : Nat} {K : cM → Prop} (h : Rep c ρ γ) (ht : kd t = 3) (hk : ∀ c' S, (∀ k, k < 5 → S.1 k = sha (hdB (γ t 0) (ρ (t + 1)).length ++ ρ (t + 1)) k) → Rep c' (fu ρ 96 (hdB (γ t 0) (ρ (t + 1)).length)) (c_row (gs γ S) (t + 3) (nm5 S.1 (γ (t + 3)))) → K c') : f_Sum_giveName 93 t c K := by
  obtain ⟨a1, a2, a3, a4, a5, a6, a7, a8, a9, a10, a11, a12, a13, a14, a15, a16, a17, a18⟩ := thing_k ht
  obtain ⟨nt, nt3⟩ := thing_n ht
  have r2 : rf 93 2 = 96 := by decide +kernel
  have r0 : rf 93 0 = 94 := by decide +kernel
  have q96 : kd 96 = 1 := by decide +kernel
  have q94 : kd 94 = 100 := by decide +kernel
  have l94 : ln 94 = 5 := by decide +kernel
  have l97 : ln (96 + 1) = 11 := by decide +kernel
  have n94 : ¬ rc 94 := nrc (by decide +kernel)
  have hlen : (ρ (t + 1)).length ≤ 120 := by have := (h.1 (t + 1) a3).2.1; rw [show t + 1 + 1 = t + 2 from rfl, a6] at this; exact this
  have hdl := dcs_len (ρ (t + 1)).length (by omega)
  obtain ⟨x3, x4, x5⟩ := tx_len
  unfold f_Sum_giveName
  rw [r2, r0, a1, a2, a5, l94, tn0, tn5]
  refine ⟨by decide +kernel, q96, s_clear h q96 (fun c3 h3 => ⟨ht, ?_⟩)⟩
  have gk : c3 t 0 = γ t 0 := by rw [h3.2 t nt]
  refine ⟨fun s7 => kd s7 = 200 ∧ (if γ t 0 = 1 then txO 3 else if γ t 0 = 2 then txO 4 else txO 5) = txO s7 ∧ (txO s7).length ≤ 7, fun s7 h7 => ?_, ?_⟩
  · obtain ⟨hs, hx, hl7⟩ := h7
    refine s_putText h3 q96 hs (by rw [fu_self, l97]; simp only [List.length_nil]; omega) (fun c10 h10 => ⟨a3, ?_⟩)
    rw [fu_self, fu_fu, List.nil_append] at h10
    have g10 : c10 (t + 1) 1 = nI (ρ (t + 1)).length := by have := (h10.1 (t + 1) a3).1; rw [fu_ne a9] at this; exact this
    rw [g10]
    refine s_putDec h10 q96 (by omega) (by rw [fu_self, l97]; omega) (fun c12 h12 => ?_)
    rw [fu_self, fu_fu] at h12
    refine s_put h12 q96 (by rw [fu_self, l97, List.length_append]; omega) (fun c13 h13 => ?_)
    rw [fu_self, fu_fu] at h13
    have eh : (txO s7 ++ dcs (ρ (t + 1)).length 10) ++ [0] = hdB (γ t 0) (ρ (t + 1)).length := by unfold hdB; rw [hx]
    rw [eh] at h13
    generalize hHD : hdB (γ t 0) (ρ (t + 1)).length = HD at h13 hk
    have hHl : HD.length ≤ 11 := by rw [← hHD]; unfold hdB; rw [hx, List.length_append, List.length_append]; simp only [List.length_singleton]; omega
    refine s_begin h13 (fun c14 h14 => ?_)
    have g14 : c14 96 1 = nI HD.length := by have := (h14.1 96 q96).1; rw [fu_self] at this; exact this
    rw [g14]
    refine s_takeRow h14 q96 (show 0 < 50000 by decide) (by omega) (fun c15 h15 => ?_)
    rw [fu_self, List.take_length] at h15
    have g15 : c15 (t + 1) 1 = nI (ρ (t + 1)).length := by have := (h15.1 (t + 1) a3).1; rw [fu_ne a9] at this; exact this
    rw [g15]
    refine s_takeRow h15 a3 (by rw [tks_t]; show 0 + _ < _; omega) (by omega) (fun c16 h16 => ?_)
    rw [fu_ne a9, List.take_length, ← List.foldl_append] at h16
    refine s_end h16 (by rw [tks_t, List.length_append]; show 0 + _ < _; omega) (fun c17 h17 => ⟨a4, Nat.le_refl _, Nat.le_refl _, q94, fun c22 e22 => ?_⟩)
    have et : ((HD ++ ρ (t + 1)).foldl tk (hF (γ 94), γ 95, 0)).2.2 = (HD ++ ρ (t + 1)).length := by rw [tks_t]; exact Nat.zero_add _
    rw [et] at h17
    have hsh := shS_sha (γ 94) (γ 95) (HD ++ ρ (t + 1))
    refine hk c22 (shS (γ 94) (γ 95) (HD ++ ρ (t + 1))) hsh ?_
    have e94 : c17 94 = (shS (γ 94) (γ 95) (HD ++ ρ (t + 1))).1 := by rw [h17.2 94 n94, gs_94]; rfl
    have et3 : c17 (t + 3) = γ (t + 3) := by rw [h17.2 (t + 3) nt3, gs_ne ⟨a11, a12, a13⟩]
    rw [e94, et3, c_cp5] at e22
    exact h17.cell nt3 e22
  · rw [gk]
    refine ⟨fun g1 => ⟨fun g2 => ⟨by decide +kernel, by rw [if_neg g1, if_neg g2], by omega⟩, fun g2 => ⟨by decide +kernel, by rw [if_neg g1, if_pos g2], by omega⟩⟩, fun g1 => ⟨by decide +kernel, by rw [if_pos g1], by omega⟩⟩
theorem s_tbegin {c : cM} {ρ : Nat → List Int32} {γ : cM} {t : Nat} {k : Int32} {K : cM → Prop} (h : Rep c ρ γ) (ht : kd t = 3) (hk : ∀ c', Rep c' (fu ρ (t + 1) []) (c_up γ t 0 k) → K c') : f_Thing_begin t k c K := by
  obtain ⟨a1, a2, a3, -⟩ := thing_k ht
  unfold f_Thing_begin
  rw [a1]
  exact ⟨ht, fun c2 e2 => ⟨a3, s_clear (h.up (thing_n ht).1 e2) a3 hk⟩⟩
theorem s_become {c : cM} {ρ : Nat → List Int32} {γ : cM} {t u : Nat} {K : cM → Prop} (h : Rep c ρ γ) (ht : kd t = 3) (hu : kd u = 3) (hne : u ≠ t) (hk : ∀ c', Rep c' (fu ρ (t + 1) (ρ (u + 1))) (c_row (c_up γ t 0 (γ u 0)) (t + 3) (nm5 (γ (u + 3)) (γ (t + 3)))) → K c') : f_Thing_become t u c K := by
  obtain ⟨a1, a2, a3, a4, a5, a6, a7, a8, a9, a10, a11, a12, a13, a14, a15, a16, a17, a18⟩ := thing_k ht
  obtain ⟨b1, b2, b3, b4, b5, b6, b7, b8, b9, b10, b11, b12, b13, b14, b15, b16, b17, b18⟩ := thing_k hu
  have hul : (ρ (u + 1)).length ≤ 120 := by have := (h.1 (u + 1) b3).2.1; rw [show u + 1 + 1 = u + 2 from rfl, b6] at this; exact this
  have d1 : u ≠ t + 3 := fun e => by rw [e] at hu; omega
  have d2 : t ≠ u + 3 := fun e => by rw [e] at ht; omega
  unfold f_Thing_become
  rw [a1, a2, b1, b2, a5, b5, tn0, tn5, h.2 u (thing_n hu).1]
  refine ⟨hu, ht, s_tbegin h ht (fun c3 h3 => ⟨b3, a3, ?_⟩)⟩
  have g3 : c3 (u + 1) 1 = nI (ρ (u + 1)).length := by have := (h3.1 (u + 1) b3).1; rw [fu_ne (by omega)] at this; exact this
  rw [g3, show (0 : Int32) = nI 0 from rfl]
  refine s_putPart h3 a3 b3 (by omega) (by decide) (by omega) (fun _ _ c6 h6 => ⟨a4, Nat.le_refl _, Nat.le_refl _, b4, fun c12 e12 => hk c12 ?_⟩) (fun h4 => ?_)
  · rw [fu_self, fu_ne (show u + 1 ≠ t + 1 by omega), fu_fu, List.nil_append, List.drop_zero, List.take_length] at h6
    have f1 : c6 (u + 3) = γ (u + 3) := by rw [h6.2 _ (thing_n hu).2, c_up_ne (by omega)]
    have f2 : c6 (t + 3) = γ (t + 3) := by rw [h6.2 _ (thing_n ht).2, c_up_ne (by omega)]
    rw [f1, f2, c_cp5] at e12
    exact h6.cell (thing_n ht).2 e12
  · refine absurd ⟨?_, ?_⟩ h4
    · rw [fu_ne (by omega), Nat.zero_add]
      exact Nat.le_refl _
    · rw [fu_self, show t + 1 + 1 = t + 2 from rfl, a6]
      simp only [List.length_nil]
      omega
def sameN (f g : Nat → Int32) : Prop := ∀ k, k < 5 → f k = g k
theorem s_isNamedAs {c : cM} {ρ : Nat → List Int32} {γ : cM} {t u : Nat} {K : Int32 → cM → Prop} (h : Rep c ρ γ) (ht : kd t = 3) (hu : kd u = 3) (hk : K (pI (sameN (γ (t + 3)) (γ (u + 3)))) c) : f_Thing_isNamedAs t u c K := by
  obtain ⟨a1, a2, a3, a4, a5, -⟩ := thing_k ht
  obtain ⟨b1, b2, b3, b4, b5, -⟩ := thing_k hu
  unfold f_Thing_isNamedAs
  rw [a2, b2, a5, b5, h.2 _ (thing_n ht).2, h.2 _ (thing_n hu).2]
  refine ⟨fun m y => ∃ j, m = 5 - j ∧ j ≤ 5 ∧ y = nI j ∧ ∀ k, k < j → γ (t + 3) k = γ (u + 3) k, ⟨5, 0, rfl, Nat.zero_le _, rfl, fun k hk => absurd hk (Nat.not_lt_zero _)⟩, ?_⟩
  rintro m y ⟨j, rfl, hj, rfl, hs⟩
  refine ⟨fun h1 => ?_, fun h1 => ?_⟩
  · have e : 5 ≤ j := (nI_leI (a := 5) (by omega) (by omega)).mp h1
    rw [pI_t (show sameN (γ (t + 3)) (γ (u + 3)) from fun k hk => hs k (by omega))] at hk
    exact hk
  · have e : j < 5 := by
      rcases Nat.lt_or_ge j 5 with g | g
      · exact g
      · exact absurd (nI_le (a := 5) g (by omega)) h1
    rw [nI_clamp (by omega)]
    refine ⟨ht, a4, vp_in_nI e (by decide), hu, b4, vp_in_nI e (by decide), fun h2 => ⟨5 - (j + 1), by omega, j + 1, rfl, by omega, (nI_succ j).symm, fun k hk2 => ?_⟩, fun h2 => ?_⟩
    · by_cases ek : k = j
      · rw [ek]; exact h2
      · exact hs k (by omega)
    · rw [pI_f (fun h3 => h2 (h3 j e))] at hk
      exact hk
theorem s_refersTo {c : cM} {ρ : Nat → List Int32} {γ : cM} {t u : Nat} {K : Int32 → cM → Prop} (h : Rep c ρ γ) (ht : kd t = 3) (hu : kd u = 3) (hk : K (pI (¬ γ t 0 = 3 ∧ ∃ p, hasAt (ρ (t + 1)) p (γ (u + 3)) 5)) c) : f_Thing_refersTo t u c K := by
  obtain ⟨a1, a2, a3, a4, a5, -⟩ := thing_k ht
  obtain ⟨b1, b2, b3, b4, b5, -⟩ := thing_k hu
  unfold f_Thing_refersTo
  rw [a1, b2, h.2 _ (thing_n ht).1]
  refine ⟨ht, fun h1 => ?_, fun h1 => ⟨hu, a3, s_hasAny h a3 b4 b5 (by decide) (thing_n hu).2 ⟨fun h2 => ?_, fun h2 => ?_⟩⟩⟩
  · rw [pI_f (fun g => g.1 h1)] at hk
    exact hk
  · rw [pI_f (fun g => pI_eq0.mp h2 g.2)] at hk
    exact hk
  · have h3 : ∃ p, hasAt (ρ (t + 1)) p (γ (u + 3)) 5 := Classical.byContradiction (fun g => h2 (pI_f g))
    rw [pI_t ⟨h1, h3⟩] at hk
    exact hk
