theorem tx6 : ([49] ++ [48] ++ [48] ++ [54] ++ [52] ++ [52] : List Int32) ++ [32] = txO 6 := by decide +kernel
theorem tx7 : ([52] ++ List.replicate 4 48 : List Int32) ++ [32] = txO 7 := by decide +kernel
theorem m_addEntry {c : cM} {σ : Sg} {k l j : Nat} {L : List Int32} {K : cM → Prop} (h : MR c σ) (hV : VS σ) (hs : slC c 32 2 L) (hk4 : k < 4) (hl : l < 26) (hlet : c 184 k = nI l) (hin : c 185 k = nI j) (hj : j < σ.1.length) (hlen : L.length + 29 ≤ 120) (hk : ∀ c', slC c' 32 2 (L ++ entB σ.1 l (nI j)) → Fa c c' → K c') : f_Mo_addEntry 176 (nI k) c K := by
  have hn := hV.2.1
  obtain ⟨y, hy⟩ := get_some hj
  have ek : c 177 j = kO σ.1 (nI j) := by rw [(h.2.1 j y hy).1, kO_at hy hn]
  unfold f_Mo_addEntry
  rw [mk_k2.2.1, mk_k2.2.2.1, mk_k.2.1, mk_l2.1, mk_l2.2.1, mk_l.1, nI_clamp (show k < 2 ^ 31 by omega), hin, nI_clamp (show j < 2 ^ 31 by omega), ek]
  refine ⟨mk_k.1, mk_a2.2.1, vp_in_nI hk4 (by decide), mk_a.1, vp_in_nI (by omega) (by decide), fun c18 => ∃ W : List Int32, W ++ [32] = (if kO σ.1 (nI j) = 3 then txO 6 else txO 7) ∧ W.length ≤ 6 ∧ slC c18 32 2 (L ++ W) ∧ Fa c c18, ?_, fun g => ?_, fun g => ?_⟩
  · rintro c18 ⟨W, hW, hWl, S18, F18⟩
    refine m_add S18 (by rw [List.length_append]; omega) (fun c21 S21 f21 => ⟨mk_a2.1, vp_in_nI hk4 (by decide), ?_⟩)
    have F21 := F18.tr f21
    have e21 : c21 184 k = nI l := by rw [F21.1 184 (by decide) (by decide)]; exact hlet
    rw [e21, show (97 : Int32) = nI 97 from rfl, nI_add]
    rw [List.append_assoc, hW] at S21
    have hTl : (if kO σ.1 (nI j) = 3 then txO 6 else txO 7).length ≤ 7 := by rw [← hW, List.length_append, List.length_singleton]; omega
    generalize hT : (if kO σ.1 (nI j) = 3 then txO 6 else txO 7) = T at S21 hTl
    refine m_add S21 (by rw [List.length_append]; omega) (fun c24 S24 f24 => m_add S24 (by rw [List.length_append, List.length_append, List.length_singleton]; omega) (fun c25 S25 f25 => ?_))
    have F25 := (F21.tr f24).tr f25
    have e25 : c25 185 k = nI j := by rw [F25.1 185 (by decide) (by decide)]; exact hin
    rw [e25]
    refine m_addName (by omega) S25 (by simp only [List.length_append, List.length_singleton]; omega) (fun c26 S26 f26 => hk c26 ?_ (F25.tr f26))
    have en : nmA c25 j = nmA c j := by unfold nmA; rw [F25.1 180 (by decide) (by decide)]
    have es : sameN (nmA c j) (nO σ.1 (nI j)) := by rw [nO_at hy hn]; exact (h.2.1 j y hy).2.2.2
    rw [en, ib_congr es] at S26
    have eL : L ++ entB σ.1 l (nI j) = L ++ T ++ [nI (97 + l)] ++ [0] ++ ib (nO σ.1 (nI j)) 0 5 := by
      unfold entB
      rw [hT]
      simp only [List.append_assoc]
    rw [eL]
    exact S26
  · refine m_add hs (by omega) (fun c27 S27 f27 => ?_)
    refine ⟨fun m z c' => ∃ q, m = 4 - q ∧ q ≤ 4 ∧ z = nI q ∧ slC c' 32 2 (L ++ ([52] ++ List.replicate q 48)) ∧ Fa c c', ⟨4, 0, rfl, Nat.zero_le _, rfl, S27, f27⟩, ?_⟩
    rintro m z c33 ⟨q, rfl, hq, rfl, S33, F33⟩
    refine ⟨fun g4 => ?_, fun g4 => ?_⟩
    · have eq4 : q = 4 := by
        have := (nI_leI (a := 4) (by omega) (by omega)).mp g4
        omega
      subst eq4
      exact ⟨[52] ++ List.replicate 4 48, by rw [if_neg g]; exact tx7, by decide, S33, F33⟩
    · have hq4 : q < 4 := by
        rcases Nat.lt_or_ge q 4 with w | w
        · exact w
        · exact absurd (nI_le (a := 4) w (by omega)) g4
      refine m_add S33 (by simp only [List.length_append, List.length_singleton, List.length_replicate]; omega) (fun c35 S35 f35 => ⟨4 - (q + 1), by omega, q + 1, rfl, by omega, (nI_succ q).symm, ?_, F33.tr f35⟩)
      rw [List.replicate_succ', ← List.append_assoc, ← List.append_assoc] at *
      exact S35
  · refine m_add hs (by omega) (fun d1 T1 u1 => m_add T1 (by simp only [List.length_append, List.length_singleton]; omega) (fun d2 T2 u2 => m_add T2 (by simp only [List.length_append, List.length_singleton]; omega) (fun d3 T3 u3 => m_add T3 (by simp only [List.length_append, List.length_singleton]; omega) (fun d4 T4 u4 => m_add T4 (by simp only [List.length_append, List.length_singleton]; omega) (fun d5 T5 u5 => m_add T5 (by simp only [List.length_append, List.length_singleton]; omega) (fun d6 T6 u6 => ⟨[49] ++ [48] ++ [48] ++ [54] ++ [52] ++ [52], by rw [if_pos g]; exact tx6, by decide, ?_, ((((u1.tr u2).tr u3).tr u4).tr u5).tr u6⟩))))))
    simp only [List.append_assoc] at T6 ⊢
    exact T6
theorem m_tree {c : cM} {σ : Sg} {K : Int32 → cM → Prop} (h : MR c σ) (hV : VS σ) (hk : ∀ c', MR c' (treX σ).2 → (∀ a, a < 176 → c' a = c a) → K (treX σ).1 c') : f_Mo_tree 176 c K := by
  have h4 := hV.2.2.2.2.2.2.2
  obtain ⟨d1, d2, d3, d4⟩ := h.2.2.2.1
  unfold f_Mo_tree
  rw [mk_k2.2.1, mk_l2.1]
  refine ⟨mk_k.1, m_begin (fun c2 e2 => ?_)⟩
  obtain ⟨M2, S2, f2⟩ := beg_mr h hV e2
  refine ⟨fun m y c' => ∃ j, m = 26 - j ∧ j ≤ 26 ∧ y = nI j ∧ slC c' 32 2 (treC σ.1 σ.2.2.1 j) ∧ Fa c2 c', ⟨26, 0, rfl, Nat.zero_le _, rfl, S2, Fa.rf c2⟩, ?_⟩
  rintro m y c8 ⟨j, rfl, hj, rfl, S8, F8⟩
  have M8 := F8.mr M2 hV
  refine ⟨fun g => ?_, fun g => ?_⟩
  · have ej : j = 26 := by
      have := (nI_leI (a := 26) (by omega) (by omega)).mp g
      omega
    subst ej
    refine m_come M8 hV S8 (treC_byt _ _ 26 (Nat.le_refl _)) (by have := treC_l hV (Nat.le_refl 26); omega) (fun c10 h10 l10 => ?_)
    have low : ∀ a, a < 176 → c10 a = c a := fun a ha => by rw [l10 a ha, F8.1 a (by omega) (by omega), f2 a (by omega) (by omega)]
    refine ⟨fun g0 => ?_, fun g0 c13 e13 => ?_⟩
    · have e : (treX σ).2 = ((bringX σ.1 (mkT 2 (treC σ.1 σ.2.2.1 26))).2, σ.2.1, σ.2.2.1, σ.2.2.2) := by unfold treX; rw [if_pos g0]
      rw [e] at hk
      exact hk c10 h10 low
    · have e : (treX σ).2 = ((bringX σ.1 (mkT 2 (treC σ.1 σ.2.2.1 26))).2, σ.2.1, noD, σ.2.2.2) := by unfold treX; rw [if_neg g0]
      rw [e] at hk
      refine hk c13 (h10.draft noD (fun a b1 _ _ => by rw [e13, c_up_ne (by omega)]) (fun q hq => by rw [e13, c_up_at hq]) ?_) (fun a ha => by rw [e13, c_up_ne (by omega)]; exact low a ha)
      unfold MD
      rw [cnt_noD]
      exact ⟨by rw [e13, c_up_self]; rfl, fun q hq => absurd hq (Nat.not_lt_zero _), fun l _ hl => absurd rfl hl, fun q q' hq => absurd hq (Nat.not_lt_zero _)⟩
  · have hj26 : j < 26 := by
      rcases Nat.lt_or_ge j 26 with w | w
      · exact w
      · exact absurd (nI_le (a := 26) w (by omega)) g
    have k184 : ∀ c', Fa c2 c' → c' 184 = c 184 ∧ c' 185 = c 185 ∧ c' 176 9 = nI (cntD σ.2.2.1) := fun c' f => ⟨by rw [f.1 184 (by decide) (by decide), f2 184 (by decide) (by decide)], by rw [f.1 185 (by decide) (by decide), f2 185 (by decide) (by decide)], by rw [f.1 176 (by decide) (by decide), f2 176 (by decide) (by decide)]; exact d1⟩
    refine ⟨fun m z c' => ∃ q X, m = 4 - q ∧ q ≤ cntD σ.2.2.1 ∧ z = nI q ∧ slC c' 32 2 (treC σ.1 σ.2.2.1 j ++ X) ∧ ((X = [] ∧ ∀ k, k < q → ¬ c 184 k = nI j) ∨ (X = entB σ.1 j (σ.2.2.1 j) ∧ ¬ σ.2.2.1 j = -1 ∧ ∃ k, k < q ∧ c 184 k = nI j)) ∧ Fa c2 c', ⟨4, 0, [], rfl, Nat.zero_le _, rfl, by rw [List.append_nil]; exact S8, Or.inl ⟨rfl, fun k hk1 => absurd hk1 (Nat.not_lt_zero _)⟩, F8⟩, ?_⟩
    rintro m z c19 ⟨q, X, rfl, hq, rfl, S19, hX, F19⟩
    obtain ⟨k1, k2, k3⟩ := k184 c19 F19
    rw [k3, k1]
    refine ⟨fun g5 => ?_, fun g5 => ?_⟩
    · have eq : q = cntD σ.2.2.1 := by
        have := (nI_leI (by omega) (by omega)).mp g5
        omega
      refine ⟨26 - (j + 1), by omega, j + 1, rfl, by omega, (nI_succ j).symm, ?_, F19⟩
      rcases hX with ⟨rfl, hno⟩ | ⟨rfl, hd, -⟩
      · have hd : σ.2.2.1 j = -1 := Classical.byContradiction (fun w => by
          obtain ⟨k, k4, k5⟩ := d3 j hj26 w
          exact hno k (by omega) k5)
        rw [treC, if_pos hd]
        exact S19
      · rw [treC, if_neg hd]
        exact S19
    · have hq2 : q < cntD σ.2.2.1 := by
        rcases Nat.lt_or_ge q (cntD σ.2.2.1) with w | w
        · exact w
        · exact absurd (nI_le w (by omega)) g5
      rw [nI_clamp (by omega)]
      refine ⟨mk_a2.1, vp_in_nI (by omega) (by decide), fun c25 => ∃ X', slC c25 32 2 (treC σ.1 σ.2.2.1 j ++ X') ∧ ((X' = [] ∧ ∀ k, k < q + 1 → ¬ c 184 k = nI j) ∨ (X' = entB σ.1 j (σ.2.2.1 j) ∧ ¬ σ.2.2.1 j = -1 ∧ ∃ k, k < q + 1 ∧ c 184 k = nI j)) ∧ Fa c2 c25, ?_, fun g6 => ?_, fun g6 => ?_⟩
      · rintro c25 ⟨X', S25, hX', F25⟩
        exact ⟨4 - (q + 1), by omega, q + 1, X', rfl, by omega, (nI_succ q).symm, S25, hX', F25⟩
      · refine ⟨X, S19, ?_, F19⟩
        rcases hX with ⟨h1, h2⟩ | ⟨h1, h2, k, h3, h5⟩
        · refine Or.inl ⟨h1, fun k hk1 => ?_⟩
          by_cases e : k = q
          · rw [e]; exact g6
          · exact h2 k (by omega)
        · exact Or.inr ⟨h1, h2, k, by omega, h5⟩
      · obtain ⟨l, l1, l2, l3, l4⟩ := d2 q hq2
        have hlj : l = j := (nI_eq (by omega) (by omega)).mp (by rw [← l2]; exact g6)
        subst hlj
        obtain ⟨i, i1, i2⟩ := (hV.2.2.2.2.1 l l1).resolve_left l4
        have hXn : X = [] := by
          rcases hX with ⟨h1, -⟩ | ⟨-, -, k, h3, h5⟩
          · exact h1
          · exact absurd (d4 k q (by omega) hq2 (by rw [h5, l2])) (by omega)
        subst hXn
        rw [List.append_nil] at S19
        refine m_addEntry (l := l) (j := i) (F19.mr M2 hV) hV S19 (by omega) l1 (by rw [k1]; exact g6) (by rw [k2, l3]; exact i2) i1 (by have := treC_l1 hV l1 l4; omega) (fun c28 S28 f28 => ⟨entB σ.1 l (σ.2.2.1 l), ?_, Or.inr ⟨rfl, l4, q, by omega, g6⟩, F19.tr f28⟩)
        rw [i2]
        exact S28
theorem p_tree {c : cM} {σ : Sg} {J : cM → Prop} (h : Inv c σ) (hJ : ∀ c σ, Inv c σ → J c) : f_P_tree 18 c (fun v c1 => kd 176 = 7 ∧ f_Mo_tree 176 c1 (fun v' c2 => Fin2 J v v' c2)) :=
  pairX (FP := fun c K => f_P_tree 18 c K) (FM := fun c K => f_Mo_tree 176 c K) (treX σ) h hJ (treX_V h.2.2) (fun _ _ _ hR hC hk => s_tree hR hC h.2.2 hk) (fun _ _ hM hk => m_tree hM h.2.2 hk)
