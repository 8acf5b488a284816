theorem adds5 : (([] ++ [116] ++ [114] ++ [101] ++ [101] ++ [32] : List Int32)) = txO 4 := by decide +kernel
theorem adds8 (A : List Int32) : A ++ [112] ++ [97] ++ [114] ++ [101] ++ [110] ++ [116] ++ [32] = A ++ txO 8 := by
  have e : txO 8 = [112, 97, 114, 101, 110, 116, 32] := by decide +kernel
  rw [e]
  simp only [List.append_assoc, List.cons_append, List.nil_append]
theorem adds9 (A : List Int32) : A ++ [97] ++ [116] ++ [32] = A ++ txO 9 := by
  have e : txO 9 = [97, 116, 32] := by decide +kernel
  rw [e]
  simp only [List.append_assoc, List.cons_append, List.nil_append]
theorem m_commit {c : cM} {σ : Sg} {t p x : Int32} {K : Int32 → cM → Prop} (h : MR c σ) (hV : VS σ) (hk : ∀ c', MR c' (comX σ t p x).2 → (∀ a, a < 176 → c' a = c a) → K (comX σ t p x).1 c') : f_Mo_commit 176 t p x c K := by
  have hn := hV.2.1
  have bad : ¬ (kO σ.1 t = 2 ∧ 0 ≤ x ∧ (p = -1 ∨ kO σ.1 p = 1)) → K (-1) c := by
    intro hb
    have e : comX σ t p x = (-1, σ) := if_neg hb
    rw [e] at hk
    exact hk c h (fun _ _ => rfl)
  unfold f_Mo_commit
  refine ⟨mk_k.1, m_isKindO h hV (by decide) ⟨fun g => bad (fun q => pI_eq0.mp g q.1), fun g => ?_⟩⟩
  have ht2 : kO σ.1 t = 2 := Classical.byContradiction (fun w => g (pI_f w))
  refine ⟨fun c9 => c9 = c ∧ (p = -1 ∨ kO σ.1 p = 1), ?_, fun g3 => ⟨rfl, Or.inl g3⟩, fun g3 => m_isKindO h hV (by decide) ⟨fun g4 => bad (fun q => q.2.2.elim g3 (fun w => pI_eq0.mp g4 w)), fun g4 => ⟨rfl, Or.inr (Classical.byContradiction (fun w => g4 (pI_f w)))⟩⟩⟩
  rintro c9 ⟨rfl, hp⟩
  refine ⟨fun g2 => ?_, fun g2 => bad (fun q => g2 q.2.1)⟩
  have e : comX σ t p x = ((bringX σ.1 (mkT 1 (comC σ.1 t p x.toNatClampNeg))).1, (bringX σ.1 (mkT 1 (comC σ.1 t p x.toNatClampNeg))).2, σ.2) := if_pos ⟨ht2, g2, hp⟩
  rw [e] at hk
  obtain ⟨j, y, hj, ht, hy⟩ := kO_in hn (by rw [ht2]; decide)
  have hx0 : ¬ x < 0 := Int32.not_lt.mpr g2
  obtain ⟨n, hn31, hx⟩ := nI_of hx0
  rw [hx, nI_clamp hn31] at hk
  have hnt : nO σ.1 t = y.2.2 := by rw [ht]; exact nO_at hy hn
  refine m_begin (fun c13 e13 => ?_)
  obtain ⟨M13, S13, f13⟩ := beg_mr h hV e13
  have nm13 : ∀ c', Fa c13 c' → ∀ (i : Nat) (z : Th), σ.1[i]? = some z → sameN (nmA c' i) z.2.2 := fun c' f i z hz => by
    have e1 : nmA c' i = nmA c13 i := by unfold nmA; rw [f.1 180 (by decide) (by decide)]
    rw [e1]
    exact (M13.2.1 i z hz).2.2.2
  refine m_add S13 (by decide) (fun c14 S14 f14 => m_add S14 (by decide) (fun c15 S15 f15 => m_add S15 (by decide) (fun c16 S16 f16 => m_add S16 (by decide) (fun c17 S17 f17 => m_add S17 (by decide) (fun c18 S18 f18 => ?_)))))
  have F18 : Fa c13 c18 := (((f14.tr f15).tr f16).tr f17).tr f18
  rw [adds5] at S18
  rw [ht]
  refine m_addName (by omega) S18 (by rw [tx_len.2.1]; decide) (fun c19 S19 f19 => ?_)
  rw [ib_congr (nm13 c18 F18 j y hy), ← hnt] at S19
  refine m_add S19 (by rw [List.length_append, ib_len5, tx_len.2.1]; decide) (fun c20 S20 f20 => ?_)
  have F20 : Fa c13 c20 := (F18.tr f19).tr f20
  generalize hA : txO 4 ++ ib (nO σ.1 t) 0 5 ++ [10] = A at S20
  have hAl : A.length = 26 := by rw [← hA, List.length_append, List.length_append, ib_len5, tx_len.2.1]; rfl
  have hpl := comP_len σ.1 p
  have hdl := dcs_len10 n 10
  refine ⟨fun c31 => slC c31 32 1 (A ++ comP σ.1 p) ∧ Fa c13 c31, ?_, fun g3 => ?_, fun g3 => ?_⟩
  · rintro c31 ⟨S31, F31⟩
    have l31 : (A ++ comP σ.1 p).length ≤ 54 := by rw [List.length_append]; omega
    refine m_add S31 (by omega) (fun c34 S34 f34 => m_add S34 (by rw [List.length_append, List.length_singleton]; omega) (fun c35 S35 f35 => m_add S35 (by rw [List.length_append, List.length_append, List.length_singleton, List.length_singleton]; omega) (fun c36 S36 f36 => ?_)))
    rw [adds9] at S36
    rw [hx]
    refine m_addDec S36 hn31 (by rw [List.length_append, tx_l2.2.2.2]; omega) (fun c49 S49 f49 => ?_)
    refine m_add S49 (by rw [List.length_append, List.length_append, tx_l2.2.2.2]; omega) (fun c51 S51 f51 => ?_)
    have F51 : Fa c13 c51 := ((((F31.tr f34).tr f35).tr f36).tr f49).tr f51
    have eL : A ++ comP σ.1 p ++ txO 9 ++ dcs n 10 ++ [10] = comC σ.1 t p n := by unfold comC; rw [hA]
    rw [eL] at S51
    refine m_come (F51.mr M13 hV) hV S51 (comC_byt _ _ _ _) (by have := comC_len σ.1 t p n; omega) (fun c52 h52 l52 => hk c52 h52 (fun a ha => by rw [l52 a ha, F51.1 a (by omega) (by omega), f13 a (by omega) (by omega)]))
  · show slC c20 32 1 (A ++ comP σ.1 p) ∧ Fa c13 c20
    have hp1 : p = -1 := by
      rcases hp with q | q
      · exact q
      · obtain ⟨j2, y2, hj2, hp2, -⟩ := kO_in hn (by rw [q]; decide)
        rw [hp2] at g3
        exact absurd g3 (nI_pos (by omega))
    unfold comP
    rw [if_pos hp1, List.append_nil]
    exact ⟨S20, F20⟩
  · have hne : ¬ p = -1 := fun q => by rw [q] at g3; exact absurd (by decide) g3
    have hkp : kO σ.1 p = 1 := hp.elim (fun q => absurd q hne) id
    obtain ⟨j2, y2, hj2, hp2, hy2⟩ := kO_in hn (by rw [hkp]; decide)
    have hnp : nO σ.1 p = y2.2.2 := by rw [hp2]; exact nO_at hy2 hn
    have eP : comP σ.1 p = txO 8 ++ ib (nO σ.1 p) 0 5 ++ [10] := if_neg hne
    refine m_add S20 (by omega) (fun d1 T1 u1 => m_add T1 (by simp only [List.length_append, List.length_singleton]; omega) (fun d2 T2 u2 => m_add T2 (by simp only [List.length_append, List.length_singleton]; omega) (fun d3 T3 u3 => m_add T3 (by simp only [List.length_append, List.length_singleton]; omega) (fun d4 T4 u4 => m_add T4 (by simp only [List.length_append, List.length_singleton]; omega) (fun d5 T5 u5 => m_add T5 (by simp only [List.length_append, List.length_singleton]; omega) (fun d6 T6 u6 => m_add T6 (by simp only [List.length_append, List.length_singleton]; omega) (fun d7 T7 u7 => ?_)))))))
    have F7 : Fa c13 d7 := ((((((F20.tr u1).tr u2).tr u3).tr u4).tr u5).tr u6).tr u7
    rw [adds8] at T7
    rw [hp2]
    refine m_addName (by omega) T7 (by rw [List.length_append, tx_l2.2.2.1]; omega) (fun d8 T8 u8 => ?_)
    rw [ib_congr (nm13 d7 F7 j2 y2 hy2), ← hnp] at T8
    refine m_add T8 (by rw [List.length_append, List.length_append, ib_len5, tx_l2.2.2.1]; omega) (fun d9 T9 u9 => ?_)
    show slC d9 32 1 (A ++ comP σ.1 (nI j2)) ∧ Fa c13 d9
    rw [← hp2, eP, ← List.append_assoc, ← List.append_assoc]
    exact ⟨T9, (F7.tr u8).tr u9⟩
theorem p_commit {c : cM} {σ : Sg} {t p x : Int32} {J : cM → Prop} (h : Inv c σ) (hJ : ∀ c σ, Inv c σ → J c) : f_P_commit 18 t p x c (fun v c1 => kd 176 = 7 ∧ f_Mo_commit 176 t p x c1 (fun v' c2 => Fin2 J v v' c2)) :=
  pairX (FP := fun c K => f_P_commit 18 t p x c K) (FM := fun c K => f_Mo_commit 176 t p x c K) (comX σ t p x) h hJ (comX_V h.2.2) (fun _ _ _ hR hC hk => s_commit hR hC hk) (fun _ _ hM hk => m_commit hM h.2.2 hk)
