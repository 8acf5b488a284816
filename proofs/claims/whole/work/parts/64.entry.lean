theorem MR.draft {c c' : cM} {σ : Sg} (h : MR c σ) (d : Nat → Int32) (h1 : ∀ a, 176 < a → a ≠ 184 → a ≠ 185 → c' a = c a) (h2 : ∀ k, k ≠ 9 → c' 176 k = c 176 k) (h3 : MD c' d) : MR c' (σ.1, σ.2.1, d, σ.2.2.2) := by
  obtain ⟨m1, m2, m3, m4, m5, m6, m7⟩ := h
  refine ⟨?_, fun i x hx => ?_, ?_, h3, ?_, ?_, ?_⟩
  · rw [h2 0 (by decide)]; exact m1
  · unfold MT
    rw [h1 177 (by decide) (by decide) (by decide), h1 178 (by decide) (by decide) (by decide), h1 179 (by decide) (by decide) (by decide), h1 180 (by decide) (by decide) (by decide)]
    exact m2 i x hx
  · rw [h2 7 (by decide), h1 183 (by decide) (by decide) (by decide)]; exact m3
  · rw [h1 186 (by decide) (by decide) (by decide)]; exact m5
  · rw [h2 17 (by decide)]; exact m6
  · rw [h1 190 (by decide) (by decide) (by decide)]; exact m7
theorem m_entry {c : cM} {σ : Sg} {x y : Int32} {K : Int32 → cM → Prop} (h : MR c σ) (hV : VS σ) (hk : ∀ c', MR c' (entX σ x y).2 → (∀ a, a < 176 → c' a = c a) → K (entX σ x y).1 c') : f_Mo_entry 176 x y c K := by
  have h4 := hV.2.2.2.2.2.2.2
  have bad : (x < 0 ∨ ¬ x < 26 ∨ (¬ kO σ.1 y = 3 ∧ ¬ kO σ.1 y = 2)) → K (-1) c := by
    intro hb
    have e : entX σ x y = (-1, σ) := if_pos hb
    rw [e] at hk
    exact hk c h (fun _ _ => rfl)
  unfold f_Mo_entry
  rw [mk_k2.2.1, mk_k2.2.2.1, mk_l2.1, mk_l2.2.1]
  refine ⟨fun g => bad (Or.inl g), fun g => ⟨fun g2 => bad (Or.inr (Or.inl ?_)), fun g2 => ⟨mk_k.1, m_isKindO h hV (by decide) ⟨fun c10 => c10 = c ∧ (kO σ.1 y = 3 ∨ kO σ.1 y = 2), ?_, fun g3 => ⟨rfl, Or.inr (Classical.byContradiction (fun w => g3 (pI_f w)))⟩, fun g3 => m_isKindO h hV (by decide) ⟨fun g4 => ⟨rfl, Or.inl (Classical.byContradiction (fun w => g4 (pI_f w)))⟩, fun g4 => bad (Or.inr (Or.inr ⟨pI_eq0.mp g4, pI_eq0.mp g3⟩))⟩⟩⟩⟩⟩
  · intro q
    obtain ⟨i, hi, hx⟩ := nI_of g
    rw [hx] at q g2
    have e1 := (nI_ltI (b := 26) hi (by decide)).mp q
    have e2 := (nI_ltI (a := 25) (by decide) hi).mp g2
    omega
  rintro c10 ⟨rfl, hj⟩
  obtain ⟨l, hl1, hl2⟩ := nI_of g
  have hl : l < 26 := by
    rcases Nat.lt_or_ge l 26 with w | w
    · exact w
    · exact absurd (nI_lt (a := 25) (b := l) (by omega) hl1) (by rw [← hl2]; exact g2)
  have g26 : x < 26 := by rw [hl2]; exact nI_lt (b := 26) hl (by decide)
  have e0 : entX σ x y = if σ.2.2.1 l = -1 ∧ cntD σ.2.2.1 = 4 then (-2, σ) else (nI (cntD (setH σ.2.2.1 l y)), σ.1, σ.2.1, setH σ.2.2.1 l y, σ.2.2.2) := by
    have hc : x.toNatClampNeg = l := by rw [hl2, nI_clamp hl1]
    unfold entX
    rw [if_neg (show ¬ (x < 0 ∨ ¬ x < 26 ∨ (¬ kO σ.1 y = 3 ∧ ¬ kO σ.1 y = 2)) by rintro (q | q | q); exact g q; exact q g26; exact hj.elim q.1 q.2), hc]
  have hy1 : ¬ y = -1 := by
    intro q
    obtain ⟨j, z, h1, h2, h3⟩ := kO_in hV.2.1 (x := y) (by rcases hj with w | w <;> rw [w] <;> decide)
    have : nI j < 0 := by rw [← h2, q]; decide
    have hn := hV.2.1
    exact absurd this (nI_pos (by omega))
  have hMD := h.2.2.2.1
  obtain ⟨d1, d2, d3, d4⟩ := hMD
  generalize he : cntD σ.2.2.1 = e at *
  rw [d1]
  refine ⟨fun m f z => ∃ j q, m = e - j ∧ j ≤ e ∧ z = nI j ∧ f = nI q ∧ ((q = e ∧ ∀ k, k < j → ¬ c10 184 k = x) ∨ (q < j ∧ c10 184 q = x)), ⟨e, 0, e, rfl, Nat.zero_le _, rfl, rfl, Or.inl ⟨rfl, fun k hk => absurd hk (Nat.not_lt_zero _)⟩⟩, ?_⟩
  rintro m f z ⟨j, q, rfl, hje, rfl, rfl, hq⟩
  refine ⟨fun g5 => ?_, fun g5 => ?_⟩
  · have ej : j = e := by
      have := (nI_leI (by omega) (by omega)).mp g5
      omega
    subst ej
    rcases hq with ⟨hqe, hno⟩ | ⟨hqj, hyes⟩
    · subst hqe
      have hdl : σ.2.2.1 l = -1 := Classical.byContradiction (fun w => by
        obtain ⟨k, k1, k2⟩ := d3 l hl w
        exact hno k k1 (by rw [hl2]; exact k2))
      refine ⟨fun g6 => ?_, fun g6 => ?_⟩
      · have hq4 : q < 4 := by
          rcases Nat.lt_or_ge q 4 with w | w
          · exact w
          · exact absurd (show nI q = 4 by rw [show q = 4 by omega]; rfl) g6
        have eX : entX σ x y = (nI (cntD (setH σ.2.2.1 l y)), σ.1, σ.2.1, setH σ.2.2.1 l y, σ.2.2.2) := by rw [e0]; exact if_neg (fun w => by omega)
        have ecn : cntD (setH σ.2.2.1 l y) = q + 1 := by rw [cntD_new hl hdl hy1, he]
        rw [eX, ecn] at hk
        rw [nI_clamp (by omega)]
        refine ⟨mk_a2.1, vp_in_nI hq4 (by decide), fun c23 e23 => ⟨mk_a2.2.1, vp_in_nI hq4 (by decide), fun c26 e26 => ⟨fun s => s = nI (q + 1), fun s hs c31 e31 => ?_, fun g7 => ?_, fun g7 => ?_⟩⟩⟩
        · have v31 : c31 176 9 = nI (q + 1) := by rw [e31, c_up_self, hs]
          have a184 : c31 184 = fun k => if k = q then x else c10 184 k := by rw [e31, c_up_ne (by decide), e26, c_up_ne (by decide), e23, c_up_row, c_row_self]
          have a185 : c31 185 = fun k => if k = q then y else c10 185 k := by rw [e31, c_up_ne (by decide), e26, c_up_row, c_row_self, e23, c_up_ne (by decide)]
          have oth : ∀ a, a ≠ 176 → a ≠ 184 → a ≠ 185 → c31 a = c10 a := fun a b1 b2 b3 => by rw [e31, c_up_ne b1, e26, c_up_ne b3, e23, c_up_ne b2]
          rw [v31]
          refine hk c31 (h.draft _ (fun a b1 b2 b3 => oth a (by omega) b2 b3) (fun k hk9 => by rw [e31, c_up_at hk9, e26, c_up_ne (by decide), e23, c_up_ne (by decide)]) ?_) (fun a ha => oth a (by omega) (by omega) (by omega))
          unfold MD
          rw [ecn, a184, a185]
          refine ⟨v31, fun k hk1 => ?_, fun i hi hdi => ?_, fun k k' hk1 hk2 hkk => ?_⟩
          · by_cases ek : k = q
            · exact ⟨l, hl, by show (if k = q then x else _) = _; rw [if_pos ek]; exact hl2, by show (if k = q then y else _) = setH σ.2.2.1 l y l; rw [if_pos ek]; exact (if_pos rfl).symm, by show ¬ setH σ.2.2.1 l y l = -1; unfold setH; rw [if_pos rfl]; exact hy1⟩
            · obtain ⟨i, i1, i2, i3, i4⟩ := d2 k (by omega)
              have hil : ¬ i = l := fun w => i4 (by rw [w]; exact hdl)
              exact ⟨i, i1, by show (if k = q then x else _) = _; rw [if_neg ek]; exact i2, by show (if k = q then y else _) = setH σ.2.2.1 l y i; unfold setH; rw [if_neg ek, if_neg hil]; exact i3, by show ¬ setH σ.2.2.1 l y i = -1; unfold setH; rw [if_neg hil]; exact i4⟩
          · by_cases ei : i = l
            · exact ⟨q, by omega, by show (if q = q then x else _) = _; rw [if_pos rfl, ei]; exact hl2⟩
            · have hdi' : ¬ σ.2.2.1 i = -1 := by unfold setH at hdi; rw [if_neg ei] at hdi; exact hdi
              obtain ⟨k, k1, k2⟩ := d3 i hi hdi'
              exact ⟨k, by omega, by show (if k = q then x else _) = _; rw [if_neg (by omega)]; exact k2⟩
          · have hkk' : (if k = q then x else c10 184 k) = (if k' = q then x else c10 184 k') := hkk
            by_cases ek : k = q
            · by_cases ek' : k' = q
              · omega
              · rw [if_pos ek, if_neg ek'] at hkk'
                exact absurd hkk'.symm (hno k' (by omega))
            · by_cases ek' : k' = q
              · rw [if_neg ek, if_pos ek'] at hkk'
                exact absurd hkk' (hno k (by omega))
              · rw [if_neg ek, if_neg ek'] at hkk'
                exact d4 k k' (by omega) (by omega) hkk'
        · refine absurd ?_ g7
          rw [e26, c_up_ne (by decide), e23, c_up_ne (by decide), d1]
        · show c26 176 9 + 1 = nI (q + 1)
          rw [e26, c_up_ne (by decide), e23, c_up_ne (by decide), d1, nI_succ]
      · have hq4 : q = 4 := (nI_eq (b := 4) (by omega) (by decide)).mp g6
        have eX : entX σ x y = (-2, σ) := by rw [e0]; exact if_pos ⟨hdl, hq4⟩
        rw [eX] at hk
        exact hk c10 h (fun _ _ => rfl)
    · obtain ⟨i, i1, i2, i3, i4⟩ := d2 q hqj
      have hil : i = l := (nI_eq (by omega) hl1).mp (by rw [← i2, hyes, hl2])
      subst hil
      have eX : entX σ x y = (nI (cntD (setH σ.2.2.1 i y)), σ.1, σ.2.1, setH σ.2.2.1 i y, σ.2.2.2) := by rw [e0]; exact if_neg (fun w => i4 w.1)
      have ecn : cntD (setH σ.2.2.1 i y) = j := by rw [cntD_old hl i4 hy1, he]
      rw [eX, ecn] at hk
      refine ⟨fun g6 => ?_, fun g6 => absurd ((nI_eq (b := 4) (by omega) (by decide)).mp g6) (by omega)⟩
      rw [nI_clamp (by omega)]
      refine ⟨mk_a2.1, vp_in_nI (by omega) (by decide), fun c23 e23 => ⟨mk_a2.2.1, vp_in_nI (by omega) (by decide), fun c26 e26 => ⟨fun s => s = nI j, fun s hs c31 e31 => ?_, fun g7 => ?_, fun g7 => ?_⟩⟩⟩
      · have v31 : c31 176 9 = nI j := by rw [e31, c_up_self, hs]
        have a184 : c31 184 = fun k => if k = q then x else c10 184 k := by rw [e31, c_up_ne (by decide), e26, c_up_ne (by decide), e23, c_up_row, c_row_self]
        have a185 : c31 185 = fun k => if k = q then y else c10 185 k := by rw [e31, c_up_ne (by decide), e26, c_up_row, c_row_self, e23, c_up_ne (by decide)]
        have a184' : c31 184 = c10 184 := by
          rw [a184]
          funext k
          by_cases ek : k = q
          · rw [if_pos ek, ek]; exact hyes.symm
          · rw [if_neg ek]
        have oth : ∀ a, a ≠ 176 → a ≠ 184 → a ≠ 185 → c31 a = c10 a := fun a b1 b2 b3 => by rw [e31, c_up_ne b1, e26, c_up_ne b3, e23, c_up_ne b2]
        rw [v31]
        refine hk c31 (h.draft _ (fun a b1 b2 b3 => oth a (by omega) b2 b3) (fun k hk9 => by rw [e31, c_up_at hk9, e26, c_up_ne (by decide), e23, c_up_ne (by decide)]) ?_) (fun a ha => oth a (by omega) (by omega) (by omega))
        unfold MD
        rw [ecn, a184', a185]
        refine ⟨v31, fun k hk1 => ?_, fun p hp hdp => ?_, d4⟩
        · obtain ⟨p, p1, p2, p3, p4⟩ := d2 k hk1
          by_cases ek : k = q
          · have hpi : p = i := (nI_eq (by omega) hl1).mp (by rw [← p2, ek, hyes, hl2])
            exact ⟨p, p1, p2, by show (if k = q then y else _) = setH σ.2.2.1 i y p; unfold setH; rw [if_pos ek, if_pos hpi], by show ¬ setH σ.2.2.1 i y p = -1; unfold setH; rw [if_pos hpi]; exact hy1⟩
          · have hpi : ¬ p = i := fun w => ek (d4 k q hk1 hqj (by rw [p2, i2, w]))
            exact ⟨p, p1, p2, by show (if k = q then y else _) = setH σ.2.2.1 i y p; unfold setH; rw [if_neg ek, if_neg hpi]; exact p3, by show ¬ setH σ.2.2.1 i y p = -1; unfold setH; rw [if_neg hpi]; exact p4⟩
        · by_cases ep : p = i
          · exact ⟨q, hqj, by rw [ep]; exact i2⟩
          · have hdp' : ¬ σ.2.2.1 p = -1 := by unfold setH at hdp; rw [if_neg ep] at hdp; exact hdp
            exact d3 p hp hdp'
      · show c26 176 9 = nI j
        rw [e26, c_up_ne (by decide), e23, c_up_ne (by decide), d1]
      · rw [e26, c_up_ne (by decide), e23, c_up_ne (by decide), d1] at g7
        exact absurd ((nI_eq (by omega) (by omega)).mp g7) (by omega)
  · have hje2 : j < e := by
      rcases Nat.lt_or_ge j e with w | w
      · exact w
      · exact absurd (nI_le w (by omega)) g5
    rw [nI_clamp (by omega)]
    refine ⟨mk_a2.1, vp_in_nI (by omega) (by decide), fun s => ∃ q', s = nI q' ∧ ((q' = e ∧ ∀ k, k < j + 1 → ¬ c10 184 k = x) ∨ (q' < j + 1 ∧ c10 184 q' = x)), fun s hs => ?_, fun g6 => ?_, fun g6 => ⟨j, rfl, Or.inr ⟨by omega, g6⟩⟩⟩
    · obtain ⟨q', h1, h2⟩ := hs
      exact ⟨e - (j + 1), by omega, j + 1, q', rfl, by omega, (nI_succ j).symm, h1, h2⟩
    · refine ⟨q, rfl, ?_⟩
      rcases hq with ⟨w1, w2⟩ | ⟨w1, w2⟩
      · refine Or.inl ⟨w1, fun k hk1 => ?_⟩
        by_cases ek : k = j
        · rw [ek]; exact g6
        · exact w2 k (by omega)
      · exact Or.inr ⟨by omega, w2⟩
theorem p_entry {c : cM} {σ : Sg} {x y : Int32} {J : cM → Prop} (h : Inv c σ) (hJ : ∀ c σ, Inv c σ → J c) : f_P_entry 18 x y c (fun v c1 => kd 176 = 7 ∧ f_Mo_entry 176 x y c1 (fun v' c2 => Fin2 J v v' c2)) :=
  pairX (FP := fun c K => f_P_entry 18 x y c K) (FM := fun c K => f_Mo_entry 176 x y c K) (entX σ x y) h hJ (entX_V h.2.2) (fun _ _ _ hR hC hk => s_entry hR hC h.2.2 hk) (fun _ _ hM hk => m_entry hM h.2.2 hk)
