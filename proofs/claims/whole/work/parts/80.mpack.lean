def MP (c : cM) (w : Wst) (y27 y28 y29 : Int32) : Prop := MW c w.1 ∧ (w.2.1 = none → y27 = -1) ∧ (∀ j, w.2.1 = some j → y27 = nI j ∧ y29 = nI w.2.2.1) ∧ y28 = nI w.2.2.2.1
theorem hb_c : hb 1346454347 4 = [80, 65, 67, 75] ∧ hb 2 4 = [0, 0, 0, 2] := by decide +kernel
theorem hb_n : ∀ n, n < 17 → hb (nI n) 4 = [0, 0, 0, nI n &&& 255] := by decide +kernel
theorem rep_s (j : Nat) (v : Int32) : List.replicate (j + 1) v = List.replicate j v ++ [v] := List.replicate_succ'
theorem m_zeros {c : cM} {P : List Int32} {K : cM → Prop} {F : cM → Prop} (h : MW c P) (hl : P.length + 3 ≤ 2400) (hF : ∀ c', MW c' (P ++ [0, 0, 0]) → Fo c c' → F c') : ∃ I7 : Nat → Int32 → cM → Prop, (∃ n, I7 n 0 c) ∧ ∀ (n8 : Nat) (y11 : Int32) (c12 : cM), I7 n8 y11 c12 → ((3 ≤ y11) → F c12) ∧ (¬ (3 ≤ y11) → f_Mo_write 176 0 c12 (fun c190 => ∃ m, m < n8 ∧ I7 m (y11 + 1) c190)) := by
  refine ⟨fun m y c' => ∃ j, m + j = 3 ∧ y = nI j ∧ MW c' (P ++ List.replicate j 0) ∧ Fo c c', ⟨3, 0, rfl, rfl, by rw [List.replicate_zero, List.append_nil]; exact h, Fo.rf c⟩, ?_⟩
  rintro m y c12 ⟨j, hm, rfl, h12, f12⟩
  refine ⟨fun g => ?_, fun g => ?_⟩
  · have g1 : 3 ≤ j := (nI_leI (a := 3) (by decide) (by omega)).mp g
    have : j = 3 := by omega
    subst this
    exact hF c12 h12 f12
  · have g1 : j < 3 := by
      rcases Nat.lt_or_ge j 3 with w | w
      · exact w
      · exact absurd (nI_le (a := 3) w (by omega)) g
    refine m_write (v := 0) h12 (by rw [List.length_append, List.length_replicate]; omega) (by decide) (fun c' h' f' => ⟨m - 1, by omega, j + 1, by omega, (nI_succ j).symm, ?_, f12.tr f'⟩)
    rw [rep_s, ← List.append_assoc]
    exact h'
theorem m_pack {c : cM} {σ : Sg} {K : Int32 → cM → Prop} (h : MR c σ) (hV : VS σ) (hk : ∀ c', MR c' (pakX σ).2 → (∀ a, a < 176 → c' a = c a) → K (pakX σ).1 c') : f_Mo_pack 176 c K := by
  have k7 := mk_k.1
  have hn := hV.2.1
  have hVT := hV.1
  obtain ⟨m0, mT, -⟩ := id h
  have l177 : ln 177 = 33 := mk_l.1
  have l178 : ln 178 = 33 := mk_l.2.1
  have l179 : ln 179 = 3960 := mk_l.2.2.1
  have l192 : ln 192 = 400 := mk_l3.2.2
  generalize hths : σ.1 = ths at *
  unfold f_Mo_pack
  rw [mk_k.2.1, mk_k.2.2.1, mk_k.2.2.2.1, mk_k3.2.2, l177, l178, l179, l192]
  refine ⟨k7, ?_⟩
  rintro c2 e2
  have F2 : Fo c c2 := ⟨fun a h1 h2 => by rw [e2, c_up_ne h1], fun k h1 => by rw [e2, c_up_at h1]⟩
  have W2 : MW c2 [] := ⟨by rw [e2, c_up_self]; rfl, fun k hk => absurd hk (Nat.not_lt_zero _)⟩
  refine m_write (v := 80) W2 (by decide) (by decide) (fun c3 h3 f3 => m_write (v := 65) h3 (by decide) (by decide) (fun c4 h4 f4 => m_write (v := 67) h4 (by decide) (by decide) (fun c5 h5 f5 => m_write (v := 75) h5 (by decide) (by decide) (fun c6 h6 f6 => ?_))))
  have F6 : Fo c c6 := F2.tr (f3.tr (f4.tr (f5.tr f6)))
  have h6' : MW c6 [80, 65, 67, 75] := h6
  refine m_zeros (K := fun _ => True) h6' (by decide) (fun c12 h12 f12 => ?_)
  refine m_write (v := 2) h12 (by decide) (by decide) (fun c14 h14 f14 => ?_)
  have F14 : Fo c c14 := F6.tr (f12.tr f14)
  refine m_zeros (K := fun _ => True) h14 (by decide) (fun c20 h20 f20 => ?_)
  have F20 : Fo c c20 := F14.tr f20
  have c20e : c20 176 0 = nI ths.length := by rw [F20.2 0 (by decide)]; exact m0
  rw [c20e]
  refine m_write h20 (by decide) rfl (fun c22 h22 f22 => ?_)
  have F22 : Fp c c22 := (F20.tr f22).fp
  have W22 : MW c22 (wK ths 0).1 := by
    show MW c22 (hb 1346454347 4 ++ hb 2 4 ++ hb (nI ths.length) 4)
    rw [hb_c.1, hb_c.2, hb_n ths.length (by omega)]
    exact h22
  refine ⟨fun m y27 y28 y29 y30 c' => ∃ t, m + t = 3 ∧ y30 = nI (t + 1) ∧ MP c' (wK ths t) y27 y28 y29 ∧ Fp c c', ⟨3, 0, rfl, rfl, ⟨W22, fun _ => rfl, fun j q => (by cases q), rfl⟩, F22⟩, ?_⟩
  rintro m y27 y28 y29 y30 c31 ⟨t, hm, rfl, h31, f31⟩
  refine ⟨fun g => ?_, fun g => ?_⟩
  · have g1 : 3 < t + 1 := (nI_ltI (a := 3) (by decide) (by omega)).mp g
    have : t = 3 := by omega
    subst this
    have ok := wK_ok hVT hn 3 (by decide)
    have top := ok.top hn
    rintro c33 e33
    rw [h31.1.1, show nI (wK ths 3).1.length + 20 = nI ((wK ths 3).1.length + 20) from nI_add _ 20] at e33
    refine m_sealPack (P := (wK ths 3).1) (by rw [e33, c_up_self]) (by omega) (fun k hk2 => by rw [e33, c_up_ne (by decide)]; exact h31.1.2 k hk2) ok.1 (fun c34 h34 f34 => ?_)
    have c34e : c34 176 17 = nI ((wK ths 3).1.length + 20) := by rw [f34.2 17 (by decide), e33, c_up_self]
    rw [c34e]
    have hk' := hk c34
    unfold pakX at hk'
    rw [hths] at hk'
    have E33 : ∀ a, a ≠ 176 → c33 a = c31 a := fun a ha => by rw [e33, c_up_ne ha]
    refine hk' ?_ (fun a ha => by rw [f34.1 a (by omega) (by omega) (by omega) (by omega) (by omega), E33 a (by omega), f31.1 a (by omega) (by omega) (by omega)])
    have := MR.pack (c' := c34) h (selP (wK ths 3).1) (fun a q1 q2 q3 => by rw [f34.1 a (by omega) (by omega) (by omega) (by omega) (by omega), E33 a (by omega), f31.1 a (by omega) (by omega) (by omega)]) (fun k q1 q2 => by rw [f34.2 k (by omega), e33, c_up_at q1, f31.2 k q1]) (by rw [c34e, selP_len]) (fun k hk2 => h34 k (by rw [selP_len] at hk2; exact hk2))
    rw [hths] at this
    exact this
  · have g1 : t < 3 := by
      rcases Nat.lt_or_ge t 3 with q | q
      · exact q
      · exact absurd (nI_lt (a := 3) (by omega) (by omega)) g
    have ok := wK_ok hVT hn t (by omega)
    refine ⟨fun m' y39 y40 y41 y42 c' => ∃ i, m' + i = ths.length ∧ y42 = nI i ∧ MP c' (wI ths (t + 1) i (wK ths t)) y39 y40 y41 ∧ Fp c c', ⟨ths.length, 0, rfl, rfl, h31, f31⟩, ?_⟩
    rintro m' y39 y40 y41 y42 c43 ⟨i, hm', rfl, h43, f43⟩
    have c43e : c43 176 0 = nI ths.length := by rw [f43.2 0 (by decide)]; exact m0
    rw [c43e]
    refine ⟨fun g2 => ?_, fun g2 => ?_⟩
    · have g3 : ths.length ≤ i := (nI_leI (by omega) (by omega)).mp g2
      have : i = ths.length := by omega
      subst this
      exact ⟨m - 1, by omega, t + 1, by omega, (nI_succ _).symm, h43, f43⟩
    · have g3 : i < ths.length := by
        rcases Nat.lt_or_ge i ths.length with q | q
        · exact q
        · exact absurd (nI_le q (by omega)) g2
      obtain ⟨x, hx⟩ := get_some g3
      have oki := wI_ok hVT hn (by omega) ok i (by omega)
      have Tx := f43.mt (mT i x hx)
      have vx := hVT x (List.mem_of_getElem? hx)
      have vl := vx.2.2
      generalize hwi : wI ths (t + 1) i (wK ths t) = w at *
      obtain ⟨P1, P2, P3, P4⟩ := h43
      rw [nI_clamp (show i < 2 ^ 31 by omega), Tx.1, P1.1]
      refine ⟨mk_a.1, vp_in_nI (by omega) (by decide), fun a b d c' => MP c' (wI ths (t + 1) (i + 1) (wK ths t)) a b d ∧ Fp c c', ?_, fun g4 => ?_, fun g4 => ?_⟩
      · rintro a b d c' ⟨q1, q2⟩
        exact ⟨m' - 1, by omega, i + 1, by omega, (nI_succ _).symm, q1, q2⟩
      · rw [wI_n hx g4, hwi]
        exact ⟨⟨P1, P2, P3, P4⟩, f43⟩
      · rw [wI_t hx g4, hwi]
        obtain ⟨-, rm, -⟩ := oki.room hn hx g4 (by omega)
        obtain ⟨o1, o2, o3, o4, o5, -⟩ := id oki
        have top : w.1.length ≤ 2037 := by omega
        refine ⟨fun s c' => Fp c c' ∧ MW c' w.1 ∧ ((∃ d, dfo ths w x = some d ∧ s = nI d.length ∧ ∀ k, k < d.length → c' 192 k = d.getD k 0) ∨ (dfo ths w x = none ∧ nI x.2.1.length ≤ s)), ?_, ?_⟩
        · rintro s c137 ⟨q1, q2, q3⟩
          have Tx7 := q1.mt (mT i x hx)
          rw [Tx7.2.1]
          refine ⟨mk_a.2.1, vp_in_nI (by omega) (by decide), fun a b c' => ∃ D out, b = nI D.length ∧ (∀ k, k < D.length → c' 192 k = D.getD k 0) ∧ D.length ≤ 123 ∧ byt D ∧ MW c' out ∧ out.length + D.length + 11 ≤ 2400 ∧ Fp c c' ∧ out ++ wrp D = (wt ths w i x (t + 1)).1 ∧ a = nI (wt ths w i x (t + 1)).2.2.2.1, ?_, fun g5 => ?_, fun g5 => ?_⟩
          · rintro a b c156 ⟨D, out, rfl, d1, d2, d3, d4, d5, d6, d7, rfl⟩
            refine m_writeWrapped d4 d1 d2 d3 d5 (fun c159 h159 f159 => ⟨⟨by rw [← d7]; exact h159, ?_, ?_, rfl⟩, d6.tr f159.fp⟩)
            · intro q
              unfold wt at q
              cases e : dfo ths w x with
              | none => rw [e] at q; cases q
              | some d => rw [e] at q; cases q
            · intro j q
              unfold wt at q ⊢
              cases e : dfo ths w x with
              | none => rw [e] at q; cases q; exact ⟨rfl, rfl⟩
              | some d => rw [e] at q; cases q; exact ⟨rfl, rfl⟩
          · have hd : dfo ths w x = none := by
              rcases q3 with ⟨d, r1, r2, -⟩ | ⟨r1, -⟩
              · obtain ⟨j, z, e1, e2, e3, e4, e5, e6⟩ := dfo_s r1
                rw [r2] at g5
                have := (nI_leI (by omega) (by omega)).mp g5
                omega
              · exact r1
            have ew : wt ths w i x (t + 1) = wtW w i (t + 1) x.2.1 := by unfold wt; rw [hd]; rfl
            rw [ew]
            have mb := mkB_len (t + 1) x.2.1.length
            refine m_writeMark q2 (by omega) (by omega) (by omega) (fun c160 h160 f160 => ?_)
            refine ⟨fun n y c' => ∃ k, n + k = x.2.1.length ∧ y = nI k ∧ (∀ q, q < k → c' 192 q = x.2.1.getD q 0) ∧ MW c' (w.1 ++ mkB (t + 1) x.2.1.length) ∧ Fp c c', ⟨x.2.1.length, 0, rfl, rfl, fun q hq => absurd hq (Nat.not_lt_zero _), h160, q1.tr f160.fp⟩, ?_⟩
            rintro n y c166 ⟨k, hn1, rfl, a1, a2, a3⟩
            refine ⟨fun g6 => ?_, fun g6 => ?_⟩
            · have g7 : x.2.1.length ≤ k := (nI_leI (by omega) (by omega)).mp g6
              exact ⟨x.2.1, _, rfl, fun q hq => a1 q (by omega), by omega, vx.2.1, a2, by rw [List.length_append]; omega, a3, rfl, rfl⟩
            · have g7 : k < x.2.1.length := by
                rcases Nat.lt_or_ge k x.2.1.length with q | q
                · exact q
                · exact absurd (nI_le q (by omega)) g6
              have T6 := a3.mt (mT i x hx)
              rw [i120, nI_add, nI_clamp (show 120 * i + k < 2 ^ 31 by omega), nI_clamp (show k < 2 ^ 31 by omega), T6.2.2.1 k g7]
              refine ⟨mk_a.2.2.1, vp_in_nI (by omega) (by decide), mk_a3.2.2, vp_in_nI (by omega) (by decide), ?_⟩
              rintro c172 e172
              refine ⟨n - 1, by omega, k + 1, by omega, (nI_succ k).symm, fun q hq => ?_, ⟨by rw [e172, c_up_ne (by decide)]; exact a2.1, fun q hq => by rw [e172, c_up_ne (by decide)]; exact a2.2 q hq⟩, ⟨fun a r1 r2 r3 => by rw [e172, c_up_ne r3]; exact a3.1 a r1 r2 r3, fun q r1 => by rw [e172, c_up_ne (by decide)]; exact a3.2 q r1⟩⟩
              rw [e172]
              by_cases e : q = k
              · rw [e, c_up_self]
              · rw [c_up_at e]; exact a1 q (by omega)
          · rcases q3 with ⟨d, r1, r2, r3⟩ | ⟨r1, r2⟩
            · obtain ⟨j, z, e1, e2, e3, e4, e5, e6⟩ := dfo_s r1
              have vz := hVT z (List.mem_of_getElem? e2)
              have dp := dif_p (x := z.2.1) (y := x.2.1) vz.2.2 vx.2.2 vx.2.1
              rw [← e5] at dp
              have ew : wt ths w i x (t + 1) = wtD w i d := by unfold wt; rw [r1]; rfl
              rw [ew, r2, (P3 j e1).2, pk_sub o3]
              have mb := mkB_len 6 d.length
              have db := dsB_len (w.1.length - w.2.2.1)
              refine m_writeMark (t := 6) q2 (by omega) (by decide) (by omega) (fun c173 h173 f173 => ?_)
              refine m_writeDistance h173 (by rw [List.length_append]; omega) (by omega) (fun c174 h174 f174 => ?_)
              refine ⟨d, _, rfl, fun k hk2 => by rw [f174.1 192 (by decide) (by decide), f173.1 192 (by decide) (by decide)]; exact r3 k hk2, by omega, dp.2, h174, by rw [List.length_append, List.length_append]; omega, q1.tr (f173.tr f174).fp, rfl, ?_⟩
              rw [P4]
              exact (nI_succ _).symm
            · exact absurd r2 g5
        · have no : dfo ths w x = none → Fp c c43 ∧ MW c43 w.1 ∧ ((∃ d, dfo ths w x = some d ∧ c43 178 i = nI d.length ∧ ∀ k, k < d.length → c43 192 k = d.getD k 0) ∨ (dfo ths w x = none ∧ nI x.2.1.length ≤ c43 178 i)) := fun e => ⟨f43, P1, Or.inr ⟨e, by rw [Tx.2.1]; exact nI_le (Nat.le_refl _) (by omega)⟩⟩
          refine ⟨dfo ths w x = none, fun e => ⟨mk_a.2.1, vp_in_nI (by omega) (by decide), no e⟩, fun g5 => ?_, fun g5 => ?_⟩
          · cases e : w.2.1 with
            | none => exact dfo_n e
            | some j =>
              rw [(P3 j e).1] at g5
              exact absurd g5 (nI_pos (by have := o5 j e; omega))
          · cases e : w.2.1 with
            | none =>
              rw [P2 e] at g5
              exact absurd (by decide) g5
            | some j =>
              have hj := o5 j e
              obtain ⟨z, hz⟩ := get_some hj
              have Tz := f43.mt (mT j z hz)
              have vz := hVT z (List.mem_of_getElem? hz)
              rw [(P3 j e).1, nI_clamp (show j < 2 ^ 31 by omega), Tz.1, P4]
              refine ⟨vp_in_nI (by omega) (by decide), fun g6 => ?_, fun g6 => ⟨fun g7 => ?_, fun g7 => ?_⟩⟩
              · rw [dfo_at e hz, if_neg]
                intro q
                exact g6 (q.1.trans g4)
              · have g8 : 3 ≤ w.2.2.2.1 := (nI_leI (a := 3) (by decide) (by omega)).mp g7
                rw [dfo_at e hz, if_neg]
                intro q
                have := q.2.1
                omega
              · have g8 : w.2.2.2.1 < 3 := by
                  rcases Nat.lt_or_ge w.2.2.2.1 3 with q | q
                  · exact q
                  · exact absurd (nI_le (a := 3) q (by omega)) g7
                have dp := dif_p (x := z.2.1) (y := x.2.1) vz.2.2 vx.2.2 vx.2.1
                refine m_differ (by omega) (by omega) Tz Tx vz.2.2 vx.2.2 (fun c187 h187 f187 => ⟨⟨fun a r1 r2 r3 => by rw [f187 a r3]; exact f43.1 a r1 r2 r3, fun k r1 => by rw [f187 176 (by decide)]; exact f43.2 k r1⟩, ⟨by rw [f187 176 (by decide)]; exact P1.1, fun k hk2 => by rw [f187 190 (by decide)]; exact P1.2 k hk2⟩, ?_⟩)
                by_cases g9 : (dif z.2.1 x.2.1).length < x.2.1.length
                · exact Or.inl ⟨_, by rw [dfo_at e hz, if_pos ⟨g6.trans g4.symm, g8, g9⟩], rfl, h187⟩
                · exact Or.inr ⟨by rw [dfo_at e hz, if_neg (fun q => g9 q.2.2)], nI_le (by omega) (by omega)⟩
theorem p_pack {c : cM} {σ : Sg} {J : cM → Prop} (h : Inv c σ) (hJ : ∀ c σ, Inv c σ → J c) : f_P_pack 18 c (fun v c1 => kd 176 = 7 ∧ f_Mo_pack 176 c1 (fun v' c2 => Fin2 J v v' c2)) :=
  pairX (FP := fun c K => f_P_pack 18 c K) (FM := fun c K => f_Mo_pack 176 c K) (pakX σ) h hJ (pakX_V h.2.2) (fun _ _ _ hR hC hk => s_pack hR hC h.2.2 hk) (fun _ _ hM hk => m_pack hM h.2.2 hk)
