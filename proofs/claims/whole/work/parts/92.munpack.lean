theorem m_unpack {c : cM} {σ : Sg} {K : Int32 → cM → Prop} (h : MR c σ) (hV : VS σ) (hk : ∀ c', MR c' (unpX σ).2 → (∀ a, a < 176 → c' a = c a) → K (unpX σ).1 c') : f_Mo_unpack 176 c K := by
  have l190 : ln 190 = 2400 := mk_l3.1
  have hb := hV.2.2.2.2.2.2.1.1
  have hl := hV.2.2.2.2.2.2.1.2
  have hv16 := hV.2.1
  have hW : MW c σ.2.2.2.2 := h.2.2.2.2.2
  unfold unpX at hk
  generalize σ.2.2.2.2 = P at hb hl hk hW
  unfold f_Mo_unpack
  rw [mk_k3.1, l190, hW.1]
  refine ⟨mk_k.1, fun g => ?_, fun g => ?_⟩
  · have g1 : ¬ P.length = 0 := fun q => g (by rw [q]; rfl)
    rw [cif_f g1] at hk
    refine m_begins hW hb hl ⟨fun g2 => ?_, fun g2 => ?_⟩
    · have hB : bgs P := by
        rcases Classical.em (bgs P) with q | q
        · exact q
        · exact absurd (pI_f q) g2
      have g32 := hB.1
      rw [cif_t hB] at hk
      refine m_isSealed hW hb hl hB.1 (fun c6 f6 => ⟨fun g3 => ?_, fun g3 => ?_⟩)
      · have hS : sld P := by
          rcases Classical.em (sld P) with q | q
          · exact q
          · exact absurd (pI_f q) g3
        rw [cif_t hS] at hk
        have u6 := f6.fu
        have p6 : ∀ k, k < P.length → c6 190 k = nI (bv P k) := fun k hk2 => by rw [u6.pk, hW.2 k hk2]; exact (bv_e hb hk2).1
        have b8 := (bv_e hb (show 8 < P.length by omega)).2
        have b9 := (bv_e hb (show 9 < P.length by omega)).2
        have b10 := (bv_e hb (show 10 < P.length by omega)).2
        have b11 := (bv_e hb (show 11 < P.length by omega)).2
        have tnE : tn P = 16777216 * bv P 8 + 65536 * bv P 9 + 256 * bv P 10 + bv P 11 := be4_nat hb (i := 8) (by omega)
        have full : ¬ tn P ≤ 16 → K (-2) c6 := fun q => by
          rw [cif_f q] at hk
          exact hk c6 (u6.mr h hV) u6.lo
        have z0 : ∀ b, b < 256 → (nI b = 0 ↔ b = 0) := fun b hb2 => nI_eq (b := 0) (by omega) (by decide)
        rw [show Int32.toNatClampNeg 8 = 8 from rfl, show Int32.toNatClampNeg 9 = 9 from rfl, show Int32.toNatClampNeg 10 = 10 from rfl, show Int32.toNatClampNeg 11 = 11 from rfl, p6 8 (by omega), p6 9 (by omega), p6 10 (by omega), p6 11 (by omega)]
        have vi : ∀ n, n < 2400 → vp_in (nI n) 2400 := fun n hn => vp_in_nI hn (by decide)
        refine ⟨mk_a3.1, vi 8 (by decide), fun q => full (by have : ¬ bv P 8 = 0 := fun w => q ((z0 _ b8).mpr w); omega), fun q8 => ⟨vi 9 (by decide), fun q => full (by have : ¬ bv P 9 = 0 := fun w => q ((z0 _ b9).mpr w); omega), fun q9 => ⟨vi 10 (by decide), fun q => full (by have : ¬ bv P 10 = 0 := fun w => q ((z0 _ b10).mpr w); omega), fun q10 => ⟨vi 11 (by decide), fun q11 => ?_, fun q => full (by have : ¬ bv P 11 ≤ 16 := fun w => q (nI_le (b := 16) w (by decide)); omega)⟩⟩⟩⟩
        have r8 := (z0 _ b8).mp q8
        have r9 := (z0 _ b9).mp q9
        have r10 := (z0 _ b10).mp q10
        have r11 : bv P 11 ≤ 16 := (nI_leI (b := 16) (by omega) (by decide)).mp q11
        have tn11 : tn P = bv P 11 := by omega
        rw [cif_t (show tn P ≤ 16 by omega)] at hk
        rw [← tn11]
        rw [← tn11] at r11
        generalize tn P = n at hk r11
        rintro c18 e18 c19 e19 c20 e20 c21 e21
        have o19 : c19 176 17 - 20 = nI (P.length - 20) := by
          rw [e19, c_up_at (by decide), e18, c_up_at (by decide), f6.2 17 (by decide), hW.1]
          exact pk_sub (b := 20) (by omega)
        rw [o19] at e20
        have o21 : ∀ a, a ≠ 176 → c21 a = c6 a := fun a ha => by rw [e21, c_up_ne ha, e20, c_up_ne ha, e19, c_up_ne ha, e18, c_up_ne ha]
        have U21 : FU c c21 := u6.tr (FU.fld o21 (fun f h1 h2 h3 h4 h5 => by rw [e21, c_up_at h4, e20, c_up_at h3, e19, c_up_at h2, e18, c_up_at h5]))
        have a20 : c21 176 20 = nI 12 := by rw [e21, c_up_at (by decide), e20, c_up_at (by decide), e19, c_up_self]; rfl
        have a21 : c21 176 21 = nI (P.length - 20) := by rw [e21, c_up_at (by decide), e20, c_up_self]
        have a22 : c21 176 22 = 0 := by rw [e21, c_up_self]
        have a23 : c21 176 23 = nI n := by rw [e21, c_up_at (by decide), e20, c_up_at (by decide), e19, c_up_at (by decide), e18, c_up_self]
        have heA : rdA P n = rsb (rdL P (P.length - 20) n) (fun x => if x.2 < P.length - 20 then .inl (-5) else .inr x.1) := rfl
        generalize he : P.length - 20 = e at *
        have fail : ∀ w c', rdA P n = .inl w → FU c c' → K w c' := fun w c' q1 q2 => by
          rw [q1] at hk
          exact hk c' (q2.mr h hV) q2.lo
        refine ⟨fun m y26 c27 => FU c c27 ∧ ((∃ k R p, m + k = 17 ∧ k ≤ n ∧ y26 = nI k ∧ rdL P e k = .inr (R, p) ∧ Hd c27 e (.inr p) ∧ (∀ (i : Nat) (x : Rd), R[i]? = some x → c27 191 i = nI x.1 ∧ slC c27 (16 + i) x.2.1 x.2.2) ∧ c27 176 21 = nI e ∧ c27 176 23 = nI n) ∨ (∃ w, rdA P n = .inl w ∧ Hd c27 e (.inl w))), ⟨17, U21, Or.inl ⟨0, [], 12, rfl, Nat.zero_le _, rfl, rfl, ⟨a20, a22, by omega⟩, fun i x hx => (by cases hx), a21, a23⟩⟩, ?_⟩
        rintro m y26 c27 ⟨f27, (⟨k, R, p, hm, hkn, rfl, hr, h27, hR, w21, w23⟩ | ⟨w, hw, h27⟩)⟩
        · obtain ⟨x1, x2, x3, x4, x5⟩ := rdL_ok hb (by omega) (by omega) k R p hr
          rw [w23]
          refine ⟨k = n, fun hkn2 => ?_, fun g4 => ?_, fun g4 => ⟨fun q => absurd h27.2.1 q, fun _ => ?_⟩⟩
          · subst hkn2
            rw [hr, rsb_r] at heA
            rw [w21, h27.1]
            refine ⟨fun c36 => (∃ w, rdA P k = .inl w ∧ Hd c36 e (.inl w) ∧ FU c c36) ∨ (rdA P k = .inr R ∧ c36 = c27), ?_, fun q => absurd h27.2.1 q, fun _ => ⟨fun q => ?_, fun q => ?_⟩⟩
            · rintro c36 (⟨w, q1, q2, q3⟩ | ⟨q1, rfl⟩)
              · refine ⟨fun q => absurd q q2.w, fun _ => ?_⟩
                rw [q2.1]
                exact fail w c36 q1 q3
              · refine ⟨fun _ => ?_, fun q => absurd h27.2.1 q⟩
                rw [q1] at hk
                have M36 := f27.mr h hV
                have lN : (nmL R).length = R.length := List.length_map _
                have VN : ∀ x ∈ nmL R, VT x := nmL_V x3
                have eX : resX σ R = if (un σ.1 (nmL R) R.length).length ≤ 16 then (nI ((un σ.1 (nmL R) R.length).length - σ.1.length), un σ.1 (nmL R) R.length, σ.2) else (-2, σ) := rfl
                rw [M36.1]
                refine ⟨fun m y c45 => ∃ i, m + i = k ∧ y = nI i ∧ MR c45 (un σ.1 (nmL R) i, σ.2) ∧ (un σ.1 (nmL R) i).length ≤ 16 ∧ (∀ (j : Nat) (x : Rd), R[j]? = some x → slC c45 (16 + j) x.2.1 x.2.2) ∧ c45 176 23 = nI k ∧ ∀ a, a < 176 → c45 a = c a, ⟨k, 0, rfl, rfl, M36, hv16, fun j x hx => (hR j x hx).2, w23, f27.lo⟩, ?_⟩
                rintro m' y c45 ⟨i, hmi, rfl, M45, hU, hsl, w45, lo45⟩
                have hle := un_le σ.1 (nmL R) 0 i
                rw [Nat.zero_add] at hle
                have hle' : σ.1.length ≤ (un σ.1 (nmL R) i).length := hle
                rw [w45, M45.1]
                refine ⟨fun g5 => ?_, fun g5 => ?_⟩
                · have g6 : k ≤ i := (nI_leI (by omega) (by omega)).mp g5
                  have : i = k := by omega
                  subst this
                  rw [x1, if_pos hU] at eX
                  simp only [eX] at hk
                  show K (nI (un σ.1 (nmL R) i).length - nI σ.1.length) c45
                  rw [pk_sub hle']
                  exact hk c45 M45 lo45
                · have g6 : i < k := by
                    rcases Nat.lt_or_ge i k with w | w
                    · exact w
                    · exact absurd (nI_le w (by omega)) g5
                  obtain ⟨x, hx⟩ := get_some (l := R) (j := i) (by omega)
                  have vx := x3 x (List.mem_of_getElem? hx)
                  have hLi : (nmL R)[i]? = some (nmT x) := by unfold nmL; rw [List.getElem?_map, hx]; rfl
                  have VU := un_V hV VN i hU
                  rw [show (16 : Int32) + nI i = nI (16 + i) from nI_add 16 i]
                  refine m_call (i := 16 + i) (by omega) (hsl i x hx) vx.2.1 vx.2.2.1 (fun c47 n47 fc => ?_)
                  have M47 : MR c47 (un σ.1 (nmL R) i, σ.2) := M45.loc VU (fun q hq => fc.2.1 q (by omega)) (fun i _ => by rw [fc.1 177 (by decide) (by decide) (by decide) (by decide) (by decide)]) (fun i _ => by rw [fc.1 178 (by decide) (by decide) (by decide) (by decide) (by decide)]) (fun i _ => by rw [fc.1 179 (by decide) (by decide) (by decide) (by decide) (by decide)]) (fun q hq => fc.2.2 q (by omega)) (fun a ha => fc.1 a (by omega) (by omega) (by omega) (by omega) (by omega))
                  have sl47 : ∀ (j : Nat) (x : Rd), R[j]? = some x → slC c47 (16 + j) x.2.1 x.2.2 := fun j y hy => (hsl j y hy).keep (fc.1 177 (by decide) (by decide) (by decide) (by decide) (by decide)) (fc.1 178 (by decide) (by decide) (by decide) (by decide) (by decide)) (fc.1 179 (by decide) (by decide) (by decide) (by decide) (by decide))
                  have lo47 : ∀ a, a < 176 → c47 a = c a := fun a ha => (fc.1 a (by omega) (by omega) (by omega) (by omega) (by omega)).trans (lo45 a ha)
                  have w47 : c47 176 23 = nI k := by rw [fc.2.1 23 (by decide)]; exact w45
                  have nmx : sameN (nmA c47 (16 + i)) (nmT x).2.2 := n47
                  have nj : ∀ (j : Nat) (y : Th), (un σ.1 (nmL R) i)[j]? = some y → sameN (nmA c47 j) y.2.2 := fun j y hy => (M47.2.1 j y hy).2.2.2
                  have hm1 := un_le σ.1 (nmL R) (i + 1) (k - (i + 1))
                  rw [show i + 1 + (k - (i + 1)) = k by omega] at hm1
                  refine m_sameAs (i := 16 + i) (by omega) M47.1 hU (fun v hv => ?_)
                  refine ⟨fun c' => MR c' (un σ.1 (nmL R) (i + 1), σ.2) ∧ (un σ.1 (nmL R) (i + 1)).length ≤ 16 ∧ (∀ (j : Nat) (x : Rd), R[j]? = some x → slC c' (16 + j) x.2.1 x.2.2) ∧ c' 176 23 = nI k ∧ ∀ a, a < 176 → c' a = c a, fun c' q => ⟨m' - 1, by omega, i + 1, by omega, (nI_succ i).symm, q⟩, ?_⟩
                  rcases hv with ⟨j, hj, hsj, rfl⟩ | ⟨hno, rfl⟩
                  · have hj' : j < (un σ.1 (nmL R) i).length := hj
                    obtain ⟨y, hy⟩ := get_some hj'
                    have hsy : sameN y.2.2 (nmT x).2.2 := ((nj j y hy).symm.trans hsj).trans nmx
                    have hf : fnd (un σ.1 (nmL R) i) (nmT x).2.2 = some j := fnd_some y hy hsy (fun i' z hi' hz hs2 => by
                      have := VU.2.2.1 i' j z y hz hy (hs2.trans hsy.symm)
                      omega)
                    refine ⟨fun _ => ?_, fun q => absurd (nI_pos' (by omega)) q⟩
                    rw [un_s hLi hf]
                    exact ⟨M47, hU, sl47, w47, lo47⟩
                  · have hf : fnd (un σ.1 (nmL R) i) (nmT x).2.2 = none := fnd_none (fun i' y hy hs2 => hno i' (List.getElem?_eq_some_iff.mp hy).1 (((nj i' y hy).trans hs2).trans nmx.symm))
                    refine ⟨fun q => absurd q (by decide), fun _ => ?_⟩
                    rw [M47.1]
                    refine ⟨fun g7 => ?_, fun g7 => ?_⟩
                    · have hlt : (un σ.1 (nmL R) i).length < 16 := by
                        rcases Nat.lt_or_ge (un σ.1 (nmL R) i).length 16 with w | w
                        · exact w
                        · exact absurd (by show nI (un σ.1 (nmL R) i).length = 16; rw [show (un σ.1 (nmL R) i).length = 16 by omega]; rfl) g7
                      refine m_copy (a := 16 + i) (by omega) (by show (un σ.1 (nmL R) i).length < 33; omega) ?_
                      rintro c60 e60
                      have e60' : c60 = c_up (cpS c47 (16 + i) (un σ.1 (nmL R) i).length) 176 0 (nI ((un σ.1 (nmL R) i).length + 1)) := by
                        rw [e60, cps_o (by decide) (by decide) (by decide) (by decide), M47.1, nI_succ]
                      have M60 := M47.cpy VU hlt (show 16 ≤ 16 + i by omega) (sl47 i x hx) vx.2.2.1 nmx e60'
                      rw [un_n hLi hf]
                      refine ⟨M60, by rw [List.length_append, List.length_singleton]; omega, fun j y hy => ?_, ?_, fun a ha => ?_⟩
                      · have hj := (List.getElem?_eq_some_iff.mp hy).1
                        have vy := (x3 y (List.mem_of_getElem? hy)).2.2.1
                        obtain ⟨s1, s2, s3⟩ := sl47 j y hy
                        refine ⟨?_, ?_, fun q hq => ?_⟩
                        · rw [e60', c_up_ne (by decide), cps_177]; show (if _ = _ then _ else _) = _; rw [if_neg (by omega)]; exact s1
                        · rw [e60', c_up_ne (by decide), cps_178]; show (if _ = _ then _ else _) = _; rw [if_neg (by omega)]; exact s2
                        · rw [e60', c_up_ne (by decide), cps_179]; unfold cpB; rw [if_neg (by omega)]; exact s3 q hq
                      · rw [e60', c_up_at (by decide), cps_o (by decide) (by decide) (by decide) (by decide)]; exact w47
                      · rw [e60', c_up_ne (by omega), cps_o (by omega) (by omega) (by omega) (by omega)]; exact lo47 a ha
                    · have e16 : (un σ.1 (nmL R) i).length = 16 := (nI_eq (b := 16) (by show (un σ.1 (nmL R) i).length < 2 ^ 31; omega) (by decide)).mp g7
                      rintro c61 e61
                      rw [un_n hLi hf, List.length_append, List.length_singleton] at hm1
                      rw [x1, if_neg (by omega)] at eX
                      simp only [eX] at hk
                      refine hk c61 ?_ (fun a ha => by rw [e61, c_up_ne (by omega)]; exact lo47 a ha)
                      obtain ⟨m1, m2, m3, m4, m5, m6, m7⟩ := M47
                      have o61 : ∀ a, a ≠ 176 → c61 a = c47 a := fun a ha => by rw [e61, c_up_ne ha]
                      have k61 : ∀ q, q ≠ 0 → c61 176 q = c47 176 q := fun q hq => by rw [e61, c_up_at hq]
                      refine ⟨by rw [e61, c_up_self], fun j y hy => (m2 j y (un_pre hy i)).keep (o61 _ (by decide)) (o61 _ (by decide)) (o61 _ (by decide)) (o61 _ (by decide)), ?_, ?_, ?_, ?_, ?_⟩
                      · rw [k61 7 (by decide), o61 183 (by decide)]; exact m3
                      · show MD c61 σ.2.2.1
                        unfold MD
                        rw [k61 9 (by decide), o61 184 (by decide), o61 185 (by decide)]
                        exact m4
                      · rw [o61 186 (by decide)]; exact m5
                      · rw [k61 17 (by decide)]; exact m6
                      · rw [o61 190 (by decide)]; exact m7
            · have q1 : e ≤ p := (nI_leI (by omega) (by omega)).mp q
              rw [if_neg (by show ¬ p < e; omega)] at heA
              exact Or.inr ⟨heA, rfl⟩
            · have q1 : p < e := by
                rcases Nat.lt_or_ge p e with w | w
                · exact w
                · exact absurd (nI_le w (by omega)) q
              rw [if_pos (show p < e from q1)] at heA
              rintro c63 e63
              refine Or.inl ⟨_, heA, ⟨by rw [e63, c_up_self], Or.inl rfl⟩, f27.tr (FU.fld (fun a ha => by rw [e63, c_up_ne ha]) (fun f _ _ _ h4 _ => by rw [e63, c_up_at h4]))⟩
          · have := (nI_leI (by omega) (by omega)).mp g4
            omega
          · have g5 : k < n := by
              rcases Nat.lt_or_ge k n with w | w
              · exact w
              · exact absurd (nI_le w (by omega)) g4
            have M27 : Me c27 P e := ⟨fun q hq => by rw [f27.pk]; exact hW.2 q hq, w21, hb, hl, by omega⟩
            have es := rdL_s hr
            refine m_readThing M27 h27 x1 (by omega) hR x3 x5 (fun c65 h65 f65 => ⟨m - 1, by omega, f27.tr f65.fu, ?_⟩)
            rcases h65 with ⟨t, L, q, et, hh, hs, hsl⟩ | ⟨w, ew, hh⟩
            · rw [et, rsb_r] at es
              refine Or.inl ⟨k + 1, _, q, by omega, by omega, (nI_succ k).symm, es, hh, fun i x hx => ?_, by rw [f65.2.1 21 (by decide) (by decide)]; exact w21, by rw [f65.2.1 23 (by decide) (by decide)]; exact w23⟩
              have hi := (List.getElem?_eq_some_iff.mp hx).1
              rw [List.length_append, List.length_singleton] at hi
              by_cases ei : i < R.length
              · rw [List.getElem?_append_left ei] at hx
                obtain ⟨y1, y2, y3, y4⟩ := hR i x hx
                have vx := (x3 x (List.mem_of_getElem? hx)).2.2.1
                exact ⟨by rw [f65.2.2.2.2.2 i (by omega)]; exact y1, by rw [f65.2.2.1 _ (by omega)]; exact y2, by rw [f65.2.2.2.1 _ (by omega)]; exact y3, fun q hq => by rw [f65.2.2.2.2.1 _ (by omega)]; exact y4 q hq⟩
              · have : i = k := by omega
                subst this
                rw [List.getElem?_append_right (by omega), x1, Nat.sub_self] at hx
                cases hx
                exact ⟨hs, hsl⟩
            · rw [ew, rsb_l] at es
              refine Or.inr ⟨w, ?_, hh⟩
              rw [heA, show n = (k + 1) + (n - (k + 1)) by omega, rdL_e es]
              rfl
        · have t : ∃ J37 : cM → Prop, (∀ (c36 : cM), J37 c36 → c36 = c27) ∧ J37 c27 := ⟨fun c' => c' = c27, fun _ q => q, rfl⟩
          refine ⟨True, fun _ => ⟨fun c' => c' = c27, ?_, fun _ => rfl, fun q => absurd q h27.w⟩, fun _ => True.intro, fun _ => ⟨fun _ => True.intro, fun q => absurd q h27.w⟩⟩
          rintro c36 rfl
          refine ⟨fun q => absurd q h27.w, fun _ => ?_⟩
          rw [h27.1]
          exact fail w c36 hw f27
      · have hS : ¬ sld P := pI_eq0.mp g3
        rw [cif_f hS] at hk
        exact hk c6 (f6.fu.mr h hV) f6.fu.lo
    · have hB : ¬ bgs P := pI_eq0.mp g2
      rw [cif_f hB] at hk
      exact hk c h (fun _ _ => rfl)
  · have g1 : P.length = 0 := (nI_eq (b := 0) (by omega) (by decide)).mp g
    rw [cif_t g1] at hk
    exact hk c h (fun _ _ => rfl)
theorem p_unpack {c : cM} {σ : Sg} {J : cM → Prop} (h : Inv c σ) (hJ : ∀ c σ, Inv c σ → J c) : f_P_unpack 18 c (fun v c1 => kd 176 = 7 ∧ f_Mo_unpack 176 c1 (fun v' c2 => Fin2 J v v' c2)) :=
  pairX (FP := fun c K => f_P_unpack 18 c K) (FM := fun c K => f_Mo_unpack 176 c K) (unpX σ) h hJ (unpX_V h.2.2) (fun _ _ _ hR hC hk => s_unpack hR hC h.2.2 hk) (fun _ _ hM hk => m_unpack hM h.2.2 hk)
