theorem be4_nat {P : List Int32} (hb : byt P) {i : Nat} (hi : i + 4 ≤ P.length) : (be4 (gL P) i).toBitVec.toNat = 16777216 * bv P i + 65536 * bv P (i + 1) + 256 * bv P (i + 2) + bv P (i + 3) := by
  have h0 := bv_e hb (show i < P.length by omega)
  have h1 := bv_e hb (show i + 1 < P.length by omega)
  have h2 := bv_e hb (show i + 2 < P.length by omega)
  have h3 := bv_e hb (show i + 3 < P.length by omega)
  unfold be4 gL
  rw [h0.1, h1.1, h2.1, h3.1]
  exact be_nat h0.2 h1.2 h2.2 h3.2
theorem bgs_iff {P : List Int32} (hb : byt P) (hl : 32 ≤ P.length) : bgs P ↔ (P.getD 0 0 = 80 ∧ P.getD 1 0 = 65 ∧ P.getD 2 0 = 67 ∧ P.getD 3 0 = 75) ∧ (P.getD 4 0 = 0 ∧ P.getD 5 0 = 0 ∧ P.getD 6 0 = 0 ∧ P.getD 7 0 = 2) := by
  have g : ∀ j, j < P.length → ∃ b, b < 256 ∧ P.getD j 0 = nI b := fun j hj => byt_get hb hj
  have e0 : be4 (gL P) 0 = 1346454347 ↔ _ := be_iff (x := 1346454347) (g 0 (by omega)) (g 1 (by omega)) (g 2 (by omega)) (g 3 (by omega))
  have e4 : be4 (gL P) 4 = 2 ↔ _ := be_iff (x := 2) (g 4 (by omega)) (g 5 (by omega)) (g 6 (by omega)) (g 7 (by omega))
  have c1 : c_ushr 1346454347 (nI 24) &&& 255 = 80 ∧ c_ushr 1346454347 (nI 16) &&& 255 = 65 ∧ c_ushr 1346454347 (nI 8) &&& 255 = 67 ∧ c_ushr 1346454347 (nI 0) &&& 255 = 75 := by decide
  have c2 : c_ushr 2 (nI 24) &&& 255 = 0 ∧ c_ushr 2 (nI 16) &&& 255 = 0 ∧ c_ushr 2 (nI 8) &&& 255 = 0 ∧ c_ushr 2 (nI 0) &&& 255 = 2 := by decide
  rw [c1.1, c1.2.1, c1.2.2.1, c1.2.2.2] at e0
  rw [c2.1, c2.2.1, c2.2.2.1, c2.2.2.2] at e4
  constructor
  · intro h
    exact ⟨e0.mp h.2.1, e4.mp h.2.2⟩
  · intro h
    exact ⟨hl, e0.mpr h.1, e4.mpr h.2⟩
theorem m_begins {c : cM} {P : List Int32} {K : Int32 → cM → Prop} (h : MW c P) (hb : byt P) (hl : P.length ≤ 2192) (hk : K (pI (bgs P)) c) : f_Mo_begins 176 c K := by
  have l190 : ln 190 = 2400 := mk_l3.1
  unfold f_Mo_begins
  rw [mk_k3.1, l190, h.1]
  refine ⟨mk_k.1, fun g => ?_, fun g => ⟨mk_a3.1, ?_⟩⟩
  · have g1 := (nI_ltI (b := 32) (by omega) (by decide)).mp g
    rw [pI_f (fun w => by have := w.1; omega)] at hk
    exact hk
  · have g1 : 32 ≤ P.length := by
      rcases Nat.lt_or_ge P.length 32 with w | w
      · exact absurd (nI_lt (b := 32) w (by decide)) g
      · exact w
    have e := bgs_iff hb g1
    have no : ¬ ((P.getD 0 0 = 80 ∧ P.getD 1 0 = 65 ∧ P.getD 2 0 = 67 ∧ P.getD 3 0 = 75) ∧ (P.getD 4 0 = 0 ∧ P.getD 5 0 = 0 ∧ P.getD 6 0 = 0 ∧ P.getD 7 0 = 2)) → K 0 c := fun w => by
      rw [pI_f (fun q => w (e.mp q))] at hk
      exact hk
    rw [show Int32.toNatClampNeg 0 = 0 from rfl, show Int32.toNatClampNeg 1 = 1 from rfl, show Int32.toNatClampNeg 2 = 2 from rfl, show Int32.toNatClampNeg 3 = 3 from rfl, show Int32.toNatClampNeg 4 = 4 from rfl, show Int32.toNatClampNeg 5 = 5 from rfl, show Int32.toNatClampNeg 6 = 6 from rfl, show Int32.toNatClampNeg 7 = 7 from rfl, h.2 0 (by omega), h.2 1 (by omega), h.2 2 (by omega), h.2 3 (by omega), h.2 4 (by omega), h.2 5 (by omega), h.2 6 (by omega), h.2 7 (by omega)]
    have vi : ∀ n, n < 2400 → vp_in (nI n) 2400 := fun n hn => vp_in_nI hn (by decide)
    refine ⟨vi 0 (by decide), fun q => no (fun w => q w.1.1), fun q0 => ⟨vi 1 (by decide), fun q => no (fun w => q w.1.2.1), fun q1 => ⟨vi 2 (by decide), fun q => no (fun w => q w.1.2.2.1), fun q2 => ⟨vi 3 (by decide), fun q => no (fun w => q w.1.2.2.2), fun q3 => ⟨vi 4 (by decide), fun q => no (fun w => q w.2.1), fun q4 => ⟨vi 5 (by decide), fun q => no (fun w => q w.2.2.1), fun q5 => ⟨vi 6 (by decide), fun q => no (fun w => q w.2.2.2.1), fun q6 => ⟨vi 7 (by decide), fun q => no (fun w => q w.2.2.2.2), fun q7 => ?_⟩⟩⟩⟩⟩⟩⟩⟩
    rw [pI_t (e.mpr ⟨⟨q0, q1, q2, q3⟩, q4, q5, q6, q7⟩)] at hk
    exact hk
theorem m_isSealed {c : cM} {P : List Int32} {K : Int32 → cM → Prop} (h : MW c P) (hb : byt P) (hl : P.length ≤ 2192) (hl2 : 32 ≤ P.length) (hk : ∀ c', Fs c c' → K (pI (sld P)) c') : f_Mo_isSealed 176 c K := by
  have e20 : nI P.length - 20 = nI (P.length - 20) := pk_sub (b := 20) (by omega)
  unfold f_Mo_isSealed
  rw [mk_k2.2.2.2.2.2.2, mk_k3.1, mk_l2.2.2.2.2.2, mk_l3.1]
  refine ⟨mk_k.1, fun c2 e2 => ?_⟩
  have f2 : Fs c c2 := ⟨fun a g1 _ _ _ => by rw [e2, c_up_ne g1], fun q hq => by rw [e2, c_up_at hq]⟩
  have L2 : ML c2 [] := ⟨by rw [e2, c_up_self]; rfl, fun q hq => absurd hq (Nat.not_lt_zero _)⟩
  refine ⟨fun m y c' => ∃ j, m + j = P.length - 20 ∧ y = nI j ∧ ML c' (P.take j) ∧ Fs c c', ⟨P.length - 20, 0, rfl, rfl, by rw [List.take_zero]; exact L2, f2⟩, ?_⟩
  rintro m y c8 ⟨j, hm, rfl, L8, f8⟩
  rw [f8.2 17 (by decide), h.1, e20]
  refine ⟨fun g => ?_, fun g => ?_⟩
  · have ej : j = P.length - 20 := by
      have := (nI_leI (by omega) (by omega)).mp g
      omega
    subst ej
    refine m_sum L8 (by rw [List.length_take]; omega) (fun c10 s10 f10 => ?_)
    have F10 := f8.tr f10
    have hs := hasAt_byte (L := P) (p := P.length - 20) (f := sha (P.take (P.length - 20))) hb
    refine ⟨fun m y15 y16 => ∃ q, m + q = 20 ∧ y16 = nI q ∧ y15 = pI (∀ k, k < q → P.getD (P.length - 20 + k) 0 = (ib (sha (P.take (P.length - 20))) 0 5).getD k 0), ⟨20, 0, rfl, rfl, (pI_t (fun k hk => absurd hk (Nat.not_lt_zero _))).symm⟩, ?_⟩
    rintro m' y15 y16 ⟨q, hq, rfl, rfl⟩
    refine ⟨fun g5 => ⟨pI_bz _, ?_⟩, fun g5 => ?_⟩
    · have eq : q = 20 := by
        have := (nI_leI (a := 20) (by omega) (by omega)).mp g5
        omega
      subst eq
      have := hk c10 F10
      rw [show pI (sld P) = pI (∀ k, k < 20 → P.getD (P.length - 20 + k) 0 = (ib (sha (P.take (P.length - 20))) 0 5).getD k 0) from pI_iff (hs.trans ⟨fun w => w.2, fun w => ⟨by omega, w⟩⟩)] at this
      exact this
    · have hq20 : q < 20 := by
        rcases Nat.lt_or_ge q 20 with w | w
        · exact w
        · exact absurd (nI_le (a := 20) w (by omega)) g5
      have e4 : nI q / 4 = nI (q / 4) := by rw [show (4 : Int32) = nI 4 from rfl, pk_div (by omega) (by decide) (by decide)]
      rw [F10.2 17 (by decide), h.1, e20, nI_add, nI_clamp (show P.length - 20 + q < 2 ^ 31 by omega), e4, nI_clamp (show q / 4 < 2 ^ 31 by omega), hbyte (f := c10 189) hq20, ib_congr s10, F10.1 190 (by decide) (by decide) (by decide) (by decide), h.2 _ (by omega)]
      refine ⟨fun s => s = pI (∀ k, k < q + 1 → P.getD (P.length - 20 + k) 0 = (ib (sha (P.take (P.length - 20))) 0 5).getD k 0), fun s e => ⟨m' - 1, by omega, q + 1, by omega, (nI_succ q).symm, e⟩, ¬ (∀ k, k < q + 1 → P.getD (P.length - 20 + k) 0 = (ib (sha (P.take (P.length - 20))) 0 5).getD k 0), fun w => (pI_f w).symm, fun w => ?_, fun w => ⟨mk_a3.1, vp_in_nI (by omega) (by decide), mk_a2.2.2.2.2.2, vp_in_nI (by omega) (by decide), fun w2 => ?_, fun w2 => ?_⟩⟩
      · exact fun w2 => pI_eq0.mp w (fun k hk2 => w2 k (by omega))
      · exact fun w3 => w2 (w3 q (by omega))
      · refine (pI_t (fun k hk2 => ?_)).symm
        have w3 : ∀ k, k < q → P.getD (P.length - 20 + k) 0 = (ib (sha (P.take (P.length - 20))) 0 5).getD k 0 := by
          rcases Classical.em (∀ k, k < q → P.getD (P.length - 20 + k) 0 = (ib (sha (P.take (P.length - 20))) 0 5).getD k 0) with z | z
          · exact z
          · exact absurd (pI_f z) w
        by_cases ek : k = q
        · rw [ek]; exact w2
        · exact w3 k (by omega)
  · have hjl : j < P.length - 20 := by
      rcases Nat.lt_or_ge j (P.length - 20) with w | w
      · exact w
      · exact absurd (nI_le w (by omega)) g
    rw [nI_clamp (show j < 2 ^ 31 by omega), f8.1 190 (by decide) (by decide) (by decide) (by decide), h.2 j (by omega)]
    refine ⟨mk_a3.1, vp_in_nI (by omega) (by decide), m_put L8 (by rw [List.length_take]; omega) (fun c25 L25 f25 _ _ => ⟨m - 1, by omega, j + 1, by omega, (nI_succ j).symm, ?_, f8.tr f25⟩)⟩
    rw [byt_at hb (show j < P.length by omega), ← take_snoc (show j < P.length by omega)] at L25
    exact L25
def FU (c c' : cM) : Prop := (∀ a, a ≠ 176 → a ≠ 177 → a ≠ 178 → a ≠ 179 → a ≠ 180 → a ≠ 187 → a ≠ 188 → a ≠ 189 → a ≠ 191 → a ≠ 192 → c' a = c a) ∧ (∀ f, f ≠ 13 → f ≠ 20 → f ≠ 21 → f ≠ 22 → f ≠ 23 → c' 176 f = c 176 f) ∧ (∀ i, i < 16 → c' 177 i = c 177 i) ∧ (∀ i, i < 16 → c' 178 i = c 178 i) ∧ (∀ q, q < 1920 → c' 179 q = c 179 q) ∧ ∀ q, q < 80 → c' 180 q = c 180 q
theorem FU.tr {c c' c'' : cM} (h : FU c c') (g : FU c' c'') : FU c c'' := ⟨fun a h1 h2 h3 h4 h5 h6 h7 h8 h9 h10 => (g.1 a h1 h2 h3 h4 h5 h6 h7 h8 h9 h10).trans (h.1 a h1 h2 h3 h4 h5 h6 h7 h8 h9 h10), fun f h1 h2 h3 h4 h5 => (g.2.1 f h1 h2 h3 h4 h5).trans (h.2.1 f h1 h2 h3 h4 h5), fun i hi => (g.2.2.1 i hi).trans (h.2.2.1 i hi), fun i hi => (g.2.2.2.1 i hi).trans (h.2.2.2.1 i hi), fun q hq => (g.2.2.2.2.1 q hq).trans (h.2.2.2.2.1 q hq), fun q hq => (g.2.2.2.2.2 q hq).trans (h.2.2.2.2.2 q hq)⟩
theorem FU.mr {c c' : cM} {σ : Sg} (h : MR c σ) (hV : VS σ) (f : FU c c') : MR c' σ := h.loc hV (fun k hk => f.2.1 k (by omega) (by omega) (by omega) (by omega) (by omega)) f.2.2.1 f.2.2.2.1 f.2.2.2.2.1 f.2.2.2.2.2 (fun a ha => f.1 a (by omega) (by omega) (by omega) (by omega) (by omega) (by omega) (by omega) (by omega) (by omega) (by omega))
theorem FU.lo {c c' : cM} (f : FU c c') : ∀ a, a < 176 → c' a = c a := fun a ha => f.1 a (by omega) (by omega) (by omega) (by omega) (by omega) (by omega) (by omega) (by omega) (by omega) (by omega)
theorem FU.pk {c c' : cM} (f : FU c c') : c' 190 = c 190 := f.1 190 (by decide) (by decide) (by decide) (by decide) (by decide) (by decide) (by decide) (by decide) (by decide) (by decide)
theorem Fs.fu {c c' : cM} (f : Fs c c') : FU c c' := ⟨fun a h1 _ _ _ _ h6 h7 h8 _ _ => f.1 a h1 h6 h7 h8, fun k h1 _ _ _ _ => f.2 k h1, fun i _ => by rw [f.1 177 (by decide) (by decide) (by decide) (by decide)], fun i _ => by rw [f.1 178 (by decide) (by decide) (by decide) (by decide)], fun i _ => by rw [f.1 179 (by decide) (by decide) (by decide) (by decide)], fun i _ => by rw [f.1 180 (by decide) (by decide) (by decide) (by decide)]⟩
theorem Fm.fu {k : Nat} {c c' : cM} (f : Fm k c c') : FU c c' := ⟨fun a h1 h2 h3 h4 _ _ _ _ h9 h10 => f.1 a h1 h2 h3 h4 h9 h10, fun q _ h2 _ h4 _ => f.2.1 q h2 h4, fun i hi => f.2.2.1 i (by omega), fun i hi => f.2.2.2.1 i (by omega), fun q hq => f.2.2.2.2.1 q (by omega), fun q _ => by rw [f.1 180 (by decide) (by decide) (by decide) (by decide) (by decide) (by decide)]⟩
theorem FU.fld {c c' : cM} (h1 : ∀ a, a ≠ 176 → c' a = c a) (h2 : ∀ f, f ≠ 13 → f ≠ 20 → f ≠ 21 → f ≠ 22 → f ≠ 23 → c' 176 f = c 176 f) : FU c c' := ⟨fun a h _ _ _ _ _ _ _ _ _ => h1 a h, h2, fun i _ => by rw [h1 177 (by decide)], fun i _ => by rw [h1 178 (by decide)], fun i _ => by rw [h1 179 (by decide)], fun i _ => by rw [h1 180 (by decide)]⟩
theorem MR.cpy {c c' : cM} {U : List Th} {s : List Int32 × (Nat → Int32) × (Nat → Int32) × List Int32} {a : Nat} {x : Th} (M2 : MR c (U, s)) (hV : VS (U, s)) (hU : U.length < 16) (ha : 16 ≤ a) (S2 : slC c a x.1 x.2.1) (hxl : x.2.1.length ≤ 120) (hnm : sameN (nmA c a) x.2.2) (e8 : c' = c_up (cpS c a U.length) 176 0 (nI (U.length + 1))) : MR c' (U ++ [x], s) := by
  have o8 : ∀ q, q ≠ 176 → c' q = cpS c a U.length q := fun q hq => by rw [e8, c_up_ne hq]
  have k8 : ∀ q, q ≠ 0 → c' 176 q = c 176 q := fun q hq => by rw [e8, c_up_at hq, cps_o (by decide) (by decide) (by decide) (by decide)]
  have z177 : c' 177 = fun q => if q = U.length then c 177 a else c 177 q := by rw [o8 177 (by decide), cps_177]
  have z178 : c' 178 = fun q => if q = U.length then c 178 a else c 178 q := by rw [o8 178 (by decide), cps_178]
  have z179 : c' 179 = cpB (c 179) (120 * a) (120 * U.length) 120 := by rw [o8 179 (by decide), cps_179]
  have z180 : c' 180 = cpB (c 180) (5 * a) (5 * U.length) 5 := by rw [o8 180 (by decide), cps_180]
  have zo : ∀ q, q ≠ 176 → q ≠ 177 → q ≠ 178 → q ≠ 179 → q ≠ 180 → c' q = c q := fun q b0 b1 b2 b3 b4 => by rw [o8 q b0, cps_o b1 b2 b3 b4]
  obtain ⟨m1, m2, m3, m4, m5, m6, m7⟩ := M2
  refine ⟨?_, fun i y hy => ?_, ?_, ?_, ?_, ?_, ?_⟩
  · show c' 176 0 = nI (U ++ [x]).length
    rw [e8, c_up_self, List.length_append, List.length_singleton]
  · have hy' : (U ++ [x])[i]? = some y := hy
    have hi : i < (U ++ [x]).length := (List.getElem?_eq_some_iff.mp hy').1
    rw [List.length_append, List.length_singleton] at hi
    by_cases ei : i = U.length
    · subst ei
      rw [List.getElem?_append_right (Nat.le_refl _), Nat.sub_self] at hy'
      cases hy'
      refine ⟨?_, ?_, fun q hq => ?_, fun q hq => ?_⟩
      · rw [z177]; show (if _ = _ then _ else _) = _; rw [if_pos rfl]; exact S2.1
      · rw [z178]; show (if _ = _ then _ else _) = _; rw [if_pos rfl]; exact S2.2.1
      · rw [z179]
        unfold cpB
        rw [if_pos (by omega), Nat.add_sub_cancel_left]
        exact S2.2.2 q hq
      · rw [z180]
        unfold cpB
        rw [if_pos (by omega), Nat.add_sub_cancel_left]
        exact hnm q hq
    · rw [List.getElem?_append_left (by omega)] at hy'
      have hyl := (hV.1 y (List.mem_of_getElem? hy')).2.2
      obtain ⟨t1, t2, t3, t4⟩ := m2 i y hy'
      refine ⟨?_, ?_, fun q hq => ?_, fun q hq => ?_⟩
      · rw [z177]; show (if _ = _ then _ else _) = _; rw [if_neg ei]; exact t1
      · rw [z178]; show (if _ = _ then _ else _) = _; rw [if_neg ei]; exact t2
      · rw [z179]
        unfold cpB
        rw [if_neg (by omega)]
        exact t3 q hq
      · rw [z180]
        unfold cpB
        rw [if_neg (by omega)]
        exact t4 q hq
  · show c' 176 7 = _ ∧ _
    rw [k8 7 (by decide), zo 183 (by decide) (by decide) (by decide) (by decide) (by decide)]; exact m3
  · show MD c' _
    unfold MD
    rw [k8 9 (by decide), zo 184 (by decide) (by decide) (by decide) (by decide) (by decide), zo 185 (by decide) (by decide) (by decide) (by decide) (by decide)]
    exact m4
  · rw [zo 186 (by decide) (by decide) (by decide) (by decide) (by decide)]; exact m5
  · rw [k8 17 (by decide)]; exact m6
  · rw [zo 190 (by decide) (by decide) (by decide) (by decide) (by decide)]; exact m7
theorem un_pre {ths L : List Th} {j : Nat} {x : Th} (h : ths[j]? = some x) : ∀ i, (un ths L i)[j]? = some x
  | 0 => h
  | i + 1 => by
    have ih := un_pre (L := L) h i
    cases e : L[i]? with
    | none => rw [un_x e]; exact ih
    | some y =>
      cases e2 : fnd (un ths L i) y.2.2 with
      | none => rw [un_n e e2, List.getElem?_append_left (List.getElem?_eq_some_iff.mp ih).1]; exact ih
      | some q => rw [un_s e e2]; exact ih
