theorem cps_o {c : cM} {a b q : Nat} (h1 : q ≠ 177) (h2 : q ≠ 178) (h3 : q ≠ 179) (h4 : q ≠ 180) : cpS c a b q = c q := by
  unfold cpS
  rw [c_row_ne h4, c_row_ne h3, c_up_ne h2, c_up_ne h1]
theorem cps_177 {c : cM} {a b : Nat} : cpS c a b 177 = fun q => if q = b then c 177 a else c 177 q := by
  unfold cpS
  rw [c_row_ne (by decide), c_row_ne (by decide), c_up_ne (by decide)]; rfl
theorem cps_178 {c : cM} {a b : Nat} : cpS c a b 178 = fun q => if q = b then c 178 a else c 178 q := by
  unfold cpS
  rw [c_row_ne (by decide), c_row_ne (by decide), c_up_row, c_row_self, c_up_ne (by decide)]
theorem cps_179 {c : cM} {a b : Nat} : cpS c a b 179 = cpB (c 179) (120 * a) (120 * b) 120 := by
  unfold cpS
  rw [c_row_ne (by decide), c_row_self]
theorem cps_180 {c : cM} {a b : Nat} : cpS c a b 180 = cpB (c 180) (5 * a) (5 * b) 5 := by
  unfold cpS
  rw [c_row_self]
theorem MT.cp {c : cM} {a b : Nat} {x : Th} (h : MT c a x) (hl : x.2.1.length ≤ 120) : MT (cpS c a b) b x := by
  obtain ⟨t1, t2, t3, t4⟩ := h
  refine ⟨?_, ?_, fun q hq => ?_, fun q hq => ?_⟩
  · rw [cps_177]; show (if _ = _ then _ else _) = _; rw [if_pos rfl]; exact t1
  · rw [cps_178]; show (if _ = _ then _ else _) = _; rw [if_pos rfl]; exact t2
  · rw [cps_179]
    unfold cpB
    rw [if_pos (by omega), Nat.add_sub_cancel_left]
    exact t3 q hq
  · rw [cps_180]
    unfold cpB
    rw [if_pos (by omega), Nat.add_sub_cancel_left]
    exact t4 q hq
theorem MT.cn {c : cM} {a b j : Nat} {x : Th} (h : MT c j x) (hl : x.2.1.length ≤ 120) (hj : j ≠ b) : MT (cpS c a b) j x := by
  obtain ⟨t1, t2, t3, t4⟩ := h
  refine ⟨?_, ?_, fun q hq => ?_, fun q hq => ?_⟩
  · rw [cps_177]; show (if _ = _ then _ else _) = _; rw [if_neg hj]; exact t1
  · rw [cps_178]; show (if _ = _ then _ else _) = _; rw [if_neg hj]; exact t2
  · rw [cps_179]
    unfold cpB
    rw [if_neg (by omega)]
    exact t3 q hq
  · rw [cps_180]
    unfold cpB
    rw [if_neg (by omega)]
    exact t4 q hq
theorem MT.keep {c c' : cM} {i : Nat} {x : Th} (h : MT c i x) (h1 : c' 177 = c 177) (h2 : c' 178 = c 178) (h3 : c' 179 = c 179) (h4 : c' 180 = c 180) : MT c' i x := by
  unfold MT
  rw [h1, h2, h3, h4]
  exact h
def Mwc (ths : List Th) (R : Nat → Prop) (i : Nat) (c0 c : cM) : Prop :=
  (∀ (j : Nat) (x : Th), (kpL ths R i)[j]? = some x → MT c j x) ∧ (∀ (j : Nat) (x : Th), i ≤ j → ths[j]? = some x → MT c j x) ∧ (∀ j, j < i → R j → c 182 j = nI (rk ths R j)) ∧ ∀ a, a < 177 ∨ a = 181 ∨ 183 ≤ a → c a = c0 a
theorem m_sweep {c : cM} {σ : Sg} {K : Int32 → cM → Prop} (h : MR c σ) (hV : VS σ) (hk : ∀ c', MR c' (swX σ).2 → (∀ a, a < 176 → c' a = c a) → K (swX σ).1 c') : f_Mo_sweep 176 c K := by
  have hn := hV.2.1
  have hB := hV.2.2.2.2.2.1
  unfold f_Mo_sweep
  rw [mk_k.2.2.2.2.2.1, mk_k.2.2.2.2.2.2, mk_k2.2.2.2.1, mk_l.2.2.2.2.1, mk_l.2.2.2.2.2.1, mk_l2.2.2.1]
  refine ⟨mk_k.1, m_spread h hV (fun c2 f2 z2 => ?_)⟩
  have M2 := h.sp hV f2
  have e1 : (swX σ).1 = nI (σ.1.length - rk σ.1 (Rch σ.1 σ.2.2.2.1) σ.1.length) := rfl
  have e2 : (swX σ).2 = (kpL σ.1 (Rch σ.1 σ.2.2.2.1) σ.1.length, σ.2.1, noD, hm σ.1 (Rch σ.1 σ.2.2.2.1) σ.2.2.2.1 σ.1.length, σ.2.2.2.2) := rfl
  rw [e1, e2] at hk
  have hRb : ∀ b j, b < 4 → j < σ.1.length → σ.2.2.2.1 b = nI j → Rch σ.1 σ.2.2.2.1 j := fun b j hb hj e => Rch.base hj ⟨b, hb, e⟩
  generalize hR : Rch σ.1 σ.2.2.2.1 = R at hk z2 hRb
  have W2 : Mwc σ.1 R 0 c2 c2 := by
    refine ⟨fun j x hx => ?_, fun j x _ hx => M2.2.1 j x hx, fun j hj => absurd hj (Nat.not_lt_zero _), fun _ _ => rfl⟩
    have : ([] : List Th)[j]? = some x := hx
    cases this
  refine ⟨fun m y7 y8 c' => ∃ i, m = σ.1.length - i ∧ i ≤ σ.1.length ∧ y8 = nI i ∧ y7 = nI (rk σ.1 R i) ∧ Mwc σ.1 R i c2 c', ⟨_, 0, rfl, Nat.zero_le _, rfl, rfl, W2⟩, ?_⟩
  rintro m y7 y8 c9 ⟨i, rfl, hi, rfl, rfl, w1, w2, w3, w4⟩
  have hri := rk_le σ.1 R i
  have v9 : c9 176 0 = nI σ.1.length := by rw [w4 176 (by omega)]; exact M2.1
  rw [v9]
  refine ⟨fun g => ?_, fun g => ⟨mk_a.2.2.2.2.1, ?_⟩⟩
  · have ei : i = σ.1.length := by
      have := (nI_leI (by omega) (by omega)).mp g
      omega
    subst ei
    refine ⟨fun m y c' => ∃ b, m = 4 - b ∧ b ≤ 4 ∧ y = nI b ∧ (∀ a, a ≠ 186 → c' a = c9 a) ∧ (∀ b', b' < b → c' 186 b' = hm σ.1 R σ.2.2.2.1 σ.1.length b') ∧ ∀ b', b ≤ b' → c' 186 b' = c9 186 b', ⟨4, 0, rfl, Nat.zero_le _, rfl, fun _ _ => rfl, fun b' hb' => absurd hb' (Nat.not_lt_zero _), fun _ _ => rfl⟩, ?_⟩
    rintro m y c16 ⟨b, rfl, hb, rfl, f16, p16, q16⟩
    refine ⟨fun g4 c18 e18 c19 e19 => ?_, fun g4 => ?_⟩
    · have eb : b = 4 := by
        have := (nI_leI (a := 4) (by omega) (by omega)).mp g4
        omega
      subst eb
      rw [f16 176 (by decide), v9, pk_sub hri]
      have o19 : ∀ a, a ≠ 176 → a ≠ 186 → c19 a = c9 a := fun a a1 a2 => by rw [e19, c_up_ne a1, e18, c_up_ne a1, f16 a a2]
      have k19 : ∀ k, k ≠ 0 → k ≠ 9 → c19 176 k = c9 176 k := fun k k1 k2 => by rw [e19, c_up_at k2, e18, c_up_at k1, f16 176 (by decide)]
      refine hk c19 ⟨?_, fun j x hx => ?_, ?_, ?_, fun b hb2 => ?_, ?_, ?_⟩ (fun a ha => by rw [o19 a (by omega) (by omega), w4 a (by omega), f2 a (by omega)])
      · show c19 176 0 = nI (rk σ.1 R σ.1.length)
        rw [e19, c_up_at (by decide), e18, c_up_self]
      · exact (w1 j x hx).keep (o19 177 (by decide) (by decide)) (o19 178 (by decide) (by decide)) (o19 179 (by decide) (by decide)) (o19 180 (by decide) (by decide))
      · rw [k19 7 (by decide) (by decide), o19 183 (by decide) (by decide), w4 176 (by omega), w4 183 (by omega)]
        exact M2.2.2.1
      · show MD c19 noD
        refine ⟨?_, fun k hk2 => ?_, fun l hl q => absurd rfl q, fun k k' hk2 => ?_⟩
        · rw [cnt_noD, e19, c_up_self]; rfl
        · rw [cnt_noD] at hk2; exact absurd hk2 (Nat.not_lt_zero _)
        · rw [cnt_noD] at hk2; exact absurd hk2 (Nat.not_lt_zero _)
      · rw [e19, c_up_ne (by decide), e18, c_up_ne (by decide)]
        exact p16 b hb2
      · rw [k19 17 (by decide) (by decide), w4 176 (by omega)]
        exact M2.2.2.2.2.2.1
      · rw [o19 190 (by decide) (by decide), w4 190 (by omega)]
        exact M2.2.2.2.2.2.2
    · have hb4 : b < 4 := by
        rcases Nat.lt_or_ge b 4 with w | w
        · exact w
        · exact absurd (nI_le (a := 4) w (by omega)) g4
      have v : c16 186 b = σ.2.2.2.1 b := by rw [q16 b (Nat.le_refl _), w4 186 (by omega)]; exact M2.2.2.2.2.1 b hb4
      rw [nI_clamp (show b < 2 ^ 31 by omega), v]
      refine ⟨mk_a2.2.2.1, vp_in_nI hb4 (by decide), fun s => s = hm σ.1 R σ.2.2.2.1 σ.1.length b, fun s hs c28 e28 => ⟨4 - (b + 1), by omega, b + 1, rfl, by omega, (nI_succ b).symm, fun a ha => by rw [e28, c_up_ne ha]; exact f16 a ha, fun b' hb' => ?_, fun b' hb' => by rw [e28, c_up_at (by omega)]; exact q16 b' (by omega)⟩, fun g5 => ⟨mk_a.2.2.2.2.2.1, ?_⟩, fun g5 => ?_⟩
      · by_cases e : b' = b
        · rw [e28, e, c_up_self]; exact hs
        · rw [e28, c_up_at e]; exact p16 b' (by omega)
      · rcases hB b hb4 with w | ⟨q, q1, q2⟩
        · rw [w] at g5; exact absurd g5 (by decide)
        · rw [q2, nI_clamp (show q < 2 ^ 31 by omega)]
          refine ⟨vp_in_nI (by omega) (by decide), ?_⟩
          unfold hm
          rw [f16 182 (by decide), w3 q q1 (hRb b q hb4 q1 q2), q2, nI_clamp (by omega), if_neg (nI_pos (by omega)), if_pos q1]
      · rcases hB b hb4 with w | ⟨q, q1, q2⟩
        · unfold hm
          rw [w]
          exact (if_pos (by decide)).symm
        · rw [q2] at g5
          exact absurd (nI_le (a := 0) (Nat.zero_le _) (by omega)) g5
  · have hil : i < σ.1.length := by
      rcases Nat.lt_or_ge i σ.1.length with w | w
      · exact w
      · exact absurd (nI_le w (by omega)) g
    obtain ⟨x, hx⟩ := get_some hil
    rw [nI_clamp (show i < 2 ^ 31 by omega), w4 181 (by omega), z2 i (by omega)]
    refine ⟨vp_in_nI (by omega) (by decide), fun y c' => y = nI (rk σ.1 R (i + 1)) ∧ Mwc σ.1 R (i + 1) c2 c', fun y c' w => ⟨σ.1.length - (i + 1), by omega, i + 1, rfl, by omega, (nI_succ i).symm, w.1, w.2⟩, fun g2 => ?_, fun g2 => ⟨mk_a.2.2.2.2.2.1, vp_in_nI (by omega) (by decide), fun c44 e44 => m_copy (by omega) (by omega) ?_⟩⟩
    · have hr : ¬ R i := pI_eq0.mp g2
      refine ⟨by rw [rk_f hr], fun j y hy => w1 j y (by rw [kpL_f hr] at hy; exact hy), fun j y hj hy => w2 j y (by omega) hy, fun j hj hrj => ?_, w4⟩
      by_cases e : j = i
      · rw [e] at hrj; exact absurd hrj hr
      · exact w3 j (by omega) hrj
    · have hr : R i := Classical.byContradiction (fun w => g2 (pI_f w))
      have e1 := rk_t hr hx
      have hl1 : (kpL σ.1 R (i + 1)) = kpL σ.1 R i ++ [x] := kpL_t hr hx
      have k44 : ∀ (j : Nat) (y : Th), MT c9 j y → MT c44 j y := fun j y hy => hy.keep (by rw [e44, c_up_ne (by decide)]) (by rw [e44, c_up_ne (by decide)]) (by rw [e44, c_up_ne (by decide)]) (by rw [e44, c_up_ne (by decide)])
      have len : ∀ (j : Nat) (y : Th), σ.1[j]? = some y → y.2.1.length ≤ 120 := fun j y hy => (hV.1 y (List.mem_of_getElem? hy)).2.2
      refine ⟨by rw [e1, nI_succ], fun j y hy => ?_, fun j y hj hy => ?_, fun j hj hrj => ?_, fun a ha => ?_⟩
      · rw [hl1] at hy
        have hl := (List.getElem?_eq_some_iff.mp hy).1
        rw [List.length_append, List.length_singleton] at hl
        by_cases ej : j = (kpL σ.1 R i).length
        · rw [ej, List.getElem?_append_right (Nat.le_refl _), Nat.sub_self] at hy
          cases hy
          have ej' : j = rk σ.1 R i := ej
          rw [ej']
          exact (k44 i x (w2 i x (Nat.le_refl _) hx)).cp (len i x hx)
        · rw [List.getElem?_append_left (by omega)] at hy
          obtain ⟨q, q1, q2, -⟩ := kpL_get _ j y hy
          exact (k44 j y (w1 j y hy)).cn (len q y q2) ej
      · exact (k44 j y (w2 j y (by omega) hy)).cn (len j y hy) (by omega)
      · rw [cps_o (by decide) (by decide) (by decide) (by decide), e44]
        by_cases e : j = i
        · rw [e, c_up_self]
        · rw [c_up_at e]; exact w3 j (by omega) hrj
      · rw [cps_o (by omega) (by omega) (by omega) (by omega), e44, c_up_ne (by omega)]
        exact w4 a ha
theorem p_sweep {c : cM} {σ : Sg} {J : cM → Prop} (h : Inv c σ) (hJ : ∀ c σ, Inv c σ → J c) : f_P_sweep 18 c (fun v c1 => kd 176 = 7 ∧ f_Mo_sweep 176 c1 (fun v' c2 => Fin2 J v v' c2)) :=
  pairX (swX σ) h hJ (swX_V h.2.2) (fun _ _ _ hR hC hk => s_sweep hR hC h.2.2 hk) (fun _ _ hM hk => m_sweep hM h.2.2 hk)
