def DC (c : cM) (y A : List Int32) (fr p : Nat) : Prop := (∀ k, k < A.length → c 192 k = A.getD k 0) ∧ (0 < fr → c 192 A.length = nI fr) ∧ ∀ q, q < fr → c 192 (A.length + 1 + q) = y.getD (p - fr + q) 0
def dn (A : List Int32) (fr : Nat) : Nat := A.length + (if fr = 0 then 0 else fr + 1)
theorem dn_len {y A : List Int32} {fr p : Nat} (h1 : fr ≤ p) (h2 : p ≤ y.length) : (A ++ pn y p fr).length = dn A fr := by
  obtain ⟨q1, q2, q3⟩ := pn_len (y := y) h1 h2
  rw [List.length_append]
  unfold dn
  split
  · rename_i e; rw [q2 e]
  · rename_i e; rw [q3 e]
theorem gd_tk {L : List Int32} {a n k : Nat} (h : k < n) : ((L.drop a).take n).getD k 0 = L.getD (a + k) 0 := by
  rw [List.getD_eq_getElem?_getD, List.getElem?_take, if_pos h, List.getElem?_drop, List.getD_eq_getElem?_getD]
theorem DC.pnc {c : cM} {y A : List Int32} {fr p : Nat} (h : DC c y A fr p) (h1 : fr ≤ p) (h2 : p ≤ y.length) : ∀ k, k < (A ++ pn y p fr).length → c 192 k = (A ++ pn y p fr).getD k 0 := by
  intro k hk
  rw [dn_len h1 h2] at hk
  unfold dn at hk
  by_cases e : k < A.length
  · rw [gd_app e]; exact h.1 k e
  · rw [gd_app2 (by omega)]
    by_cases e0 : fr = 0
    · rw [if_pos e0] at hk; omega
    · rw [if_neg e0] at hk
      unfold pn
      rw [if_neg e0]
      by_cases e1 : k = A.length
      · rw [e1, Nat.sub_self]
        exact h.2.1 (by omega)
      · obtain ⟨q, hq⟩ : ∃ q, k = A.length + 1 + q := ⟨k - A.length - 1, by omega⟩
        rw [hq, show A.length + 1 + q - A.length = q + 1 by omega, List.getD_cons_succ, gd_tk (by omega)]
        exact h.2.2 q (by omega)
theorem m_differ {c : cM} {i j : Nat} {z x : Th} {K : Int32 → cM → Prop} (hi : i < 33) (hj : j < 33) (hz : MT c i z) (hx : MT c j x) (lz : z.2.1.length ≤ 120) (lx : x.2.1.length ≤ 120) (hk : ∀ c', (∀ k, k < (dif z.2.1 x.2.1).length → c' 192 k = (dif z.2.1 x.2.1).getD k 0) → (∀ a, a ≠ 192 → c' a = c a) → K (nI (dif z.2.1 x.2.1).length) c') : f_Mo_differ 176 (nI i) (nI j) c K := by
  have k7 := mk_k.1
  have k178 := mk_a.2.1
  have k192 := mk_a3.2.2
  have l178 : ln 178 = 33 := mk_l.2.1
  have l192 : ln 192 = 400 := mk_l3.2.2
  have l179 : ln 179 = 3960 := mk_l.2.2.1
  obtain ⟨-, z2, z3, -⟩ := id hz
  obtain ⟨-, x2, x3, -⟩ := id hx
  unfold f_Mo_differ
  rw [mk_k.2.2.1, mk_k.2.2.2.1, mk_k3.2.2, nI_clamp (show i < 2 ^ 31 by omega), nI_clamp (show j < 2 ^ 31 by omega), l178, l192]
  refine ⟨k7, k178, vp_in_nI hi (by decide), k192, vp_in_nI (n := 0) (by decide) (by decide), ?_⟩
  rintro c6 e6
  refine ⟨vp_in_nI hj (by decide), vp_in_nI (n := 1) (by decide) (by decide), ?_⟩
  rintro c9 e9
  rw [z2, show Int32.toNatClampNeg 0 = 0 from rfl] at e6
  rw [show c6 178 j = nI x.2.1.length by rw [e6, c_up_ne (by decide)]; exact x2, show Int32.toNatClampNeg 1 = 1 from rfl] at e9
  have f9 : ∀ a, a ≠ 192 → c9 a = c a := fun a ha => by rw [e9, c_up_ne ha, e6, c_up_ne ha]
  have D9 : DC c9 x.2.1 ([nI z.2.1.length] ++ [nI x.2.1.length]) 0 0 := by
    refine ⟨fun k hk2 => ?_, fun q => absurd q (Nat.not_lt_zero _), fun q hq => absurd hq (Nat.not_lt_zero _)⟩
    have hk3 : k < 2 := hk2
    rcases (show k = 0 ∨ k = 1 by omega) with q | q
    · rw [q, e9, c_up_at (by decide), e6, c_up_self]; rfl
    · rw [q, e9, c_up_self]; rfl
  refine ⟨fun m y14 y15 y16 c' => ∃ fuel A fr p, m + p = x.2.1.length ∧ y14 = nI (dn A fr) ∧ y15 = nI fr ∧ y16 = nI p ∧ DC c' x.2.1 A fr p ∧ x.2.1.length ≤ p + fuel ∧ fr ≤ p ∧ A.length + fr ≤ 2 + p ∧ dfF z.2.1 x.2.1 fuel A fr p = dif z.2.1 x.2.1 ∧ ∀ a, a ≠ 192 → c' a = c a, ⟨x.2.1.length, x.2.1.length, [nI z.2.1.length] ++ [nI x.2.1.length], 0, 0, rfl, rfl, rfl, rfl, D9, by omega, by omega, Nat.le_refl _, rfl, f9⟩, ?_⟩
  rintro m y14 y15 y16 c17 ⟨fuel, A, fr, p, hm, rfl, rfl, rfl, h17, hfu, hfr, hA, hD, f17⟩
  have c17j : c17 178 j = nI x.2.1.length := by rw [f17 178 (by decide)]; exact x2
  have c17i : c17 178 i = nI z.2.1.length := by rw [f17 178 (by decide)]; exact z2
  rw [c17i, c17j]
  refine ⟨fun g => ?_, fun g => ?_⟩
  · have hp : x.2.1.length ≤ p := (nI_leI (by omega) (by omega)).mp g
    rw [dfF_end hp] at hD
    rw [← hD] at hk
    have := hk c17 (h17.pnc hfr (by omega)) f17
    rw [dn_len hfr (by omega)] at this
    exact this
  · have hp : p < x.2.1.length := by
      rcases Nat.lt_or_ge p x.2.1.length with w | w
      · exact w
      · exact absurd (nI_le w (by omega)) g
    obtain ⟨f', rfl⟩ : ∃ f', fuel = f' + 1 := ⟨fuel - 1, by omega⟩
    rw [dfF, if_neg (by omega)] at hD
    refine ⟨fun m' y23 y24 y25 c' => ∃ k w b, m' = k ∧ y23 = nI b ∧ y24 = nI w ∧ y25 = nI k - 1 ∧ k ≤ z.2.1.length ∧ b ≤ 120 ∧ c' = c17 ∧ (∀ q, k ≤ q → q < z.2.1.length → alk z.2.1 q x.2.1 p ≤ b) ∧ ((k = z.2.1.length ∧ w = 0 ∧ b = 0) ∨ (k ≤ w ∧ w < z.2.1.length ∧ alk z.2.1 w x.2.1 p = b ∧ ∀ q, k ≤ q → q < w → alk z.2.1 q x.2.1 p < b)), ⟨z.2.1.length, z.2.1.length, 0, 0, rfl, rfl, rfl, rfl, Nat.le_refl _, by omega, rfl, fun q h1 h2 => absurd h2 (by omega), Or.inl ⟨rfl, rfl, rfl⟩⟩, ?_⟩
    rintro m' y23 y24 y25 c26 ⟨k, w, b, rfl, rfl, rfl, rfl, hk1, hb120, rfl, hall, hbest⟩
    refine ⟨fun g2 => ?_, fun g2 => ?_⟩
    · have k0 : m' = 0 := by
        rcases Nat.eq_zero_or_pos m' with q | q
        · exact q
        · rw [show (1 : Int32) = nI 1 from rfl, pk_sub (by omega)] at g2
          exact absurd g2 (nI_pos (by omega))
      subst k0
      have hbst : bst z.2.1 x.2.1 p = (w, b) := bst_u (fun q hq => hall q (Nat.zero_le _) hq) (by
        rcases hbest with ⟨q1, q2, q3⟩ | ⟨q1, q2, q3, q4⟩
        · exact Or.inl ⟨q1.symm, q2, q3⟩
        · exact Or.inr ⟨q2, q3, fun q hq => q4 q (Nat.zero_le _) hq⟩)
      have hwl : w ≤ z.2.1.length := by have := bst_l (x := z.2.1) (y := x.2.1) (p := p); rw [hbst] at this; exact this
      rw [hbst] at hD
      have dnl : dn A fr ≤ 3 + p := by unfold dn; split <;> omega
      refine ⟨fun y48 y49 y50 c' => ∃ A fr p', p < p' ∧ p' ≤ x.2.1.length ∧ y48 = nI (dn A fr) ∧ y49 = nI fr ∧ y50 = nI p' ∧ DC c' x.2.1 A fr p' ∧ fr ≤ p' ∧ A.length + fr ≤ 2 + p' ∧ dfF z.2.1 x.2.1 f' A fr p' = dif z.2.1 x.2.1 ∧ ∀ a, a ≠ 192 → c' a = c a, ?_, fun g3 => ?_, fun g3 => ?_⟩
      · rintro y48 y49 y50 c51 ⟨A', fr', p', q1, q2, q3, q4, q5, q6, q7, q8, q9, q10⟩
        exact ⟨x.2.1.length - p', by omega, f', A', fr', p', by omega, q3, q4, q5, q6, by omega, q7, q8, q9, q10⟩
      · have g4 : b < 4 := (nI_ltI (b := 4) (by omega) (by decide)).mp g3
        rw [if_pos g4] at hD
        refine ⟨fun s => s = nI (A.length + fr + 1), ?_, fun g5 => ?_, fun g5 => ?_⟩
        · rintro s rfl
          rw [show nI fr + 1 = nI (fr + 1) from (nI_succ fr).symm, pk_sub (show fr + 1 ≤ A.length + fr + 1 by omega), show A.length + fr + 1 - (fr + 1) = A.length by omega, i120, nI_add, nI_clamp (show A.length < 2 ^ 31 by omega), nI_clamp (show A.length + fr + 1 < 2 ^ 31 by omega), nI_clamp (show 120 * j + p < 2 ^ 31 by omega), l179]
          refine ⟨vp_in_nI (by omega) (by decide), ?_⟩
          rintro c59 e59
          refine ⟨mk_a.2.2.1, vp_in_nI (by omega) (by decide), vp_in_nI (by omega) (by decide), ?_⟩
          rintro c63 e63
          rw [show c59 179 (120 * j + p) = x.2.1.getD p 0 by rw [e59, c_up_ne (by decide), f17 179 (by decide)]; exact x3 p hp] at e63
          refine ⟨A, fr + 1, p + 1, by omega, by omega, ?_, rfl, (nI_succ p).symm, ⟨fun k hk2 => ?_, fun _ => ?_, fun q hq => ?_⟩, by omega, by omega, hD, fun a ha => by rw [e63, c_up_ne ha, e59, c_up_ne ha]; exact f17 a ha⟩
          · unfold dn
            rw [if_neg (by omega)]
            exact (nI_succ _).symm
          · rw [e63, c_up_at (by omega), e59, c_up_at (by omega)]
            exact h17.1 k hk2
          · rw [e63, c_up_at (by omega), e59, c_up_self]
          · rw [show p + 1 - (fr + 1) + q = p - fr + q by omega, e63]
            by_cases e : q = fr
            · rw [e, show A.length + 1 + fr = A.length + fr + 1 by omega, c_up_self, show p - fr + fr = p by omega]
            · rw [c_up_at (by omega), e59, c_up_at (by omega)]
              exact h17.2.2 q (by omega)
        · have e : ¬ fr = 0 := fun q => g5 (by rw [q]; rfl)
          show nI (dn A fr) = _
          unfold dn
          rw [if_neg e]
          rfl
        · have e : fr = 0 := by
            rcases Nat.eq_zero_or_pos fr with q | q
            · exact q
            · exact absurd g5 (nI_ne0 q (by omega))
          show nI (dn A fr) + 1 = _
          unfold dn
          rw [if_pos e, e]
          exact (nI_succ _).symm
      · have g4 : ¬ b < 4 := fun q => g3 (nI_lt q (by decide))
        rw [if_neg g4] at hD
        have h5 := bst_le (x := z.2.1) (y := x.2.1) (p := p) (by rw [hbst]; show 4 ≤ b; omega)
        rw [hbst] at h5
        have h5' : p + b ≤ x.2.1.length := h5
        have hE := h17.pnc hfr (by omega)
        have hEl := dn_len (A := A) (y := x.2.1) hfr (by omega)
        generalize A ++ pn x.2.1 p fr = E at hE hEl hD
        rw [show nI (dn A fr) + 1 = nI (dn A fr + 1) from (nI_succ _).symm, show nI (dn A fr) + 2 = nI (dn A fr + 2) from nI_add _ 2, show nI (dn A fr) + 3 = nI (dn A fr + 3) from nI_add _ 3, nI_clamp (show dn A fr < 2 ^ 31 by omega), nI_clamp (show dn A fr + 1 < 2 ^ 31 by omega), nI_clamp (show dn A fr + 2 < 2 ^ 31 by omega), ← hEl]
        rw [← hEl] at dnl
        refine ⟨vp_in_nI (by omega) (by decide), ?_⟩
        rintro c65 e65
        refine ⟨vp_in_nI (by omega) (by decide), ?_⟩
        rintro c67 e67
        refine ⟨vp_in_nI (by omega) (by decide), ?_⟩
        rintro c69 e69
        have lA : (E ++ [145] ++ [nI w] ++ [nI b]).length = E.length + 3 := by
          rw [List.length_append, List.length_append, List.length_append]
          rfl
        refine ⟨E ++ [145] ++ [nI w] ++ [nI b], 0, p + b, by omega, h5', ?_, rfl, nI_add _ _, ⟨fun k hk2 => ?_, fun q => absurd q (Nat.not_lt_zero _), fun q hq => absurd hq (Nat.not_lt_zero _)⟩, by omega, by omega, hD, fun a ha => by rw [e69, c_up_ne ha, e67, c_up_ne ha, e65, c_up_ne ha]; exact f17 a ha⟩
        · unfold dn
          rw [if_pos rfl, lA]
        · rw [lA] at hk2
          rcases (show k < E.length ∨ k = E.length ∨ k = E.length + 1 ∨ k = E.length + 2 by omega) with q | q | q | q
          · rw [e69, c_up_at (by omega), e67, c_up_at (by omega), e65, c_up_at (by omega), gd_app (by rw [List.length_append, List.length_append]; omega), gd_app (by rw [List.length_append]; omega), gd_app q]
            exact hE k q
          · rw [q, e69, c_up_at (by omega), e67, c_up_at (by omega), e65, c_up_self, gd_app (by rw [List.length_append, List.length_append]; simp only [List.length_singleton]; omega), gd_app (by rw [List.length_append]; simp only [List.length_singleton]; omega), gd_app2 (Nat.le_refl _), Nat.sub_self]
            rfl
          · rw [q, e69, c_up_at (by omega), e67, c_up_self, gd_app (by rw [List.length_append, List.length_append]; simp only [List.length_singleton]; omega), gd_app2 (by rw [List.length_append]; simp only [List.length_singleton]; omega), List.length_append, List.length_singleton, Nat.sub_self]
            rfl
          · rw [q, e69, c_up_self, gd_app2 (by rw [List.length_append, List.length_append]; simp only [List.length_singleton]; omega), List.length_append, List.length_append, List.length_singleton, List.length_singleton, Nat.sub_self]
            rfl
    · obtain ⟨k', rfl⟩ : ∃ k', m' = k' + 1 := ⟨m' - 1, by
        rcases Nat.eq_zero_or_pos m' with q | q
        · subst q; exact absurd (by decide) g2
        · omega⟩
      rw [show nI (k' + 1) - 1 = nI k' from pk_sub (b := 1) (by omega)]
      have hz' : MT c26 i z := hz.keep (f17 _ (by decide)) (f17 _ (by decide)) (f17 _ (by decide)) (f17 _ (by decide))
      have hx' : MT c26 j x := hx.keep (f17 _ (by decide)) (f17 _ (by decide)) (f17 _ (by decide)) (f17 _ (by decide))
      have ha120 : alk z.2.1 k' x.2.1 p ≤ 120 := by
        rcases alk_le (x := z.2.1) (y := x.2.1) (f := k') (p := p) with e | e
        · omega
        · omega
      refine m_alike hi hj hz' hx' lz lx (by omega) (by omega) ?_
      have em : nI k' + (-1) = nI k' - 1 := by
        rw [Int32.sub_eq_add_neg]
      rw [em]
      by_cases gl : alk z.2.1 k' x.2.1 p < b
      · refine ⟨fun s => s = nI w, ?_, fun _ => rfl, fun q => absurd (nI_lt gl (by omega)) q⟩
        rintro s rfl
        refine ⟨fun s => s = nI b, ?_, fun _ => rfl, fun q => absurd (nI_lt gl (by omega)) q⟩
        rintro s rfl
        refine ⟨k', by omega, k', w, b, rfl, rfl, rfl, rfl, by omega, hb120, rfl, fun q q1 q2 => ?_, ?_⟩
        · by_cases e : q = k'
          · rw [e]; omega
          · exact hall q (by omega) q2
        · rcases hbest with ⟨q1, q2, q3⟩ | ⟨q1, q2, q3, q4⟩
          · omega
          · exact Or.inr ⟨by omega, q2, q3, fun q r1 r2 => by
              by_cases e : q = k'
              · rw [e]; exact gl
              · exact q4 q (by omega) r2⟩
      · have gn : ¬ nI (alk z.2.1 k' x.2.1 p) < nI b := fun q => gl ((nI_ltI (by omega) (by omega)).mp q)
        refine ⟨fun s => s = nI k', ?_, fun q => absurd q gn, fun _ => rfl⟩
        rintro s rfl
        refine ⟨fun s => s = nI (alk z.2.1 k' x.2.1 p), ?_, fun q => absurd q gn, fun _ => rfl⟩
        rintro s rfl
        refine ⟨k', by omega, k', k', _, rfl, rfl, rfl, rfl, by omega, ha120, rfl, fun q q1 q2 => ?_, Or.inr ⟨Nat.le_refl _, by omega, rfl, fun q r1 r2 => absurd r2 (by omega)⟩⟩
        by_cases e : q = k'
        · rw [e]; exact Nat.le_refl _
        · have := hall q (by omega) q2
          omega
