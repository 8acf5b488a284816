def Fk (b : Nat) (c c' : cM) : Prop := (∀ a, a ≠ 176 → a ≠ 178 → a ≠ 179 → c' a = c a) ∧ (∀ k, k ≠ 22 → c' 176 k = c 176 k) ∧ (∀ i, i ≠ b → c' 178 i = c 178 i) ∧ ∀ q, q < 120 * b ∨ 120 * b + 120 ≤ q → c' 179 q = c 179 q
theorem Fk.tr {b : Nat} {c c' c'' : cM} (h : Fk b c c') (g : Fk b c' c'') : Fk b c c'' := ⟨fun a h1 h2 h3 => (g.1 a h1 h2 h3).trans (h.1 a h1 h2 h3), fun k h1 => (g.2.1 k h1).trans (h.2.1 k h1), fun i h1 => (g.2.2.1 i h1).trans (h.2.2.1 i h1), fun q h1 => (g.2.2.2 q h1).trans (h.2.2.2 q h1)⟩
def SL (c : cM) (b : Nat) (out : List Int32) : Prop := c 178 b = nI out.length ∧ ∀ k, k < out.length → c 179 (120 * b + k) = out.getD k 0
theorem Fk.wr {b : Nat} {c c' : cM} {v : Int32} (e : c' = c_up c 176 22 v) : Fk b c c' := ⟨fun a h1 _ _ => by rw [e, c_up_ne h1], fun k h1 => by rw [e, c_up_at h1], fun i _ => by rw [e, c_up_ne (by decide)], fun q _ => by rw [e, c_up_ne (by decide)]⟩
/-- one step of copying: what stands in the slot, and what is copied behind it so far -/
def Cy (c0 : cM) (b : Nat) (out src : List Int32) (t : Nat) (c : cM) : Prop := (∀ a, a ≠ 179 → c a = c0 a) ∧ (∀ q, q < 120 * b ∨ 120 * b + 120 ≤ q → c 179 q = c0 179 q) ∧ (∀ k, k < out.length → c 179 (120 * b + k) = out.getD k 0) ∧ ∀ k, k < t → c 179 (120 * b + out.length + k) = src.getD k 0
theorem Cy.step {c0 c c' : cM} {b t : Nat} {out src : List Int32} (h : Cy c0 b out src t c) (hl : out.length + t < 120) (e : c' = c_up c 179 (120 * b + out.length + t) (src.getD t 0)) : Cy c0 b out src (t + 1) c' := by
  obtain ⟨h1, h2, h3, h4⟩ := h
  refine ⟨fun a ha => by rw [e, c_up_ne ha]; exact h1 a ha, fun q hq => by rw [e, c_up_at (by omega)]; exact h2 q hq, fun k hk => by rw [e, c_up_at (by omega)]; exact h3 k hk, fun k hk => ?_⟩
  rw [e]
  by_cases ek : k = t
  · rw [ek, c_up_self]
  · rw [c_up_at (by omega)]; exact h4 k (by omega)
theorem Cy.fin {c0 c c' : cM} {b t : Nat} {out src : List Int32} (h : Cy c0 b out src t c) (ht : src.length = t) (h0 : c0 178 b = nI out.length) (e : c' = c_up c 178 b (c 178 b + nI t)) : SL c' b (out ++ src) ∧ Fk b c0 c' ∧ c' 176 22 = c0 176 22 := by
  subst ht
  obtain ⟨h1, h2, h3, h4⟩ := h
  rw [h1 178 (by decide), h0, nI_add] at e
  refine ⟨⟨by rw [e, c_up_self, List.length_append], fun k hk => ?_⟩, ⟨fun a q1 q2 q3 => by rw [e, c_up_ne q2]; exact h1 a q3, fun k _ => by rw [e, c_up_ne (by decide), h1 176 (by decide)], fun i hi => by rw [e, c_up_at hi, h1 178 (by decide)], fun q hq => by rw [e, c_up_ne (by decide)]; exact h2 q hq⟩, by rw [e, c_up_ne (by decide), h1 176 (by decide)]⟩
  rw [e, c_up_ne (by decide)]
  rw [List.length_append] at hk
  by_cases ek : k < out.length
  · rw [gd_app ek]; exact h3 k ek
  · rw [gd_app2 (by omega)]
    have := h4 (k - out.length) (by omega)
    rw [show 120 * b + out.length + (k - out.length) = 120 * b + k by omega] at this
    exact this
theorem m_carry {c : cM} {D ot : List Int32} {a b : Nat} {K : cM → Prop} (ha : a < 33) (hb : b < 33) (hab : a ≠ b) (hw : c 176 22 = 0) (hD : D.length ≤ 120) (hby : byt D) (hd : ∀ k, k < D.length → c 192 k = D.getD k 0) (ho : c 178 a = nI ot.length) (hol : ot.length ≤ 120) (hoc : ∀ k, k < ot.length → c 179 (120 * a + k) = ot.getD k 0) (hk : ∀ c', ((∃ L, cyo D ot = some L ∧ c' 176 22 = 0 ∧ SL c' b L) ∨ (cyo D ot = none ∧ c' 176 22 = -10)) → Fk b c c' → K c') : f_Mo_carryOut 176 (nI D.length) (nI a) (nI b) c K := by
  have k178 := mk_a.2.1
  have k179 := mk_a.2.2.1
  have k192 := mk_a3.2.2
  have l178 : ln 178 = 33 := mk_l.2.1
  have l179 : ln 179 = 3960 := mk_l.2.2.1
  have l192 : ln 192 = 400 := mk_l3.2.2
  unfold f_Mo_carryOut
  rw [mk_k.2.2.1, mk_k.2.2.2.1, mk_k3.2.2, l178, l179, l192, nI_clamp (show a < 2 ^ 31 by omega), nI_clamp (show b < 2 ^ 31 by omega), i120, i120]
  refine ⟨mk_k.1, k178, vp_in_nI hb (by decide), ?_⟩
  rintro c4 e4
  have F4 : Fk b c c4 := ⟨fun q h1 h2 h3 => by rw [e4, c_up_ne h2], fun k _ => by rw [e4, c_up_ne (by decide)], fun i hi => by rw [e4, c_up_at hi], fun q _ => by rw [e4, c_up_ne (by decide)]⟩
  have S4 : SL c4 b [] := ⟨by rw [e4, c_up_self]; rfl, fun k hk => absurd hk (Nat.not_lt_zero _)⟩
  have w4 : c4 176 22 = 0 := by rw [e4, c_up_ne (by decide)]; exact hw
  refine ⟨fun c' => (c' = c4 ∧ ¬ (D.length < 2 ∨ ¬ D.getD 0 0 = nI ot.length)) ∨ (c' = c_up c4 176 22 (-10) ∧ (D.length < 2 ∨ ¬ D.getD 0 0 = nI ot.length)), ?_, D.length < 2 ∨ ¬ D.getD 0 0 = nI ot.length, fun q c' e' => Or.inr ⟨e', q⟩, fun g => Or.inl ((nI_ltI (b := 2) (by omega) (by decide)).mp g), fun g => ?_⟩
  · rintro c12 h12
    refine ⟨fun m y c' => Fk b c c' ∧ ((∃ f p out, m + p = D.length ∧ y = nI p ∧ c' 176 22 = 0 ∧ SL c' b out ∧ D.length ≤ p + f ∧ out.length ≤ 120 ∧ 2 ≤ D.length ∧ cyo D ot = cyF D ot f p out) ∨ (c' 176 22 = -10 ∧ cyo D ot = none)), ?_, ?_⟩
    · rcases h12 with ⟨rfl, q⟩ | ⟨e12, q⟩
      · have q2 : ¬ D.length < 2 := fun w => q (Or.inl w)
        refine ⟨D.length - 2, F4, Or.inl ⟨D.length, 2, [], by omega, rfl, w4, S4, by omega, by decide, by omega, ?_⟩⟩
        unfold cyo
        rw [if_neg q]
      · refine ⟨0, F4.tr (Fk.wr e12), Or.inr ⟨by rw [e12, c_up_self], ?_⟩⟩
        unfold cyo
        rw [if_pos q]
    · rintro m y c20 ⟨f20, (⟨f, p, out, hm, rfl, w20, s20, hf, hout, hD2, hc⟩ | ⟨w20, hn⟩)⟩
      · rw [s20.1, w20]
        have dk : ∀ k, k < D.length → c20 192 k = D.getD k 0 := fun k hk2 => by rw [f20.1 192 (by decide) (by decide) (by decide)]; exact hd k hk2
        refine ⟨_, id, fun g => ⟨fun q => absurd rfl q, fun _ => ⟨k192, vp_in_nI (n := 1) (by decide) (by decide), ?_⟩⟩, fun g => ⟨fun q => absurd rfl q, fun _ => ⟨k192, ?_⟩⟩⟩
        · have g1 : D.length ≤ p := (nI_leI (by omega) (by omega)).mp g
          rw [cyF_end g1] at hc
          unfold cyE at hc
          rw [show Int32.toNatClampNeg 1 = 1 from rfl, dk 1 (by omega)]
          refine ⟨fun g2 => ?_, fun g2 => ?_⟩
          · rw [if_pos g2.symm] at hc
            exact hk c20 (Or.inl ⟨out, hc, w20, s20⟩) f20
          · rw [if_neg (fun q => g2 q.symm)] at hc
            rintro c' e'
            exact hk c' (Or.inr ⟨hc, by rw [e', c_up_self]⟩) (f20.tr (Fk.wr e'))
        · have g1 : p < D.length := by
            rcases Nat.lt_or_ge p D.length with w | w
            · exact w
            · exact absurd (nI_le w (by omega)) g
          obtain ⟨f', rfl⟩ : ∃ f', f = f' + 1 := ⟨f - 1, by omega⟩
          rw [cyF, if_neg (by omega)] at hc
          have v0 := bv_e hby g1
          rw [nI_clamp (show p < 2 ^ 31 by omega), dk p g1, v0.1]
          refine ⟨vp_in_nI (by omega) (by decide), ?_⟩
          have NSe : ∀ (y : Int32) (c' : cM), ((∃ p' out', y = nI p' ∧ p < p' ∧ p' ≤ D.length ∧ c' 176 22 = 0 ∧ SL c' b out' ∧ Fk b c c' ∧ out'.length ≤ 120 ∧ cyo D ot = cyF D ot f' p' out') ∨ (c' 176 22 = -10 ∧ cyo D ot = none ∧ Fk b c c')) → ∃ m', m' < m ∧ (Fk b c c' ∧ ((∃ f p out, m' + p = D.length ∧ y = nI p ∧ c' 176 22 = 0 ∧ SL c' b out ∧ D.length ≤ p + f ∧ out.length ≤ 120 ∧ 2 ≤ D.length ∧ cyo D ot = cyF D ot f p out) ∨ (c' 176 22 = -10 ∧ cyo D ot = none))) := by
            rintro y c' (⟨p', out', q1, q2, q3, q4, q5, q6, q7, q8⟩ | ⟨q1, q2, q3⟩)
            · exact ⟨D.length - p', by omega, q6, Or.inl ⟨f', p', out', by omega, q1, q4, q5, by omega, q7, hD2, q8⟩⟩
            · exact ⟨0, by omega, q3, Or.inr ⟨q1, q2⟩⟩
          by_cases g6 : bv D p = 145
          · rw [if_pos g6] at hc
            refine ⟨fun s => s = 1, ?_, fun q => absurd (by rw [g6]; rfl) q, fun _ => rfl⟩
            rintro s rfl
            rw [show nI p + 1 = nI (p + 1) from (nI_succ p).symm, show nI p + 2 = nI (p + 2) from nI_add p 2, nI_clamp (show p + 1 < 2 ^ 31 by omega), nI_clamp (show p + 2 < 2 ^ 31 by omega)]
            by_cases g7 : p + 2 < D.length
            · have v1 := bv_e hby (show p + 1 < D.length by omega)
              have v2 := bv_e hby g7
              rw [dk (p + 1) (by omega), dk (p + 2) g7, v1.1, v2.1]
              refine ⟨fun s => s = nI (bv D (p + 2)), ?_, fun q => absurd q (by decide), fun _ => ⟨fun q => ?_, fun _ => ⟨vp_in_nI (by omega) (by decide), rfl⟩⟩⟩
              · rintro s rfl
                refine ⟨fun s => s = nI (bv D (p + 1)), ?_, ?_⟩
                · rintro s rfl
                  refine ⟨fun s => s = if bv D (p + 1) + bv D (p + 2) ≤ ot.length then 1 else 0, ?_, fun q => absurd q (by decide), fun _ => ?_⟩
                  · rintro s rfl
                    refine ⟨_, NSe, cyo D ot = none, fun q c' e' => Or.inr ⟨by rw [e', c_up_self], q, f20.tr (Fk.wr e')⟩, fun q => ?_, fun q => ⟨fun q2 => ?_, fun q2 => ?_⟩⟩
                    · have g8 : ¬ bv D (p + 1) + bv D (p + 2) ≤ ot.length := fun w => by rw [if_pos w] at q; exact absurd q (by decide)
                      rw [if_neg (fun w => g8 w.2.1)] at hc
                      exact hc
                    · have g8 : bv D (p + 1) + bv D (p + 2) ≤ ot.length := by
                        rcases Nat.lt_or_ge ot.length (bv D (p + 1) + bv D (p + 2)) with w | w
                        · rw [if_neg (by omega)] at q; exact absurd rfl q
                        · exact w
                      rw [nI_add] at q2
                      have g9 : out.length + bv D (p + 2) ≤ 120 := (nI_leI (b := 120) (by omega) (by decide)).mp q2
                      rw [if_pos ⟨g7, g8, g9⟩] at hc
                      have ls : ((ot.drop (bv D (p + 1))).take (bv D (p + 2))).length = bv D (p + 2) := by rw [List.length_take, List.length_drop]; omega
                      refine ⟨fun n y c' => ∃ t, n + t = bv D (p + 2) ∧ y = nI t ∧ Cy c20 b out ((ot.drop (bv D (p + 1))).take (bv D (p + 2))) t c', ⟨bv D (p + 2), 0, rfl, rfl, fun _ _ => rfl, fun _ _ => rfl, s20.2, fun k hk2 => absurd hk2 (Nat.not_lt_zero _)⟩, ?_⟩
                      rintro n y c26 ⟨t, hn, rfl, h26⟩
                      refine ⟨fun g10 => ?_, fun g10 => ?_⟩
                      · have g11 : bv D (p + 2) ≤ t := (nI_leI (by omega) (by omega)).mp g10
                        have : t = bv D (p + 2) := by omega
                        subst this
                        rintro c28 e28
                        obtain ⟨x1, x2, x3⟩ := h26.fin ls s20.1 e28
                        refine ⟨fun s => s = 3, ?_, fun q => absurd q (by decide), fun _ => rfl⟩
                        rintro s rfl
                        exact Or.inl ⟨p + 3, _, nI_add p 3, by omega, by omega, x3.trans w20, x1, f20.tr x2, by rw [List.length_append, ls]; omega, hc⟩
                      · have g11 : t < bv D (p + 2) := by
                          rcases Nat.lt_or_ge t (bv D (p + 2)) with w | w
                          · exact w
                          · exact absurd (nI_le w (by omega)) g10
                        rw [show c26 178 b = nI out.length by rw [h26.1 178 (by decide)]; exact s20.1, nI_add, nI_add, nI_add, nI_add, nI_add]
                        rw [nI_clamp (show 120 * b + out.length + t < 2 ^ 31 by omega), nI_clamp (show 120 * a + bv D (p + 1) + t < 2 ^ 31 by omega)]
                        refine ⟨fun s => s = ((ot.drop (bv D (p + 1))).take (bv D (p + 2))).getD t 0, ?_, fun q => absurd q (by decide), fun _ => ⟨k179, vp_in_nI (by omega) (by decide), ?_⟩⟩
                        · rintro s rfl
                          refine ⟨k179, vp_in_nI (by omega) (by decide), ?_⟩
                          rintro c42 e42
                          exact ⟨n - 1, by omega, t + 1, by omega, (nI_succ t).symm, h26.step (by omega) e42⟩
                        · show c26 179 (120 * a + bv D (p + 1) + t) = _
                          rw [h26.2.1 _ (by omega), f20.2.2.2 _ (by omega), Nat.add_assoc, hoc _ (by omega), gd_tk g11]
                    · rw [nI_add] at q2
                      have g9 : ¬ out.length + bv D (p + 2) ≤ 120 := fun w => q2 (nI_le (b := 120) w (by decide))
                      rw [if_neg (fun w => g9 w.2.2)] at hc
                      exact hc
                  · rw [show c20 178 a = nI ot.length by rw [f20.2.2.1 a hab]; exact ho, nI_add]
                    refine ⟨¬ bv D (p + 1) + bv D (p + 2) ≤ ot.length, fun q => (if_neg q).symm, fun q => absurd q (nI_pos (by omega)), fun _ => ⟨vp_in_nI ha (by decide), fun q => ?_, fun q => ?_⟩⟩
                    · have := (nI_ltI (by omega) (by omega)).mp q
                      omega
                    · refine (if_pos ?_).symm
                      rcases Nat.lt_or_ge ot.length (bv D (p + 1) + bv D (p + 2)) with w | w
                      · exact absurd (nI_lt w (by omega)) q
                      · exact w
                · refine ⟨False, fun q => q.elim, fun q => absurd q (by decide), fun _ => ⟨fun q => ?_, fun _ => ⟨vp_in_nI (by omega) (by decide), rfl⟩⟩⟩
                  have := (nI_leI (by omega) (by omega)).mp q
                  omega
              · have := (nI_leI (by omega) (by omega)).mp q
                omega
            · rw [if_neg (fun w => g7 w.1)] at hc
              refine ⟨fun s => s = -1, ?_, fun q => absurd q (by decide), fun _ => ⟨fun _ => rfl, fun q => absurd (nI_le (by omega) (by omega)) q⟩⟩
              rintro s rfl
              refine ⟨fun s => True, ?_, True, fun _ => True.intro, fun _ => True.intro, fun _ => ⟨fun _ => True.intro, fun q => ⟨vp_in_nI (by omega) (by decide), True.intro⟩⟩⟩
              rintro s -
              refine ⟨fun s => s = 0, ?_, fun q => absurd q (by decide), fun _ => ⟨True, fun _ => rfl, fun _ => True.intro, fun q => absurd (by decide) q⟩⟩
              rintro s rfl
              exact ⟨_, NSe, cyo D ot = none, fun q c' e' => Or.inr ⟨by rw [e', c_up_self], q, f20.tr (Fk.wr e')⟩, fun _ => hc, fun q => absurd rfl q⟩
          · rw [if_neg g6] at hc
            refine ⟨fun s => s = 0, ?_, fun _ => rfl, fun q => absurd ((nI_eq (b := 145) (by omega) (by decide)).mp q) g6⟩
            rintro s rfl
            refine ⟨fun s => s = nI (bv D p), ?_, fun _ => rfl, fun q => absurd rfl q⟩
            rintro s rfl
            refine ⟨fun s => s = 0, ?_, True, fun _ => rfl, fun _ => True.intro, fun q => absurd rfl q⟩
            rintro s rfl
            refine ⟨fun s => s = if 0 < bv D p ∧ bv D p ≤ 127 ∧ p + 1 + bv D p ≤ D.length then 1 else 0, ?_, fun _ => ?_, fun q => absurd rfl q⟩
            · rintro s rfl
              refine ⟨_, NSe, cyo D ot = none, fun q c' e' => Or.inr ⟨by rw [e', c_up_self], q, f20.tr (Fk.wr e')⟩, fun q => ?_, fun q => ⟨fun q2 => ?_, fun q2 => ?_⟩⟩
              · have g8 : ¬ (0 < bv D p ∧ bv D p ≤ 127 ∧ p + 1 + bv D p ≤ D.length) := fun w => by rw [if_pos w] at q; exact absurd q (by decide)
                rw [if_neg (fun w => g8 ⟨w.1, w.2.1, w.2.2.1⟩)] at hc
                exact hc
              · have g8 : 0 < bv D p ∧ bv D p ≤ 127 ∧ p + 1 + bv D p ≤ D.length := by
                  rcases Classical.em (0 < bv D p ∧ bv D p ≤ 127 ∧ p + 1 + bv D p ≤ D.length) with w | w
                  · exact w
                  · rw [if_neg w] at q; exact absurd rfl q
                rw [nI_add] at q2
                have g9 : out.length + bv D p ≤ 120 := (nI_leI (b := 120) (by omega) (by decide)).mp q2
                rw [if_pos ⟨g8.1, g8.2.1, g8.2.2, g9⟩] at hc
                have ls : ((D.drop (p + 1)).take (bv D p)).length = bv D p := by rw [List.length_take, List.length_drop]; omega
                refine ⟨fun n y c' => ∃ t, n + t = bv D p ∧ y = nI t ∧ Cy c20 b out ((D.drop (p + 1)).take (bv D p)) t c', ⟨bv D p, 0, rfl, rfl, fun _ _ => rfl, fun _ _ => rfl, s20.2, fun k hk2 => absurd hk2 (Nat.not_lt_zero _)⟩, ?_⟩
                rintro n y c26 ⟨t, hn, rfl, h26⟩
                refine ⟨fun g10 => ?_, fun g10 => ?_⟩
                · have g11 : bv D p ≤ t := (nI_leI (by omega) (by omega)).mp g10
                  have : t = bv D p := by omega
                  subst this
                  rintro c28 e28
                  obtain ⟨x1, x2, x3⟩ := h26.fin ls s20.1 e28
                  refine ⟨fun s => s = nI (1 + bv D p), ?_, fun _ => nI_add 1 _, fun q => absurd rfl q⟩
                  rintro s rfl
                  exact Or.inl ⟨p + 1 + bv D p, _, by rw [nI_add, Nat.add_assoc], by omega, g8.2.2, x3.trans w20, x1, f20.tr x2, by rw [List.length_append, ls]; omega, hc⟩
                · have g11 : t < bv D p := by
                    rcases Nat.lt_or_ge t (bv D p) with w | w
                    · exact w
                    · exact absurd (nI_le w (by omega)) g10
                  rw [show c26 178 b = nI out.length by rw [h26.1 178 (by decide)]; exact s20.1, nI_add, nI_add, show nI p + 1 = nI (p + 1) from (nI_succ p).symm, nI_add]
                  rw [nI_clamp (show 120 * b + out.length + t < 2 ^ 31 by omega), nI_clamp (show p + 1 + t < 2 ^ 31 by omega)]
                  refine ⟨fun s => s = ((D.drop (p + 1)).take (bv D p)).getD t 0, ?_, fun _ => ⟨vp_in_nI (by omega) (by decide), ?_⟩, fun q => absurd rfl q⟩
                  · rintro s rfl
                    refine ⟨k179, vp_in_nI (by omega) (by decide), ?_⟩
                    rintro c42 e42
                    exact ⟨n - 1, by omega, t + 1, by omega, (nI_succ t).symm, h26.step (by omega) e42⟩
                  · show c26 192 (p + 1 + t) = _
                    rw [h26.1 192 (by decide), dk _ (by omega), gd_tk g11]
              · rw [nI_add] at q2
                have g9 : ¬ out.length + bv D p ≤ 120 := fun w => q2 (nI_le (b := 120) w (by decide))
                rw [if_neg (fun w => g9 w.2.2.2)] at hc
                exact hc
            · rw [nI_add]
              refine ⟨¬ (0 < bv D p ∧ bv D p ≤ 127 ∧ p + 1 + bv D p ≤ D.length), fun q => (if_neg q).symm, fun q => ?_, fun q => ⟨fun q2 => ?_, fun q2 => ⟨fun q3 => ?_, fun q3 => ?_⟩⟩⟩
              · have := (nI_leI (b := 0) (by omega) (by decide)).mp q
                omega
              · have := (nI_leI (a := 128) (by decide) (by omega)).mp q2
                omega
              · have := (nI_leI (by omega) (by omega)).mp q3
                omega
              · refine (if_pos ⟨?_, ?_, ?_⟩).symm
                · rcases Nat.eq_zero_or_pos (bv D p) with w | w
                  · rw [w] at q; exact absurd (by decide) q
                  · exact w
                · rcases Nat.lt_or_ge 127 (bv D p) with w | w
                  · exact absurd (nI_le (a := 128) (by omega) (by omega)) q2
                  · exact w
                · rcases Nat.lt_or_ge (p + bv D p) D.length with w | w
                  · omega
                  · exact absurd (nI_le w (by omega)) q3
      · have n0 : ¬ c20 176 22 = 0 := by rw [w20]; decide
        refine ⟨K c20, fun q => ⟨fun _ => q, fun w => absurd w n0⟩, fun _ => hk c20 (Or.inr ⟨hn, w20⟩) f20, fun _ => ⟨fun _ => hk c20 (Or.inr ⟨hn, w20⟩) f20, fun w => absurd w n0⟩⟩
  · have g1 : ¬ D.length < 2 := fun q => g (nI_lt (b := 2) q (by decide))
    rw [show Int32.toNatClampNeg 0 = 0 from rfl, show c4 192 0 = D.getD 0 0 by rw [e4, c_up_ne (by decide)]; exact hd 0 (by omega), show c4 178 a = nI ot.length by rw [e4, c_up_at hab]; exact ho]
    exact ⟨k192, vp_in_nI (n := 0) (by decide) (by decide), vp_in_nI ha (by decide), fun q => Or.inl ⟨rfl, fun w => w.elim g1 (fun w2 => w2 q)⟩, fun q => Or.inr q⟩
