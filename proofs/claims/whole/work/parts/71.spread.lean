def zer (f : Nat → Int32) : Nat → Nat
  | 0 => 0
  | n + 1 => zer f n + (if f n = 0 then 1 else 0)
theorem zer_eq {f g : Nat → Int32} : ∀ n, (∀ k, k < n → g k = f k) → zer g n = zer f n
  | 0, _ => rfl
  | n + 1, h => by rw [zer, zer, zer_eq n (fun k hk => h k (by omega)), h n (by omega)]
theorem zer_up {f g : Nat → Int32} {l : Nat} (h0 : f l = 0) (h1 : ¬ g l = 0) (h2 : ∀ k, k ≠ l → g k = f k) : ∀ n, l < n → zer f n = zer g n + 1
  | 0, h => absurd h (Nat.not_lt_zero _)
  | n + 1, h => by
    rw [zer, zer]
    by_cases e : n = l
    · subst e
      rw [zer_eq (f := f) (g := g) n (fun k hk => h2 k (by omega)), if_pos h0, if_neg h1]
    · rw [zer_up h0 h1 h2 n (by omega), h2 n e]
      omega
def On (c : cM) (k : Nat) : Prop := ¬ c 181 k = 0
/-- the model's marks, on their way to what is reached -/
def Ms (ths : List Th) (d : Nat → Int32) (c c' : cM) : Prop := (∀ a, a ≠ 181 → c' a = c a) ∧ (∀ k, k < 16 → bz (c' 181 k)) ∧ (∀ k, k < 16 → On c' k → Rch ths d k) ∧ ∀ k, k < ths.length → hld d k → On c' k
theorem MR.sp {c c' : cM} {σ : Sg} (h : MR c σ) (hV : VS σ) (f : ∀ a, a ≠ 181 → c' a = c a) : MR c' σ :=
  h.loc hV (fun k _ => by rw [f 176 (by decide)]) (fun i _ => by rw [f 177 (by decide)]) (fun i hi => by rw [f 178 (by decide)]) (fun q hq => by rw [f 179 (by decide)]) (fun q _ => by rw [f 180 (by decide)]) (fun a ha => f a (by omega))
theorem m_spread {c : cM} {σ : Sg} {K : cM → Prop} (h : MR c σ) (hV : VS σ) (hk : ∀ c', (∀ a, a ≠ 181 → c' a = c a) → (∀ i, i < 16 → c' 181 i = pI (Rch σ.1 σ.2.2.2.1 i)) → K c') : f_Mo_spread 176 c K := by
  have hn := hV.2.1
  have hB := hV.2.2.2.2.2.1
  unfold f_Mo_spread
  rw [mk_k.2.2.2.2.2.1, mk_k2.2.2.2.1, mk_l.2.2.2.2.1, mk_l2.2.2.1]
  refine ⟨fun m y c' => ∃ j, m = 16 - j ∧ j ≤ 16 ∧ y = nI j ∧ (∀ a, a ≠ 181 → c' a = c a) ∧ ∀ i, i < j → c' 181 i = 0, ⟨16, 0, rfl, Nat.zero_le _, rfl, fun _ _ => rfl, fun i hi => absurd hi (Nat.not_lt_zero _)⟩, ?_⟩
  rintro m y c6 ⟨j, rfl, hj, rfl, f6, z6⟩
  refine ⟨fun g => ?_, fun g => ?_⟩
  · have ej : j = 16 := by
      have := (nI_leI (a := 16) (by omega) (by omega)).mp g
      omega
    subst ej
    refine ⟨fun m y c' => ∃ b, m = 4 - b ∧ b ≤ 4 ∧ y = nI b ∧ (∀ a, a ≠ 181 → c' a = c a) ∧ ∀ i, i < 16 → c' 181 i = pI (∃ b', b' < b ∧ σ.2.2.2.1 b' = nI i), ⟨4, 0, rfl, Nat.zero_le _, rfl, f6, fun i hi => by rw [z6 i hi, pI_f]; rintro ⟨b', hb', -⟩; exact absurd hb' (Nat.not_lt_zero _)⟩, ?_⟩
    rintro m y c13 ⟨b, rfl, hb, rfl, f13, z13⟩
    refine ⟨fun g4 => ?_, fun g4 => ?_⟩
    · have eb : b = 4 := by
        have := (nI_leI (a := 4) (by omega) (by omega)).mp g4
        omega
      subst eb
      have M13 : Ms σ.1 σ.2.2.2.1 c c13 := by
        refine ⟨f13, fun k hk2 => by rw [z13 k hk2]; exact pI_bz _, fun k hk2 ho => ?_, fun k hk2 hh => ?_⟩
        · have ho' : ¬ c13 181 k = 0 := ho
          rw [z13 k hk2] at ho'
          obtain ⟨b', b1, b2⟩ := Classical.byContradiction (fun w => ho' (pI_f w))
          rcases hB b' b1 with w | ⟨q, q1, q2⟩
          · have : nI k < 0 := by rw [← b2, w]; decide
            exact absurd this (nI_pos (by omega))
          · have : k = q := (nI_eq (by omega) (by omega)).mp (b2.symm.trans q2)
            rw [this]
            exact Rch.base q1 ⟨b', b1, q2⟩
        · obtain ⟨b', b1, b2⟩ := hh
          show ¬ c13 181 k = 0
          rw [z13 k (by omega), pI_t ⟨b', b1, b2⟩]
          decide
      refine ⟨fun m y c' => Ms σ.1 σ.2.2.2.1 c c' ∧ ((y = 1 ∧ m = zer (c' 181) 16 + 1) ∨ (y = 0 ∧ m = 0 ∧ ∀ i, i < σ.1.length → On c' i → ∀ j, j < σ.1.length → rfr σ.1 i j → On c' j)), ⟨_, M13, Or.inl ⟨rfl, rfl⟩⟩, ?_⟩
      rintro n16 y19 c20 ⟨M20, hy⟩
      refine ⟨fun g5 => ?_, fun g5 => ?_⟩
      · have hcl : ∀ i, i < σ.1.length → On c20 i → ∀ j, j < σ.1.length → rfr σ.1 i j → On c20 j := by
          rcases hy with ⟨w, -⟩ | ⟨-, -, w⟩
          · rw [w] at g5; exact absurd g5 (by decide)
          · exact w
        obtain ⟨q1, q2, q3, q4⟩ := M20
        refine hk c20 q1 (fun i hi => ?_)
        rcases Classical.em (Rch σ.1 σ.2.2.2.1 i) with w | w
        · rw [pI_t w]
          have ho : On c20 i := w.2 (fun x => On c20 x) (fun x hx hh => q4 x hx hh) (fun x z hx hz hxo hxz => hcl x hx hxo z hz hxz)
          rcases q2 i hi with e | e
          · exact absurd e ho
          · exact e
        · rw [pI_f w]
          rcases q2 i hi with e | e
          · exact e
          · exact absurd (q3 i hi (by unfold On; rw [e]; decide)) w
      · have hn16 : n16 = zer (c20 181) 16 + 1 := by
          rcases hy with ⟨-, w⟩ | ⟨w, -⟩
          · exact w
          · exact absurd w g5
        refine ⟨fun m y26 y27 c' => ∃ i, m = σ.1.length - i ∧ i ≤ σ.1.length ∧ y27 = nI i ∧ Ms σ.1 σ.2.2.2.1 c c' ∧ ((y26 = 1 ∧ zer (c' 181) 16 < zer (c20 181) 16) ∨ (y26 = 0 ∧ c' = c20 ∧ ∀ i', i' < i → On c20 i' → ∀ j, j < σ.1.length → rfr σ.1 i' j → On c20 j)), ⟨_, 0, rfl, Nat.zero_le _, rfl, M20, Or.inr ⟨rfl, rfl, fun i' hi' => absurd hi' (Nat.not_lt_zero _)⟩⟩, ?_⟩
        rintro m y26 y27 c28 ⟨i, rfl, hi, rfl, M28, hy28⟩
        have R28 := h.sp hV M28.1
        rw [R28.1]
        refine ⟨mk_k.1, fun g6 => ?_, fun g6 => ?_⟩
        · have ei : i = σ.1.length := by
            have := (nI_leI (by omega) (by omega)).mp g6
            omega
          rcases hy28 with ⟨w1, w2⟩ | ⟨w1, w2, w3⟩
          · exact ⟨zer (c28 181) 16 + 1, by omega, M28, Or.inl ⟨w1, rfl⟩⟩
          · refine ⟨0, by omega, M28, Or.inr ⟨w1, rfl, ?_⟩⟩
            rw [w2]
            exact fun i' hi' => w3 i' (by omega)
        · have hil : i < σ.1.length := by
            rcases Nat.lt_or_ge i σ.1.length with w | w
            · exact w
            · exact absurd (nI_le w (by omega)) g6
          refine ⟨fun m y35 y36 c' => ∃ j, m = σ.1.length - j ∧ j ≤ σ.1.length ∧ y36 = nI j ∧ Ms σ.1 σ.2.2.2.1 c c' ∧ ((y35 = 1 ∧ zer (c' 181) 16 < zer (c20 181) 16) ∨ (y35 = 0 ∧ c' = c20 ∧ (∀ i', i' < i → On c20 i' → ∀ j, j < σ.1.length → rfr σ.1 i' j → On c20 j) ∧ ∀ j', j' < j → rfr σ.1 i j' → On c20 j')), ⟨_, 0, rfl, Nat.zero_le _, rfl, M28, ?_⟩, ?_⟩
          · rcases hy28 with w | ⟨w1, w2, w3⟩
            · exact Or.inl w
            · exact Or.inr ⟨w1, w2, w3, fun j' hj' => absurd hj' (Nat.not_lt_zero _)⟩
          · rintro m y35 y36 c37 ⟨j, rfl, hj, rfl, M37, hy37⟩
            have R37 := h.sp hV M37.1
            rw [R37.1, nI_clamp (show i < 2 ^ 31 by omega), nI_clamp (show j < 2 ^ 31 by omega)]
            refine ⟨(y35 = 1 ∧ zer (c37 181) 16 < zer (c20 181) 16) ∨ (y35 = 0 ∧ c37 = c20 ∧ ∀ i', i' < i + 1 → On c20 i' → ∀ j, j < σ.1.length → rfr σ.1 i' j → On c20 j), fun w => ⟨σ.1.length - (i + 1), by omega, i + 1, rfl, by omega, (nI_succ i).symm, M37, w⟩, fun g7 => ?_, fun g7 => ⟨mk_a.2.2.2.2.1, vp_in_nI (by omega) (by decide), fun g8 => ?_, fun g8 => ?_⟩⟩
            · have ej : j = σ.1.length := by
                have := (nI_leI (by omega) (by omega)).mp g7
                omega
              rcases hy37 with w | ⟨w1, w2, w3, w4⟩
              · exact Or.inl w
              · refine Or.inr ⟨w1, w2, fun i' hi' ho j' hj' hr => ?_⟩
                by_cases e : i' = i
                · rw [e] at hr; exact w4 j' (by omega) hr
                · exact w3 i' (by omega) ho j' hj' hr
            · rcases hy37 with w | ⟨w1, w2, w3, w4⟩
              · exact Or.inl w
              · refine Or.inr ⟨w1, w2, fun i' hi' ho j' hj' hr => ?_⟩
                by_cases e : i' = i
                · rw [e] at ho; rw [w2] at g8; exact absurd g8 ho
                · exact w3 i' (by omega) ho j' hj' hr
            · have hjl : j < σ.1.length := by
                rcases Nat.lt_or_ge j σ.1.length with w | w
                · exact w
                · exact absurd (nI_le w (by omega)) g7
              refine ⟨vp_in_nI (by omega) (by decide), fun y c' => Ms σ.1 σ.2.2.2.1 c c' ∧ ((y = 1 ∧ zer (c' 181) 16 < zer (c20 181) 16) ∨ (y = 0 ∧ c' = c20 ∧ (∀ i', i' < i → On c20 i' → ∀ j, j < σ.1.length → rfr σ.1 i' j → On c20 j) ∧ ∀ j', j' < j + 1 → rfr σ.1 i j' → On c20 j')), fun y c' w => ⟨σ.1.length - (j + 1), by omega, j + 1, rfl, by omega, (nI_succ j).symm, w.1, w.2⟩, fun g9 => ⟨M37, ?_⟩, fun g9 => m_refers R37 hV hil hjl ⟨fun g10 => ⟨M37, ?_⟩, fun g10 c66 e66 => ?_⟩⟩
              · rcases hy37 with w | ⟨w1, w2, w3, w4⟩
                · exact Or.inl w
                · refine Or.inr ⟨w1, w2, w3, fun j' hj' hr => ?_⟩
                  by_cases e : j' = j
                  · rw [e, ← w2]; exact g9
                  · exact w4 j' (by omega) hr
              · rcases hy37 with w | ⟨w1, w2, w3, w4⟩
                · exact Or.inl w
                · refine Or.inr ⟨w1, w2, w3, fun j' hj' hr => ?_⟩
                  by_cases e : j' = j
                  · rw [e] at hr; exact absurd hr (pI_eq0.mp g10)
                  · exact w4 j' (by omega) hr
              · have hr : rfr σ.1 i j := Classical.byContradiction (fun w => g10 (pI_f w))
                have hz : zer (c37 181) 16 = zer (c66 181) 16 + 1 := zer_up (l := j) g9 (by rw [e66, c_up_self]; decide) (fun k hk2 => by rw [e66, c_up_at hk2]) 16 (by omega)
                have hz2 : zer (c37 181) 16 ≤ zer (c20 181) 16 := by
                  rcases hy37 with w | ⟨-, w2, -⟩
                  · omega
                  · rw [w2]; exact Nat.le_refl _
                refine ⟨⟨fun a ha => by rw [e66, c_up_ne ha]; exact M37.1 a ha, fun k hk2 => ?_, fun k hk2 ho => ?_, fun k hk2 hh => ?_⟩, Or.inl ⟨rfl, by omega⟩⟩
                · by_cases e : k = j
                  · rw [e66, e, c_up_self]; exact Or.inr rfl
                  · rw [e66, c_up_at e]; exact M37.2.1 k hk2
                · by_cases e : k = j
                  · rw [e]
                    exact (M37.2.2.1 i (by omega) g8).step hjl hr
                  · have ho' : ¬ c66 181 k = 0 := ho
                    rw [e66, c_up_at e] at ho'
                    exact M37.2.2.1 k hk2 ho'
                · show ¬ c66 181 k = 0
                  by_cases e : k = j
                  · rw [e66, e, c_up_self]; decide
                  · rw [e66, c_up_at e]; exact M37.2.2.2 k hk2 hh
    · have hb4 : b < 4 := by
        rcases Nat.lt_or_ge b 4 with w | w
        · exact w
        · exact absurd (nI_le (a := 4) w (by omega)) g4
      have v : c13 186 b = σ.2.2.2.1 b := by rw [f13 186 (by decide)]; exact h.2.2.2.2.1 b hb4
      rw [nI_clamp (show b < 2 ^ 31 by omega), v]
      refine ⟨mk_k.1, mk_a2.2.2.1, vp_in_nI hb4 (by decide), fun c' => (∀ a, a ≠ 181 → c' a = c a) ∧ ∀ i, i < 16 → c' 181 i = pI (∃ b', b' < b + 1 ∧ σ.2.2.2.1 b' = nI i), fun c' w => ⟨4 - (b + 1), by omega, b + 1, rfl, by omega, (nI_succ b).symm, w.1, w.2⟩, fun g5 => ⟨f13, fun i hi => ?_⟩, fun g5 => ⟨mk_a.2.2.2.2.1, ?_⟩⟩
      · rw [z13 i hi]
        refine pI_iff ⟨fun w => ?_, fun w => ?_⟩
        · obtain ⟨b', b1, b2⟩ := w
          exact ⟨b', by omega, b2⟩
        · obtain ⟨b', b1, b2⟩ := w
          by_cases e : b' = b
          · rw [e] at b2
            rw [b2] at g5
            exact absurd g5 (nI_pos (by omega))
          · exact ⟨b', by omega, b2⟩
      · rcases hB b hb4 with w | ⟨q, q1, q2⟩
        · rw [w] at g5; exact absurd (by decide) g5
        · rw [q2, nI_clamp (show q < 2 ^ 31 by omega)]
          refine ⟨vp_in_nI (by omega) (by decide), fun c79 e79 => ⟨fun a ha => by rw [e79, c_up_ne ha]; exact f13 a ha, fun i hi => ?_⟩⟩
          by_cases e : i = q
          · rw [e79, e, c_up_self, pI_t ⟨b, by omega, q2⟩]
          · rw [e79, c_up_at e, z13 i hi]
            refine pI_iff ⟨fun w => ?_, fun w => ?_⟩
            · obtain ⟨b', b1, b2⟩ := w
              exact ⟨b', by omega, b2⟩
            · obtain ⟨b', b1, b2⟩ := w
              by_cases eb : b' = b
              · rw [eb, q2] at b2
                exact absurd ((nI_eq (by omega) (by omega)).mp b2).symm e
              · exact ⟨b', by omega, b2⟩
  · have hj16 : j < 16 := by
      rcases Nat.lt_or_ge j 16 with w | w
      · exact w
      · exact absurd (nI_le (a := 16) w (by omega)) g
    rw [nI_clamp (by omega)]
    refine ⟨mk_k.1, mk_a.2.2.2.2.1, vp_in_nI hj16 (by decide), fun c83 e83 => ⟨16 - (j + 1), by omega, j + 1, rfl, by omega, (nI_succ j).symm, fun a ha => by rw [e83, c_up_ne ha]; exact f6 a ha, fun i hi => ?_⟩⟩
    by_cases eij : i = j
    · rw [e83, eij, c_up_self]
    · rw [e83, c_up_at eij]
      exact z6 i (by omega)
noncomputable def reaX (σ : Sg) (x : Int32) : Int32 × Sg := (pI (∃ j, j < σ.1.length ∧ x = nI j ∧ Rch σ.1 σ.2.2.2.1 j), σ)
theorem Fr.cr {ρ : Nat → List Int32} {γ γ' : cM} {σ : Sg} (h : CR ρ γ σ) (f : Fr γ γ') : CR ρ γ' σ := by
  obtain ⟨s, g2, g3, g4, g5, g6⟩ := h
  exact ⟨s.pe f.pe, g2, by rw [f.1 90 (by decide) (by decide) (by decide)]; exact g3, by rw [f.1 85 (by decide) (by decide) (by decide)]; exact g4, g5, by rw [f.1 18 (by decide) (by decide) (by decide)]; exact g6⟩
theorem p_reached {c : cM} {σ : Sg} {x : Int32} {J : cM → Prop} (h : Inv c σ) (hJ : ∀ c σ, Inv c σ → J c) : f_P_reached 18 x c (fun v c1 => kd 176 = 7 ∧ f_Mo_reached 176 x c1 (fun v' c2 => Fin2 J v v' c2)) := by
  refine pairX (reaX σ x) h hJ h.2.2 (fun ρ γ K hR hC hk => ?_) (fun c' K hM hk => ?_)
  · have hn := h.2.2.2.1
    unfold f_P_reached
    rw [ps_k.2.1, st_k.2.2.1, st_k2.2.1]
    refine ⟨ps_k.1, st_k.2.2.2.2.1, s_has hR hC.1.1 (by omega) (fun j hj e => ⟨fun _ => s_markReached hR hC.1 hC.2.2.2.1 (fun c6 γ6 h6 f6 z6 => ⟨st_k2.1, ?_⟩), fun g => absurd g (by decide)⟩) (fun g => ⟨fun g2 => absurd rfl g2, fun _ => ?_⟩)⟩
    · rw [e, nI_clamp (by omega), h6.2 86 n86, z6 j (by omega)]
      refine ⟨vp_in_nI (by omega) (by decide), pI_bz _, ?_⟩
      have e1 : pI (Rch σ.1 σ.2.2.2.1 j) = (reaX σ x).1 := by
        refine pI_iff ⟨fun w => ⟨j, hj, e, w⟩, fun w => ?_⟩
        obtain ⟨j', q1, q2, q3⟩ := w
        have : j = j' := (nI_eq (by omega) (by omega)).mp (e.symm.trans q2)
        rw [this]; exact q3
      rw [e1]
      exact hk c6 ρ γ6 h6 (f6.cr hC) (fun a ha => f6.1 a (by omega) (by omega) (by omega))
    · have e1 : (reaX σ x).1 = 0 := pI_f (by rintro ⟨j', q1, q2, q3⟩; exact g j' q1 q2)
      rw [e1] at hk
      exact hk c ρ γ hR hC (fun _ _ => rfl)
  · have hn := h.2.2.2.1
    unfold f_Mo_reached
    rw [mk_k.2.2.2.2.2.1, mk_l.2.2.2.2.1]
    refine ⟨mk_k.1, m_isThing hM.1 (by omega) (fun j hj e => ⟨fun _ => m_spread hM h.2.2 (fun c5 f5 z5 => ⟨mk_a.2.2.2.2.1, ?_⟩), fun g => absurd g (by decide)⟩) (fun g => ⟨fun g2 => absurd rfl g2, fun _ => ?_⟩)⟩
    · rw [e, nI_clamp (by omega), z5 j (by omega)]
      refine ⟨vp_in_nI (by omega) (by decide), pI_bz _, ?_⟩
      have e1 : pI (Rch σ.1 σ.2.2.2.1 j) = (reaX σ x).1 := by
        refine pI_iff ⟨fun w => ⟨j, hj, e, w⟩, fun w => ?_⟩
        obtain ⟨j', q1, q2, q3⟩ := w
        have : j = j' := (nI_eq (by omega) (by omega)).mp (e.symm.trans q2)
        rw [this]; exact q3
      rw [e1]
      exact hk c5 (hM.sp h.2.2 f5) (fun a ha => f5 a (by omega))
    · have e1 : (reaX σ x).1 = 0 := pI_f (by rintro ⟨j', q1, q2, q3⟩; exact g j' q1 q2)
      rw [e1] at hk
      exact hk c' hM (fun _ _ => rfl)
