def rdT (P : List Int32) (e : Nat) (R : List Rd) (p : Nat) : Int32 ⊕ (Int32 × List Int32 × Nat) :=
  if p < e then
    if bv P p / 16 % 8 = 6 then
      rsb (szN P e (bv P p) (p + 1)) (fun nq => rsb (oth P e R p nq.2) (fun iq => rsb (wrR P e nq.1 iq.2) (fun dq => (cyo dq.1 (R.getD iq.1 (0, 0, [])).2.2).elim (.inl (-10)) (fun L => .inr ((R.getD iq.1 (0, 0, [])).2.1, L, dq.2)))))
    else if 1 ≤ bv P p / 16 % 8 ∧ bv P p / 16 % 8 ≤ 3 then
      rsb (szN P e (bv P p) (p + 1)) (fun nq => rsb (wrR P e nq.1 nq.2) (fun dq => .inr (nI (bv P p / 16 % 8), dq.1, dq.2)))
    else .inl (-6)
  else .inl (-5)
def VR (e : Nat) (x : Rd) : Prop := (x.2.1 = 1 ∨ x.2.1 = 2 ∨ x.2.1 = 3) ∧ byt x.2.2 ∧ x.2.2.length ≤ 120 ∧ x.1 < e
theorem gdR {R : List Rd} {i : Nat} {x : Rd} (h : R[i]? = some x) : R.getD i (0, 0, []) = x := by
  rw [List.getD_eq_getElem?_getD, h]; rfl
theorem rdT_ok {P : List Int32} {e p q : Nat} {R : List Rd} {t : Int32} {L : List Int32} (hb : byt P) (he : e ≤ P.length) (hR : ∀ x ∈ R, VR e x) (h : rdT P e R p = .inr (t, L, q)) : p < q ∧ q ≤ e ∧ VR e (p, t, L) := by
  unfold rdT at h
  by_cases g0 : p < e
  · rw [if_pos g0] at h
    by_cases g1 : bv P p / 16 % 8 = 6
    · rw [if_pos g1] at h
      cases e1 : szN P e (bv P p) (p + 1) with
      | inl w => rw [e1] at h; cases h
      | inr nq =>
        rw [e1, rsb_r] at h
        have z1 := szN_q (by omega) e1
        cases e2 : oth P e R p nq.2 with
        | inl w => rw [e2] at h; cases h
        | inr iq =>
          rw [e2, rsb_r] at h
          have z2 := oth_q e2
          cases e3 : wrR P e nq.1 iq.2 with
          | inl w => rw [e3] at h; cases h
          | inr dq =>
            rw [e3, rsb_r] at h
            have z3 := wrR_q z2.2.1 he hb e3
            obtain ⟨x, hx⟩ := get_some z2.2.2
            have vx := hR x (List.mem_of_getElem? hx)
            rw [gdR hx] at h
            cases e4 : cyo dq.1 x.2.2 with
            | none => rw [e4] at h; cases h
            | some M =>
              rw [e4] at h
              cases h
              have z4 := cyo_p z3.2.2.2 vx.2.1 e4
              exact ⟨by omega, z3.2.1, vx.1, z4.1, z4.2, g0⟩
    · rw [if_neg g1] at h
      by_cases g2 : 1 ≤ bv P p / 16 % 8 ∧ bv P p / 16 % 8 ≤ 3
      · rw [if_pos g2] at h
        cases e1 : szN P e (bv P p) (p + 1) with
        | inl w => rw [e1] at h; cases h
        | inr nq =>
          rw [e1, rsb_r] at h
          have z1 := szN_q (by omega) e1
          cases e3 : wrR P e nq.1 nq.2 with
          | inl w => rw [e3] at h; cases h
          | inr dq =>
            rw [e3, rsb_r] at h
            have z3 := wrR_q z1.2.1 he hb e3
            cases h
            refine ⟨by omega, z3.2.1, ?_, z3.2.2.2, by show dq.1.length ≤ 120; omega, g0⟩
            show nI _ = 1 ∨ nI _ = 2 ∨ nI _ = 3
            rcases (show bv P p / 16 % 8 = 1 ∨ bv P p / 16 % 8 = 2 ∨ bv P p / 16 % 8 = 3 by omega) with w | w | w
            · rw [w]; exact Or.inl rfl
            · rw [w]; exact Or.inr (Or.inl rfl)
            · rw [w]; exact Or.inr (Or.inr rfl)
      · rw [if_neg g2] at h; cases h
  · rw [if_neg g0] at h; cases h
def Fy (k : Nat) (ρ : Nat → List Int32) (γ : cM) (ρ' : Nat → List Int32) (γ' : cM) : Prop := (∀ r, r ≠ 172 → r ≠ 174 → r ≠ 108 + 4 * k → ρ' r = ρ r) ∧ (∀ a, a ≠ 105 → a ≠ 171 → a ≠ 107 + 4 * k → γ' a = γ a) ∧ (∀ f, f ≠ 5 → γ' 105 f = γ 105 f) ∧ ∀ i, i ≠ k → γ' 171 i = γ 171 i
theorem and7 {n : Nat} (h : n < 2 ^ 31) : nI n &&& 7 = nI (n % 8) := pk_andN (by omega) 3 (by decide)
def RdR (ρ : Nat → List Int32) (γ : cM) (R : List Rd) : Prop := ∀ (i : Nat) (x : Rd), R[i]? = some x → γ 171 i = nI x.1 ∧ γ (107 + 4 * i) 0 = x.2.1 ∧ ρ (108 + 4 * i) = x.2.2
theorem s_readThing {c : cM} {ρ : Nat → List Int32} {γ : cM} {P : List Int32} {e p k : Nat} {R : List Rd} {K : Int32 → cM → Prop} (h : Rep c ρ γ) (hE : En ρ γ P e) (hp : p ≤ e) (hat : γ 105 5 = nI p) (hk : γ 105 1 = nI k) (hRk : R.length = k) (hk16 : k < 16) (hR : RdR ρ γ R) (hV : ∀ x ∈ R, VR e x) (h1 : ∀ t L q, rdT P e R p = .inr (t, L, q) → ∀ c' ρ' γ', Rep c' ρ' γ' → Fy k ρ γ ρ' γ' → γ' 105 5 = nI q → γ' 171 k = nI p → γ' (107 + 4 * k) 0 = t → ρ' (108 + 4 * k) = L → K 0 c') (h0 : ∀ w, ng w → rdT P e R p = .inl w → ∀ c' ρ' γ', Rep c' ρ' γ' → Fy k ρ γ ρ' γ' → K w c') : f_Rea_readThing 105 91 (107 + 4 * k) c K := by
  obtain ⟨k0, k2, k3, k4, k106, l106, k171, l171, k172, k174, l173, l175⟩ := rd_k
  obtain ⟨E1, E2, E3, E4, E5⟩ := id hE
  have ku := (rd_t k hk16).2
  obtain ⟨tu1, -, tu3, -, -, tu6, -⟩ := thing_k ku
  have nu := (thing_n ku).1
  unfold f_Rea_readThing
  rw [k0, k2, l171, l106, show c 105 1 = nI k by rw [h.2 105 n105]; exact hk, show c 105 5 = nI p by rw [h.2 105 n105]; exact hat, nI_clamp (show k < 2 ^ 31 by omega)]
  refine ⟨ps_k3.2.2.1, k171, vp_in_nI hk16 (by decide), ?_⟩
  rintro c4 e4
  have R4 := h.up n171 e4
  generalize hG : c_up γ 171 k (nI p) = G at R4
  have G105 : G 105 = γ 105 := by rw [← hG]; exact c_up_ne (by decide)
  have Gk : G 171 k = nI p := by rw [← hG]; exact c_up_self
  have Gi : ∀ i, i ≠ k → G 171 i = γ 171 i := fun i hi => by rw [← hG]; exact c_up_at hi
  have Go : ∀ a, a ≠ 171 → G a = γ a := fun a ha => by rw [← hG]; exact c_up_ne ha
  have R4' : Rep c4 ρ (c_up G 105 5 (nI p)) := by rw [cu_id (by rw [G105]; exact hat)]; exact R4
  have EG : ∀ ρ', Fx ρ ρ' → En ρ' G P e := fun ρ' f => ⟨(f 91 (by decide) (by decide)).trans E1, E2, E3, E4, by rw [G105]; exact E5⟩
  have EG0 : En ρ G P e := EG ρ (fun _ _ _ => rfl)
  have FyX : ∀ ρ' q, Fx ρ ρ' → Fy k ρ γ ρ' (c_up G 105 5 (nI q)) := fun ρ' q f => ⟨fun r r1 r2 _ => f r r1 r2, fun a a1 a2 _ => by rw [c_up_ne a1]; exact Go a a2, fun f1 hf => by rw [c_up_at hf, G105], fun i hi => by rw [c_up_ne (by decide)]; exact Gi i hi⟩
  refine s_next R4' EG0 hp (fun g1 c5 h5 => ⟨fun _ => ?_, fun g2 => absurd (nI_pos' (by have := (bv_e E2 (show p < P.length by omega)).2; omega)) g2⟩) (fun g1 => ⟨fun g2 => absurd g2 (by decide), fun _ => h0 (-5) (Or.inl rfl) (by unfold rdT; rw [if_neg g1]) c4 ρ _ R4' (FyX ρ p (fun _ _ _ => rfl))⟩)
  have hb := (bv_e E2 (show p < P.length by omega)).2
  rw [shr4 (show bv P p < 2 ^ 31 by omega), and7 (by omega)]
  unfold rdT at h1 h0
  simp only [if_pos g1] at h1 h0
  by_cases g6 : bv P p / 16 % 8 = 6
  · simp only [if_pos g6] at h1 h0
    refine ⟨fun s => s = 1, ?_, fun q => absurd (by rw [g6]; rfl) q, fun _ => rfl⟩
    rintro s rfl
    refine ⟨True, fun _ => ?_, fun _ => True.intro, fun q => absurd q (by decide)⟩
    refine s_number h5 EG0 (by omega) hb (fun n q en c17 h17 => ⟨fun _ => ?_, fun g2 => absurd (nI_pos' (by have := szN_q (by omega) en; omega)) g2⟩) (fun w ew c17 q h17 => ⟨fun g2 => absurd g2 (ng_n (szN_g ew)).2, fun _ => h0 w (szN_g ew) (by rw [ew]; rfl) c17 ρ _ h17 (FyX ρ q (fun _ _ _ => rfl))⟩)
    have zn := szN_q (by omega) en
    simp only [en, rsb_r] at h1 h0
    refine ⟨fun s c' => (∃ i q2, oth P e R p q = .inr (i, q2) ∧ s = nI i ∧ Rep c' ρ (c_up G 105 5 (nI q2))) ∨ (∃ q2, oth P e R p q = .inl s ∧ Rep c' ρ (c_up G 105 5 (nI q2))), ?_, fun q => absurd q (by decide), fun _ => ?_⟩
    · rintro s c24 (⟨i, q2, eo, rfl, h24⟩ | ⟨q2, eo, h24⟩)
      · have zo := oth_q eo
        simp only at zo
        simp only [eo, rsb_r] at h1 h0
        obtain ⟨x, hx⟩ := get_some zo.2.2
        obtain ⟨x1, x2, x3⟩ := hR i x hx
        have vx := hV x (List.mem_of_getElem? hx)
        rw [gdR hx] at h1 h0
        have ki := (rd_t i (by omega)).2
        obtain ⟨ti1, -, ti3, -⟩ := thing_k ki
        refine ⟨fun _ => ?_, fun g2 => absurd (nI_pos' (by omega)) g2⟩
        refine s_readWrapped h24 EG0 (by omega) (by omega) (fun D q3 ed c28 ρ3 h28 f28 d28 => ⟨fun _ => ⟨fun q => absurd q (by decide), fun _ => ⟨k106, vp_in_nI (by omega) (by decide), ?_⟩⟩, fun q => absurd rfl q⟩) (fun w ew c28 ρ3 q3 h28 f28 => ⟨fun g2 => absurd g2 (ng_n (wrR_g ew)).1, fun _ => h0 w (wrR_g ew) (by rw [ew]; rfl) c28 ρ3 _ h28 (FyX ρ3 q3 f28)⟩)
        have zw := wrR_q (by omega) E4 E2 ed
        simp only at zw
        simp only [ed, rsb_r] at h1 h0
        rw [nI_clamp (show i < 2 ^ 31 by omega), (rd_t i (by omega)).1]
        unfold f_Rea_takeDifference
        rw [k3, ti1, tu1, show c28 (107 + 4 * i) 0 = x.2.1 by rw [h28.2 _ (thing_n ki).1, c_up_ne (by omega), Go _ (by omega)]; exact x2]
        refine ⟨ki, ku, s_tbegin h28 ku (fun c3 h3 => ⟨ps_k3.2.2.1, ?_⟩)⟩
        have e172 : fu ρ3 (107 + 4 * k + 1) [] 172 = D := by rw [fu_ne (by omega)]; exact d28
        have ei : fu ρ3 (107 + 4 * k + 1) [] (107 + 4 * i + 1) = x.2.2 := by rw [fu_ne (by omega), f28 _ (by omega) (by omega), show 107 + 4 * i + 1 = 108 + 4 * i by omega]; exact x3
        have fin : ∀ M, Fy k ρ γ (fu (fu ρ3 (107 + 4 * k + 1) []) (107 + 4 * k + 1) M) (c_up (c_up G 105 5 (nI q3)) (107 + 4 * k) 0 x.2.1) := fun M => ⟨fun r r1 r2 r3 => by rw [fu_ne (by omega), fu_ne (by omega)]; exact f28 r r1 r2, fun a a1 a2 a3 => by rw [c_up_ne a3, c_up_ne a1]; exact Go a a2, fun f1 hf => by rw [c_up_ne (by omega), c_up_at hf, G105], fun j hj => by rw [c_up_ne (by omega), c_up_ne (by decide)]; exact Gi j hj⟩
        refine s_carry h3 k172 ti3 tu3 (by omega) (by omega) tu6 fu_self (by rw [e172]; exact zw.2.2.2) (by rw [e172]; omega) (by rw [ei]; exact vx.2.2.1) (fun L el c' h' => ⟨fun q => absurd q (by decide), fun _ => ?_⟩) (fun el c' L h' => ⟨fun _ => ?_, fun q => absurd rfl q⟩)
        · rw [e172, ei] at el
          refine h1 x.2.1 L q3 (by rw [el]; rfl) c' _ _ h' (fin L) ?_ ?_ ?_ ?_
          · rw [c_up_ne (by omega), c_up_self]
          · rw [c_up_ne (by omega), c_up_ne (by decide)]; exact Gk
          · rw [c_up_self]
          · rw [show 108 + 4 * k = 107 + 4 * k + 1 by omega, fu_self]
        · rw [e172, ei] at el
          exact h0 (-10) (Or.inr (Or.inr (Or.inr (Or.inr (Or.inr rfl))))) (by rw [el]; rfl) c' _ _ h' (fin L)
      · refine ⟨fun g2 => absurd g2 (ng_n (oth_g eo)).2, fun _ => h0 s (oth_g eo) (by rw [eo]; rfl) c24 ρ _ h24 (FyX ρ q2 (fun _ _ _ => rfl))⟩
    · refine s_other h17 EG0 zn.2.1 (by rw [G105, hRk]; exact hk) (by omega) (fun i x hx => ⟨?_, by have := (hV x (List.mem_of_getElem? hx)).2.2.2; omega⟩) (by rw [hRk]; exact Gk) (by omega) (fun i q2 eo c' h' => Or.inl ⟨i, q2, eo, rfl, h'⟩) (fun w eo c' q2 h' => Or.inr ⟨q2, eo, h'⟩)
      rw [Gi i (by have := (List.getElem?_eq_some_iff.mp hx).1; omega)]
      exact (hR i x hx).1
  · simp only [if_neg g6] at h1 h0
    refine ⟨fun s => s = 0, ?_, fun _ => rfl, fun q => absurd ((nI_eq (b := 6) (by omega) (by decide)).mp q) g6⟩
    rintro s rfl
    refine ⟨1 ≤ bv P p / 16 % 8 ∧ bv P p / 16 % 8 ≤ 3, fun g7 => ?_, fun q => absurd rfl q, fun _ => ⟨fun g8 => ?_, fun g8 => ⟨fun g9 => ?_, fun g9 => ?_⟩⟩⟩
    · simp only [if_pos g7] at h1 h0
      refine s_number h5 EG0 (by omega) hb (fun n q en c17 h17 => ⟨fun _ => ?_, fun g2 => absurd (nI_pos' (by have := szN_q (by omega) en; omega)) g2⟩) (fun w ew c17 q h17 => ⟨fun g2 => absurd g2 (ng_n (szN_g ew)).2, fun _ => h0 w (szN_g ew) (by rw [ew]; rfl) c17 ρ _ h17 (FyX ρ q (fun _ _ _ => rfl))⟩)
      have zn := szN_q (by omega) en
      simp only at zn
      simp only [en, rsb_r] at h1 h0
      refine ⟨fun s c' => s = 0 ∧ c' = c17, ?_, fun _ => ⟨rfl, rfl⟩, fun q => absurd rfl q⟩
      rintro s c24 ⟨rfl, rfl⟩
      refine ⟨fun _ => ?_, fun g2 => absurd (by decide) g2⟩
      refine s_readWrapped h17 EG0 (by omega) (by omega) (fun D q3 ed c28 ρ3 h28 f28 d28 => ⟨fun _ => ⟨fun _ => ?_, fun q => absurd rfl q⟩, fun q => absurd rfl q⟩) (fun w ew c28 ρ3 q3 h28 f28 => ⟨fun g2 => absurd g2 (ng_n (wrR_g ew)).1, fun _ => h0 w (wrR_g ew) (by rw [ew]; rfl) c28 ρ3 _ h28 (FyX ρ3 q3 f28)⟩)
      have zw := wrR_q (by omega) E4 E2 ed
      simp only at zw
      simp only [ed, rsb_r] at h1 h0
      unfold f_Rea_takeWhole
      rw [k3, tu1]
      refine ⟨ku, s_tbegin h28 ku (fun c2 h2 => ⟨ps_k3.2.2.1, k172, tu3, ?_⟩)⟩
      have e172 : fu ρ3 (107 + 4 * k + 1) [] 172 = D := by rw [fu_ne (by omega)]; exact d28
      have c2e : c2 172 1 = nI D.length := by rw [(h2.1 172 k172).1, e172]
      rw [c2e]
      refine s_putPart (a := 0) h2 tu3 k172 (by omega) (by decide) (by omega) (fun _ _ c6 h6 => ?_) (fun w => absurd ⟨by rw [e172]; omega, by rw [fu_self, tu6]; show 0 + D.length ≤ 120; omega⟩ w)
      rw [fu_self, fu_fu, e172, List.nil_append, List.drop_zero, List.take_of_length_le (Nat.le_refl _)] at h6
      refine h1 _ D q3 rfl c6 _ _ h6 ⟨fun r r1 r2 r3 => by rw [fu_ne (by omega)]; exact f28 r r1 r2, fun a a1 a2 a3 => by rw [c_up_ne a3, c_up_ne a1]; exact Go a a2, fun f1 hf => by rw [c_up_ne (by omega), c_up_at hf, G105], fun j hj => by rw [c_up_ne (by omega), c_up_ne (by decide)]; exact Gi j hj⟩ ?_ ?_ ?_ ?_
      · rw [c_up_ne (by omega), c_up_self]
      · rw [c_up_ne (by omega), c_up_ne (by decide)]; exact Gk
      · rw [c_up_self]
      · rw [show 108 + 4 * k = 107 + 4 * k + 1 by omega, fu_self]
    · have := (nI_ltI (b := 1) (by omega) (by decide)).mp g8
      exact h0 (-6) (Or.inr (Or.inl rfl)) (by rw [if_neg (by omega)]) c5 ρ _ h5 (FyX ρ (p + 1) (fun _ _ _ => rfl))
    · have g10 : ¬ bv P p / 16 % 8 < 1 := fun q => g8 (nI_lt (b := 1) q (by decide))
      have := (nI_leI (b := 3) (by omega) (by decide)).mp g9
      exact ⟨by omega, this⟩
    · have : ¬ bv P p / 16 % 8 ≤ 3 := fun q => g9 (nI_le (b := 3) q (by decide))
      exact h0 (-6) (Or.inr (Or.inl rfl)) (by rw [if_neg (by omega)]) c5 ρ _ h5 (FyX ρ (p + 1) (fun _ _ _ => rfl))
