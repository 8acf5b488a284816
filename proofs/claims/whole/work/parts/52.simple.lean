theorem CR.pack {ρ : Nat → List Int32} {γ : cM} {σ : Sg} (h : CR ρ γ σ) (P : List Int32) : CR (fu ρ 91 P) γ (σ.1, σ.2.1, σ.2.2.1, σ.2.2.2.1, P) := by
  obtain ⟨⟨s1, s2, s3⟩, h2, h3, h4, h5, h6⟩ := h
  refine ⟨⟨s1, s2, fun i x hx => ?_⟩, ?_, h3, h4, fu_self, h6⟩
  · have hi3 := (List.getElem?_eq_some_iff.mp hx).1
    have hi4 : σ.1.length ≤ 16 := s2
    obtain ⟨t1, t2, t3⟩ := s3 i x hx
    refine ⟨t1, ?_, t3⟩
    rw [fu_ne (by have : i < σ.1.length := hi3; omega)]
    exact t2
  · rw [fu_ne (by decide)]; exact h2
theorem CR.typed {ρ : Nat → List Int32} {γ : cM} {σ : Sg} (h : CR ρ γ σ) (P : List Int32) : CR (fu ρ 88 P) γ (σ.1, P, σ.2.2.1, σ.2.2.2.1, σ.2.2.2.2) := by
  obtain ⟨⟨s1, s2, s3⟩, h2, h3, h4, h5, h6⟩ := h
  refine ⟨⟨s1, s2, fun i x hx => ?_⟩, fu_self, h3, h4, ?_, h6⟩
  · have hi3 := (List.getElem?_eq_some_iff.mp hx).1
    have hi4 : σ.1.length ≤ 16 := s2
    obtain ⟨t1, t2, t3⟩ := s3 i x hx
    refine ⟨t1, ?_, t3⟩
    rw [fu_ne (by have : i < σ.1.length := hi3; omega)]
    exact t2
  · rw [fu_ne (by decide)]; exact h5
theorem MR.pack {c c' : cM} {σ : Sg} (h : MR c σ) (P : List Int32) (h1 : ∀ a, 176 < a → a ≠ 190 → a < 187 → c' a = c a) (h2 : ∀ k, k ≠ 17 → k < 10 → c' 176 k = c 176 k) (h3 : c' 176 17 = nI P.length) (h4 : ∀ k, k < P.length → c' 190 k = P.getD k 0) : MR c' (σ.1, σ.2.1, σ.2.2.1, σ.2.2.2.1, P) := by
  obtain ⟨m1, m2, m3, m4, m5, m6, m7⟩ := h
  refine ⟨?_, fun i x hx => ?_, ?_, ?_, ?_, h3, h4⟩
  · rw [h2 0 (by decide) (by decide)]; exact m1
  · unfold MT
    rw [h1 177 (by decide) (by decide) (by decide), h1 178 (by decide) (by decide) (by decide), h1 179 (by decide) (by decide) (by decide), h1 180 (by decide) (by decide) (by decide)]
    exact m2 i x hx
  · rw [h2 7 (by decide) (by decide), h1 183 (by decide) (by decide) (by decide)]; exact m3
  · unfold MD
    rw [h2 9 (by decide) (by decide), h1 184 (by decide) (by decide) (by decide), h1 185 (by decide) (by decide) (by decide)]
    exact m4
  · rw [h1 186 (by decide) (by decide) (by decide)]; exact m5
theorem MR.typed {c c' : cM} {σ : Sg} (h : MR c σ) (P : List Int32) (h1 : ∀ a, 176 < a → a ≠ 183 → c' a = c a) (h2 : ∀ k, k ≠ 7 → c' 176 k = c 176 k) (h3 : c' 176 7 = nI P.length) (h4 : ∀ k, k < P.length → c' 183 k = P.getD k 0) : MR c' (σ.1, P, σ.2.2.1, σ.2.2.2.1, σ.2.2.2.2) := by
  obtain ⟨m1, m2, m3, m4, m5, m6, m7⟩ := h
  refine ⟨?_, fun i x hx => ?_, ⟨h3, h4⟩, ?_, ?_, ?_, ?_⟩
  · rw [h2 0 (by decide)]; exact m1
  · unfold MT
    rw [h1 177 (by decide) (by decide), h1 178 (by decide) (by decide), h1 179 (by decide) (by decide), h1 180 (by decide) (by decide)]
    exact m2 i x hx
  · unfold MD
    rw [h2 9 (by decide), h1 184 (by decide) (by decide), h1 185 (by decide) (by decide)]
    exact m4
  · rw [h1 186 (by decide) (by decide)]; exact m5
  · rw [h2 17 (by decide)]; exact m6
  · rw [h1 190 (by decide) (by decide)]; exact m7
theorem p_cut {c : cM} {σ : Sg} {x : Int32} {J : cM → Prop} (h : Inv c σ) (hJ : ∀ c σ, Inv c σ → J c) : f_P_cut 18 x c (fun v c1 => kd 176 = 7 ∧ f_Mo_cut 176 x c1 (fun v' c2 => Fin2 J v v' c2)) := by
  have hj := hJ c σ h
  obtain ⟨⟨ρ, γ, hR, hC⟩, hM, hV⟩ := h
  have hl := hV.2.2.2.2.2.2.1.2
  have k91 := ps_k2.2.2.2.2.2.1
  obtain ⟨w1, w2, w3⟩ := hR.1 91 k91
  rw [hC.2.2.2.2.1] at w1 w2 w3
  unfold f_P_cut
  rw [ps_k.2.2.2.2.1, w1]
  have hm0 : (x < 1 ∨ ¬ x ≤ nI σ.2.2.2.2.length) → kd 176 = 7 ∧ f_Mo_cut 176 x c (fun v' c2 => Fin2 J 0 v' c2) := by
    intro ho
    unfold f_Mo_cut
    rw [hM.2.2.2.2.2.1]
    refine ⟨mk_k.1, fun _ => fin2 rfl hj, fun g => ⟨mk_k.1, fun g2 => ?_, fun _ => fin2 rfl hj⟩⟩
    rcases ho with q | q
    · exact absurd q g
    · exact absurd g2 q
  refine ⟨fun g => hm0 (Or.inl g), fun g => ⟨ps_k.1, k91, fun g2 c5 e5 => ⟨mk_k.1, ?_⟩, fun g2 => hm0 (Or.inr g2)⟩⟩
  have gp : ¬ x < 0 := fun q => g (Int32.lt_iff_toInt_lt.mpr (by have := Int32.lt_iff_toInt_lt.mp q; rw [show (0 : Int32).toInt = 0 from rfl] at this; rw [show (1 : Int32).toInt = 1 from rfl]; omega))
  obtain ⟨n, hn1, rfl⟩ := nI_of gp
  have hn : n ≤ σ.2.2.2.2.length := (nI_leI hn1 (by omega)).mp g2
  rw [pk_sub hn] at e5
  have lt : (σ.2.2.2.2.take (σ.2.2.2.2.length - n)).length = σ.2.2.2.2.length - n := by rw [List.length_take]; omega
  have R5 : Rep c5 (fu ρ 91 (σ.2.2.2.2.take (σ.2.2.2.2.length - n))) γ := by
    refine hR.row k91 (fun a n1 n2 => by rw [e5, c_up_ne n1]) ⟨?_, ?_, fun j hj2 => ?_⟩
    · rw [e5, c_up_self, lt]
    · rw [lt]; omega
    · rw [lt] at hj2
      rw [e5, c_up_ne (by decide), gd_take hj2]
      exact w3 j (by omega)
  have M5 : MR c5 σ := hM.keep (keepM hR R5 (fun _ _ => rfl))
  unfold f_Mo_cut
  rw [M5.2.2.2.2.2.1, pk_sub hn]
  refine ⟨fun q => absurd q g, fun _ => ⟨mk_k.1, fun _ c4 e4 => fin2 rfl (hJ c4 _ ⟨keepC ⟨_, _, R5, hC.pack _⟩ (fun a ha => by rw [e4, c_up_ne (by omega)]), M5.pack _ (fun a h1 h2 _ => by rw [e4, c_up_ne (by omega)]) (fun k hk _ => by rw [e4, c_up_at hk]) (by rw [e4, c_up_self, lt]) (fun k hk => ?_), ?_⟩), fun q => absurd g2 q⟩⟩
  · rw [lt] at hk
    rw [e4, c_up_ne (by decide), gd_take hk]
    exact M5.2.2.2.2.2.2 k (by omega)
  · obtain ⟨v1, v2, v3, v4, v5, v6, v7, v8⟩ := hV
    exact ⟨v1, v2, v3, v4, v5, v6, ⟨byt_take v7.1, by show (σ.2.2.2.2.take _).length ≤ 2192; rw [lt]; omega⟩, v8⟩
def setH (d : Nat → Int32) (b : Nat) (x : Int32) : Nat → Int32 := fun k => if k = b then x else d k
theorem CR.holds {ρ : Nat → List Int32} {γ : cM} {σ : Sg} {b : Nat} {x : Int32} (h : CR ρ γ σ) : CR ρ (c_up γ 85 b x) (σ.1, σ.2.1, σ.2.2.1, setH σ.2.2.2.1 b x, σ.2.2.2.2) := by
  obtain ⟨⟨s1, s2, s3⟩, h2, h3, h4, h5, h6⟩ := h
  refine ⟨⟨?_, s2, fun i y hy => ?_⟩, h2, ?_, fun k hk => ?_, h5, ?_⟩
  · rw [c_up_ne (by decide)]; exact s1
  · have hi3 : i < σ.1.length := (List.getElem?_eq_some_iff.mp hy).1
    have hi4 : σ.1.length ≤ 16 := s2
    obtain ⟨t1, t2, t3⟩ := s3 i y hy
    exact ⟨by rw [c_up_ne (by omega)]; exact t1, t2, by rw [c_up_ne (by omega)]; exact t3⟩
  · rw [c_up_ne (by decide)]; exact h3
  · show c_up γ 85 b x 85 k = setH σ.2.2.2.1 b x k
    unfold setH
    by_cases e : k = b
    · rw [if_pos e, e, c_up_self]
    · rw [if_neg e, c_up_at e]; exact h4 k hk
  · rw [c_up_ne (by decide)]; exact h6
theorem MR.holds {c c' : cM} {σ : Sg} {b : Nat} {x : Int32} (h : MR c σ) (hc : c' = c_up c 186 b x) : MR c' (σ.1, σ.2.1, σ.2.2.1, setH σ.2.2.2.1 b x, σ.2.2.2.2) := by
  obtain ⟨m1, m2, m3, m4, m5, m6, m7⟩ := h
  subst hc
  refine ⟨?_, fun i x hx => ?_, ?_, ?_, fun k hk => ?_, ?_, ?_⟩
  · rw [c_up_ne (by decide)]; exact m1
  · unfold MT
    rw [c_up_ne (by decide), c_up_ne (by decide), c_up_ne (by decide), c_up_ne (by decide)]
    exact m2 i x hx
  · rw [c_up_ne (by decide), c_up_ne (by decide)]; exact m3
  · unfold MD
    rw [c_up_ne (by decide), c_up_ne (by decide), c_up_ne (by decide)]
    exact m4
  · show c_up c 186 b x 186 k = setH σ.2.2.2.1 b x k
    unfold setH
    by_cases e : k = b
    · rw [if_pos e, e, c_up_self]
    · rw [if_neg e, c_up_at e]; exact m5 k hk
  · rw [c_up_ne (by decide)]; exact m6
  · rw [c_up_ne (by decide)]; exact m7
theorem p_branch {c : cM} {σ : Sg} {x y : Int32} {J : cM → Prop} (h : Inv c σ) (hJ : ∀ c σ, Inv c σ → J c) : f_P_branch 18 x y c (fun v c1 => kd 176 = 7 ∧ f_Mo_branch 176 x y c1 (fun v' c2 => Fin2 J v v' c2)) := by
  have hj := hJ c σ h
  obtain ⟨⟨ρ, γ, hR, hC⟩, hM, hV⟩ := h
  have hn := hV.2.1
  unfold f_P_branch
  rw [ps_k.2.1, st_k.2.1, st_k.2.2.2.2.2.2.2.2]
  have bad : (x < 0 ∨ ¬ x < 4 ∨ (¬ y = -1 ∧ ∀ j, j < σ.1.length → y = nI j → ¬ c 177 j = 1)) → kd 176 = 7 ∧ f_Mo_branch 176 x y c (fun v' c2 => Fin2 J 0 v' c2) := by
    intro ho
    unfold f_Mo_branch
    refine ⟨mk_k.1, fun _ => fin2 rfl hj, fun g => ⟨fun _ => fin2 rfl hj, fun g2 => ?_⟩⟩
    rcases ho with q | q | q
    · exact absurd q g
    · obtain ⟨i, hi1, rfl⟩ := nI_of g
      have e1 : 4 ≤ i := by
        rcases Nat.lt_or_ge i 4 with w | w
        · exact absurd (nI_lt (b := 4) w (by decide)) q
        · exact w
      exact absurd (nI_lt (a := 3) (by omega) hi1) g2
    · refine ⟨fun _ => False, fun _ q => q.elim, fun g3 => absurd g3 q.1, fun _ => ⟨mk_k.1, m_isKind hM.1 hn (fun j hj1 e1 e2 => absurd e2 (q.2 j hj1 e1)) (fun _ => ⟨fun g4 => absurd rfl g4, fun _ => fin2 rfl hj⟩)⟩⟩
  refine ⟨fun g => bad (Or.inl g), fun g => ⟨fun g2 => ?_, fun g2 => bad (Or.inr (Or.inl g2))⟩⟩
  obtain ⟨b, hb1, rfl⟩ := nI_of g
  have hb : b < 4 := (nI_ltI (b := 4) hb1 (by decide)).mp g2
  rw [nI_clamp hb1]
  refine ⟨fun c9 => c9 = c ∧ (y = -1 ∨ ∃ j, j < σ.1.length ∧ y = nI j ∧ c 177 j = 1), fun c9 h9 => ⟨ps_k.1, st_k.2.2.2.2.1, st_k.2.2.2.2.2.2.2.1, vp_in_nI hb (by decide), fun c16 e16 => ⟨mk_k.1, ?_⟩⟩, fun g3 => ⟨rfl, Or.inl g3⟩, fun g3 => ⟨ps_k.1, st_k.2.2.2.2.1, s_kindOf hR hC.1.1 hn (fun j hj1 e1 => ?_) (fun q => ⟨fun g4 => absurd g4 (by decide), fun _ => bad (Or.inr (Or.inr ⟨g3, fun j hj1 e1 => absurd e1 (q j hj1)⟩))⟩)⟩⟩
  · obtain ⟨rfl, hy⟩ := h9
    have R16 := hR.up n85 e16
    have M16 : MR c16 σ := hM.keep (keepM hR R16 (fun a ha => c_up_ne (by omega)))
    have fin : ∀ c14, c14 = c_up c16 186 b y → Fin2 J 1 1 c14 := by
      intro c14 e14
      refine fin2 rfl (hJ c14 _ ⟨keepC ⟨_, _, R16, hC.holds⟩ (fun a ha => by rw [e14, c_up_ne (by omega)]), M16.holds e14, ?_⟩)
      obtain ⟨v1, v2, v3, v4, v5, v6, v7, v8⟩ := hV
      refine ⟨v1, v2, v3, v4, v5, fun k hk => ?_, v7, v8⟩
      show setH σ.2.2.2.1 b y k = -1 ∨ ∃ j, j < σ.1.length ∧ setH σ.2.2.2.1 b y k = nI j
      unfold setH
      by_cases e : k = b
      · rw [if_pos e]
        rcases hy with q | ⟨j, q1, q2, -⟩
        · exact Or.inl q
        · exact Or.inr ⟨j, q1, q2⟩
      · rw [if_neg e]; exact v6 k hk
    unfold f_Mo_branch
    rw [mk_k2.2.2.2.1, mk_l2.2.2.1, nI_clamp hb1]
    refine ⟨fun q => absurd q g, fun _ => ⟨fun q => absurd q (nI_nlt (a := 3) (by omega) (by decide)), fun _ => ⟨fun c8 => c8 = c16, fun c8 h8 => ⟨mk_k.1, mk_a2.2.2.1, vp_in_nI hb (by decide), fun c14 e14 => fin c14 (by rw [e14, h8])⟩, fun _ => rfl, fun g3 => ⟨mk_k.1, m_isKind M16.1 hn (fun _ _ _ _ => ⟨fun _ => rfl, fun q => absurd q (by decide)⟩) (fun q => ?_)⟩⟩⟩⟩
    rcases hy with w | ⟨j, w1, w2, w3⟩
    · exact absurd w g3
    · refine absurd ?_ (q j w1 w2)
      rw [e16, c_up_ne (by decide)]
      exact w3
  · obtain ⟨z, hz⟩ := get_some hj1
    have ek : γ (21 + 4 * j) 0 = c 177 j := by rw [(hC.1.2.2 j z hz).1, (hM.2.1 j z hz).1]
    refine ⟨fun g4 => ⟨rfl, Or.inr ⟨j, hj1, e1, by rw [← ek]; exact g4⟩⟩, fun g4 => bad (Or.inr (Or.inr ⟨g3, fun i hi ei => ?_⟩))⟩
    have : i = j := (nI_eq (by omega) (by omega)).mp (ei.symm.trans e1)
    rw [this, ← ek]
    exact g4
