theorem row_lt {r : Nat} (h : kd r = 1) : r < 175 := by
  have h1 : ∀ i, i < c_N → kd i = 1 → i < 175 := by decide +kernel
  exact h1 r (kd_lt (by omega)) h
theorem nrc176 {a : Nat} (h : 176 ≤ a) : ¬ rc a := by
  intro g
  rcases g with g | g
  · have := row_lt g; omega
  · have := row_lt g.2; omega
theorem MR.keep {c c' : cM} {σ : Sg} (h : MR c σ) (hk : ∀ a, 176 ≤ a → c' a = c a) : MR c' σ := by
  unfold MR MT MD at *
  rw [hk 176 (by decide), hk 177 (by decide), hk 178 (by decide), hk 179 (by decide), hk 180 (by decide), hk 183 (by decide), hk 184 (by decide), hk 185 (by decide), hk 186 (by decide), hk 190 (by decide)]
  exact h
theorem CR.keep {ρ : Nat → List Int32} {γ γ' : cM} {σ : Sg} (h : CR ρ γ σ) (hk : ∀ a, a < 176 → γ' a = γ a) : CR ρ γ' σ := by
  obtain ⟨⟨s1, s2, s3⟩, h2, h3, h4, h5, h6⟩ := h
  refine ⟨⟨?_, s2, fun i x hx => ?_⟩, h2, fun l hl => ?_, fun b hb => ?_, h5, ?_⟩
  · rw [hk 19 (by decide)]; exact s1
  · have hi := (List.getElem?_eq_some_iff.mp hx).1
    obtain ⟨t1, t2, t3⟩ := s3 i x hx
    exact ⟨by rw [hk _ (by omega)]; exact t1, t2, by rw [hk _ (by omega)]; exact t3⟩
  · rw [hk 90 (by decide)]; exact h3 l hl
  · rw [hk 85 (by decide)]; exact h4 b hb
  · rw [hk 18 (by decide)]; exact h6
theorem Rep.keep {c c' : cM} {ρ : Nat → List Int32} {γ : cM} (h : Rep c ρ γ) (hk : ∀ a, a < 176 → c' a = c a) : Rep c' ρ (fun a => if a < 176 then γ a else c' a) := by
  refine ⟨fun r hr => ?_, fun a ha => ?_⟩
  · have hl := row_lt hr
    obtain ⟨w1, w2, w3⟩ := h.1 r hr
    exact ⟨by rw [hk r (by omega)]; exact w1, w2, fun j hj => by rw [hk (r + 1) (by omega)]; exact w3 j hj⟩
  · by_cases h1 : a < 176
    · show c' a = if a < 176 then γ a else c' a
      rw [if_pos h1, hk a h1]
      exact h.2 a ha
    · show c' a = if a < 176 then γ a else c' a
      rw [if_neg h1]
theorem keepC {c c' : cM} {σ : Sg} (h : ∃ ρ γ, Rep c ρ γ ∧ CR ρ γ σ) (hk : ∀ a, a < 176 → c' a = c a) : ∃ ρ γ, Rep c' ρ γ ∧ CR ρ γ σ := by
  obtain ⟨ρ, γ, h1, h2⟩ := h
  exact ⟨ρ, _, h1.keep hk, h2.keep (fun a ha => if_pos ha)⟩
theorem keepM {c c' : cM} {ρ ρ' : Nat → List Int32} {γ γ' : cM} (h : Rep c ρ γ) (h' : Rep c' ρ' γ') (hk : ∀ a, 176 ≤ a → γ' a = γ a) : ∀ a, 176 ≤ a → c' a = c a := fun a ha => by
  rw [h'.2 a (nrc176 ha), h.2 a (nrc176 ha), hk a ha]
theorem p_byteOf {c : cM} {σ : Sg} {x y : Int32} {J : cM → Prop} (h : Inv c σ) (hJ : ∀ c σ, Inv c σ → J c) : f_P_byteOf 18 x y c (fun v c1 => kd 176 = 7 ∧ f_Mo_byteOf 176 x y c1 (fun v' c2 => Fin2 J v v' c2)) := by
  have hj := hJ c σ h
  obtain ⟨⟨ρ, γ, hR, hC⟩, hM, hV⟩ := h
  have hn := hV.2.1
  unfold f_P_byteOf f_Mo_byteOf
  rw [ps_k.2.1, mk_k.2.2.1, mk_k.2.2.2.1, mk_l.2.1, mk_l.2.2.1, st_k.1, st_k.2.2.2.2.2.2.1]
  refine ⟨ps_k.1, st_k.2.2.2.2.1, s_has hR hC.1.1 (by omega) (fun j hj1 e => ⟨fun g => absurd g (by decide), fun _ => ⟨st_k.2.2.2.2.2.1, ?_⟩⟩) (fun g => ⟨fun _ => ⟨mk_k.1, mk_k.1, m_isThing hM.1 (by omega) (fun i hi ei => absurd ei (g i hi)) (fun _ => ⟨fun _ => fin2 rfl hj, fun g2 => absurd rfl g2⟩)⟩, fun g2 => absurd rfl g2⟩)⟩
  obtain ⟨t1, t2⟩ := st_t j (by omega)
  obtain ⟨a1, a2, a3, -⟩ := thing_k t2
  obtain ⟨z, hz⟩ := get_some hj1
  have hvt := hV.1 z (List.mem_of_getElem? hz)
  have hzl := hvt.2.2
  subst e
  rw [nI_clamp (by omega), t1, a1]
  refine ⟨vp_in_nI (by omega) (by decide), t2, a3, s_at hR a3 ⟨mk_k.1, mk_k.1, m_isThing hM.1 (by omega) (fun i hi ei => ⟨fun g => absurd g (by decide), fun _ => ?_⟩) (fun g => absurd rfl (g j hj1))⟩⟩
  rw [(hC.1.2.2 j z hz).2.1, (hM.2.1 j z hz).2.1]
  unfold atL
  refine ⟨fun g => fin2 (by rw [if_pos g]) hj, fun g => ⟨mk_a.2.1, vp_in_nI (by omega) (by decide), fun g2 => fin2 (by rw [if_neg g, if_pos g2]) hj, fun g2 => ⟨mk_a.2.2.1, ?_⟩⟩⟩
  obtain ⟨k, hk1, rfl⟩ := nI_of g
  have h3 : k < z.2.1.length := by
    rcases Nat.lt_or_ge k z.2.1.length with q | q
    · exact q
    · exact absurd (nI_le q hk1) g2
  rw [show (120 : Int32) = nI 120 from rfl, pk_mul, nI_add, nI_clamp (show 120 * j + k < 2 ^ 31 by omega), nI_clamp hk1]
  exact ⟨vp_in_nI (by omega) (by decide), fin2 (by rw [if_neg g, if_neg g2, (hM.2.1 j z hz).2.2.1 k h3]) hj⟩
theorem p_name {c : cM} {σ : Sg} {x y : Int32} {J : cM → Prop} (h : Inv c σ) (hJ : ∀ c σ, Inv c σ → J c) : f_P_name 18 x y c (fun v c1 => kd 176 = 7 ∧ f_Mo_name 176 x y c1 (fun v' c2 => Fin2 J v v' c2)) := by
  have hj := hJ c σ h
  obtain ⟨⟨ρ, γ, hR, hC⟩, hM, hV⟩ := h
  have hn := hV.2.1
  unfold f_P_name f_Mo_name
  rw [ps_k.2.1, mk_k.2.2.2.2.1, mk_l.2.2.2.1, st_k.1, st_k.2.2.2.2.2.2.1]
  refine ⟨ps_k.1, st_k.2.2.2.2.1, s_has hR hC.1.1 (by omega) (fun j hj1 e => ⟨fun g => absurd g (by decide), fun _ => ?_⟩) (fun g => ⟨fun _ => ⟨mk_k.1, mk_k.1, m_isThing hM.1 (by omega) (fun i hi ei => absurd ei (g i hi)) (fun _ => ⟨fun _ => fin2 rfl hj, fun g2 => absurd rfl g2⟩)⟩, fun g2 => absurd rfl g2⟩)⟩
  obtain ⟨t1, t2⟩ := st_t j (by omega)
  obtain ⟨a1, a2, a3, a4, a5, -⟩ := thing_k t2
  obtain ⟨z, hz⟩ := get_some hj1
  subst e
  rw [nI_clamp (show j < 2 ^ 31 by omega), t1, a2, a5]
  have hm : ∀ K : Int32 → cM → Prop, ((y < 0 → K 0 c) ∧ (¬ y < 0 → (5 ≤ y → K 0 c) ∧ (¬ 5 ≤ y → kd 180 = 100 ∧ vp_in (5 * nI j + y) 165 ∧ K (c 180 (Int32.toNatClampNeg (5 * nI j + y))) c))) → f_Mo_isThing 176 (nI j) c (fun v3 c2 => (v3 = 0 → K 0 c2) ∧ (¬ v3 = 0 → ((y < 0 → K 0 c2) ∧ (¬ y < 0 → ((5 ≤ y → K 0 c2) ∧ (¬ 5 ≤ y → (kd 180 = 100 ∧ (vp_in (5 * nI j + y) 165 ∧ K (c2 180 (Int32.toNatClampNeg (5 * nI j + y))) c2)))))))) := by
    intro K hK
    exact m_isThing hM.1 (by omega) (fun i hi ei => ⟨fun g => absurd g (by decide), fun _ => hK⟩) (fun g => absurd rfl (g j hj1))
  refine ⟨fun g => ⟨mk_k.1, mk_k.1, hm _ ⟨fun _ => fin2 rfl hj, fun g2 => absurd g g2⟩⟩, fun g => ⟨fun g2 => ?_, fun g2 => ⟨mk_k.1, mk_k.1, hm _ ⟨fun q => absurd q g, fun _ => ⟨fun _ => fin2 rfl hj, fun q => ?_⟩⟩⟩⟩⟩
  · obtain ⟨k, hk1, rfl⟩ := nI_of g
    have h3 : k < 5 := (nI_ltI (b := 5) hk1 (by decide)).mp g2
    refine ⟨st_k.2.2.2.2.2.1, vp_in_nI (by omega) (by decide), t2, a4, vp_in_nI h3 (by decide), mk_k.1, mk_k.1, hm _ ⟨fun q => absurd q g, fun _ => ⟨fun q => absurd q (nI_ge (b := 5) h3 (by decide)), fun _ => ⟨mk_a.2.2.2.1, ?_⟩⟩⟩⟩
    rw [show (5 : Int32) = nI 5 from rfl, pk_mul, nI_add, nI_clamp (show 5 * j + k < 2 ^ 31 by omega), nI_clamp hk1, hR.2 _ (thing_n t2).2]
    exact ⟨vp_in_nI (by omega) (by decide), fin2 (by rw [(hC.1.2.2 j z hz).2.2 k h3, (hM.2.1 j z hz).2.2.2 k h3]) hj⟩
  · obtain ⟨k, hk1, rfl⟩ := nI_of g
    have e1 : 5 ≤ k := by
      rcases Nat.lt_or_ge k 5 with w | w
      · exact absurd (nI_lt (b := 5) w (by decide)) g2
      · exact w
    exact absurd (nI_le (a := 5) e1 hk1) q
theorem byt_set {L : List Int32} {i : Nat} {v : Int32} (h : byt L) (hv : ∃ j, j < 256 ∧ v = nI j) : byt (L.set i v) := by
  intro b hb
  rcases List.mem_or_eq_of_mem_set hb with h1 | h1
  · exact h b h1
  · rw [h1]; exact hv
theorem byt_take {L : List Int32} {n : Nat} (h : byt L) : byt (L.take n) := fun b hb => h b (List.mem_of_mem_take hb)
theorem byt_app {L M : List Int32} (h : byt L) (h2 : byt M) : byt (L ++ M) := fun b hb => (List.mem_append.mp hb).elim (h b) (h2 b)
theorem gd_set {L : List Int32} {i j : Nat} {v : Int32} (hj : j < L.length) : (L.set i v).getD j 0 = if j = i then v else L.getD j 0 := by
  rw [List.getD_eq_getElem?_getD, List.getD_eq_getElem?_getD, List.getElem?_set]
  by_cases e : i = j
  · rw [if_pos e, if_pos e.symm, if_pos (by omega)]; rfl
  · rw [if_neg e, if_neg (fun q => e q.symm)]
theorem gd_take {L : List Int32} {n j : Nat} (hj : j < n) : (L.take n).getD j 0 = L.getD j 0 := by
  rw [List.getD_eq_getElem?_getD, List.getD_eq_getElem?_getD, List.getElem?_take_of_lt hj]
theorem p_alter {c : cM} {σ : Sg} {x y : Int32} {J : cM → Prop} (h : Inv c σ) (hJ : ∀ c σ, Inv c σ → J c) : f_P_alter 18 x y c (fun v c1 => kd 176 = 7 ∧ f_Mo_alter 176 x y c1 (fun v' c2 => Fin2 J v v' c2)) := by
  have hj := hJ c σ h
  obtain ⟨⟨ρ, γ, hR, hC⟩, hM, hV⟩ := h
  have hl := hV.2.2.2.2.2.2.1.2
  have k91 := ps_k2.2.2.2.2.2.1
  obtain ⟨w1, w2, w3⟩ := hR.1 91 k91
  rw [hC.2.2.2.2.1] at w1 w2 w3
  have hm0 : (x < 0 ∨ nI σ.2.2.2.2.length ≤ x ∨ y < 0 ∨ ¬ y ≤ 255) → kd 176 = 7 ∧ f_Mo_alter 176 x y c (fun v' c2 => Fin2 J 0 v' c2) := by
    intro ho
    unfold f_Mo_alter
    rw [hM.2.2.2.2.2.1]
    refine ⟨mk_k.1, fun _ => fin2 rfl hj, fun g => ⟨mk_k.1, fun _ => fin2 rfl hj, fun g2 => ⟨fun _ => fin2 rfl hj, fun g3 => ⟨fun g4 => ?_, fun _ => fin2 rfl hj⟩⟩⟩⟩
    rcases ho with q | q | q | q
    · exact absurd q g
    · exact absurd q g2
    · exact absurd q g3
    · exact absurd g4 q
  unfold f_P_alter
  rw [ps_k.2.2.2.2.1, (row_k k91).1, w1]
  refine ⟨fun g => hm0 (Or.inl g), fun g => ⟨ps_k.1, k91, fun g2 => hm0 (Or.inr (Or.inl g2)), fun g2 => ⟨fun g3 => hm0 (Or.inr (Or.inr (Or.inl g3))), fun g3 => ⟨fun g4 => ?_, fun g4 => hm0 (Or.inr (Or.inr (Or.inr g4)))⟩⟩⟩⟩
  obtain ⟨i, hi1, rfl⟩ := nI_of g
  obtain ⟨v, hv1, rfl⟩ := nI_of g3
  have hi : i < σ.2.2.2.2.length := by
    rcases Nat.lt_or_ge i σ.2.2.2.2.length with q | q
    · exact q
    · exact absurd (nI_le q hi1) g2
  have hv : v ≤ 255 := (nI_leI (b := 255) hv1 (by decide)).mp g4
  rw [nI_clamp hi1]
  refine ⟨(row_k k91).2.1, vp_in_nI (by omega) (by have := (row_k k91).2.2; omega), fun c9 e9 => ⟨mk_k.1, ?_⟩⟩
  have R9 : Rep c9 (fu ρ 91 (σ.2.2.2.2.set i (nI v))) γ := by
    refine hR.row k91 (fun a n1 n2 => by rw [e9, c_up_ne n2]) ⟨?_, ?_, fun j hj2 => ?_⟩
    · rw [e9, c_up_ne (by decide), List.length_set]; exact w1
    · rw [List.length_set]; exact w2
    · rw [List.length_set] at hj2
      rw [e9, gd_set hj2]
      by_cases ej : j = i
      · rw [if_pos ej, ej, c_up_self]
      · rw [if_neg ej, c_up_at ej]; exact w3 j hj2
  have M9 : MR c9 σ := hM.keep (keepM hR R9 (fun _ _ => rfl))
  unfold f_Mo_alter
  rw [mk_k3.1, mk_l3.1, M9.2.2.2.2.2.1]
  refine ⟨fun q => absurd q g, fun _ => ⟨mk_k.1, fun q => absurd q g2, fun _ => ⟨fun q => absurd q g3, fun _ => ⟨fun _ => ⟨mk_a3.1, vp_in_nI (by omega) (by decide), fun c8 e8 => fin2 rfl (hJ c8 (σ.1, σ.2.1, σ.2.2.1, σ.2.2.2.1, σ.2.2.2.2.set i (nI v)) ⟨keepC ⟨_, _, R9, ?_⟩ (fun a ha => by rw [e8, c_up_ne (by omega)]), ?_, ?_⟩)⟩, fun q => absurd g4 q⟩⟩⟩⟩
  · obtain ⟨⟨s1, s2, s3⟩, h2, h3, h4, h5, h6⟩ := hC
    refine ⟨⟨s1, s2, fun i x hx => ?_⟩, ?_, h3, h4, fu_self, h6⟩
    · have hi3 := (List.getElem?_eq_some_iff.mp hx).1
      have hi4 : σ.1.length ≤ 16 := s2
      obtain ⟨t1, t2, t3⟩ := s3 i x hx
      refine ⟨t1, ?_, t3⟩
      rw [fu_ne (by have : i < σ.1.length := hi3; omega)]
      exact t2
    · rw [fu_ne (by decide)]; exact h2
  · rw [nI_clamp hi1] at e8
    obtain ⟨m1, m2, m3, m4, m5, m6, m7⟩ := M9
    refine ⟨?_, fun i x hx => ?_, ?_, ?_, ?_, ?_, fun k hk => ?_⟩
    · rw [e8, c_up_ne (by decide)]; exact m1
    · unfold MT
      rw [e8, c_up_ne (by decide), c_up_ne (by decide), c_up_ne (by decide), c_up_ne (by decide)]
      exact m2 i x hx
    · rw [e8, c_up_ne (by decide), c_up_ne (by decide)]; exact m3
    · unfold MD
      rw [e8, c_up_ne (by decide), c_up_ne (by decide), c_up_ne (by decide)]
      exact m4
    · rw [e8, c_up_ne (by decide)]; exact m5
    · rw [e8, c_up_ne (by decide)]
      show _ = nI (σ.2.2.2.2.set i (nI v)).length
      rw [List.length_set]; exact m6
    · have hk' : k < σ.2.2.2.2.length := by
        have : k < (σ.2.2.2.2.set i (nI v)).length := hk
        rw [List.length_set] at this
        exact this
      show c8 190 k = (σ.2.2.2.2.set i (nI v)).getD k 0
      rw [e8, gd_set hk']
      by_cases ek : k = i
      · rw [if_pos ek, ek, c_up_self]
      · rw [if_neg ek, c_up_at ek]; exact m7 k hk'
  · obtain ⟨v1, v2, v3, v4, v5, v6, v7, v8⟩ := hV
    exact ⟨v1, v2, v3, v4, v5, v6, ⟨byt_set v7.1 ⟨v, by omega, rfl⟩, by show (σ.2.2.2.2.set i (nI v)).length ≤ 2192; rw [List.length_set]; exact v7.2⟩, v8⟩
