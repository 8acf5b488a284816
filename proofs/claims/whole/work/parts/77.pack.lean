theorem wr_k : rf 102 0 = 103 ∧ kd 103 = 1 ∧ ln (103 + 1) = 123 := by decide +kernel
theorem n102 : ¬ rc 102 := nrc (by decide +kernel)
def WR (ρ : Nat → List Int32) (γ : cM) (w : Wst) : Prop := ρ 91 = w.1 ∧ (w.2.1 = none → γ 102 1 = 0) ∧ (∀ j, w.2.1 = some j → γ 102 1 = nI (21 + 4 * j) ∧ γ 102 2 = nI w.2.2.1) ∧ γ 102 3 = nI w.2.2.2.1
def Fw (ρ : Nat → List Int32) (γ : cM) (ρ' : Nat → List Int32) (γ' : cM) : Prop := (∀ r, r ≠ 91 → r ≠ 103 → ρ' r = ρ r) ∧ ∀ a, a ≠ 102 → γ' a = γ a
theorem Fw.tr {ρ ρ' ρ'' : Nat → List Int32} {γ γ' γ'' : cM} (h : Fw ρ γ ρ' γ') (g : Fw ρ' γ' ρ'' γ'') : Fw ρ γ ρ'' γ'' := ⟨fun r h1 h2 => (g.1 r h1 h2).trans (h.1 r h1 h2), fun a h1 => (g.2 a h1).trans (h.2 a h1)⟩
theorem Fw.st {ρ ρ' : Nat → List Int32} {γ γ' : cM} {ths : List Th} (hs : StR ρ γ ths) (h : Fw ρ γ ρ' γ') : StR ρ' γ' ths := by
  obtain ⟨s1, s2, s3⟩ := hs
  refine ⟨by rw [h.2 19 (by decide)]; exact s1, s2, fun i x hx => ?_⟩
  have hi := (List.getElem?_eq_some_iff.mp hx).1
  obtain ⟨t1, t2, t3⟩ := s3 i x hx
  refine ⟨?_, ?_, ?_⟩
  · rw [h.2 (21 + 4 * i) (by omega)]; exact t1
  · rw [h.1 _ (by omega) (by omega)]; exact t2
  · rw [h.2 (21 + 4 * i + 3) (by omega)]; exact t3
theorem s_isShorter {c : cM} {ρ : Nat → List Int32} {γ : cM} {ths : List Th} {w : Wst} {i : Nat} {x : Th} {K : Int32 → cM → Prop} (h : Rep c ρ γ) (hs : StR ρ γ ths) (hV : ∀ x ∈ ths, VT x) (hw : WR ρ γ w) (hj : ∀ j, w.2.1 = some j → j < ths.length) (hr3 : w.2.2.2.1 ≤ 3) (hx : ths[i]? = some x) (h1 : ∀ d, dfo ths w x = some d → ∀ c', Rep c' (fu ρ 103 d) γ → K 1 c') (h0 : dfo ths w x = none → ∀ c' ρ', Rep c' ρ' γ → (∀ r, r ≠ 103 → ρ' r = ρ r) → K 0 c') : f_Wri_isShorterAsDifference 102 (21 + 4 * i) c K := by
  obtain ⟨wk1, wk2, wk3⟩ := wr_k
  obtain ⟨w1, w2, w3, w4⟩ := hw
  have hi := (List.getElem?_eq_some_iff.mp hx).1
  have hl16 := hs.2.1
  have ki := (st_t i (by omega)).2
  obtain ⟨x1, x2, x3⟩ := hs.2.2 i x hx
  have vx := hV x (List.mem_of_getElem? hx)
  obtain ⟨ti1, -, ti3, -⟩ := thing_k ki
  have c102 : c 102 = γ 102 := h.2 102 n102
  have cx : c (21 + 4 * i) = γ (21 + 4 * i) := h.2 _ (thing_n ki).1
  unfold f_Wri_isShorterAsDifference
  rw [wk1, c102, cx, ti1, w4, x1]
  refine ⟨ps_k3.2.1, ?_⟩
  cases e : w.2.1 with
  | none =>
    rw [w2 e]
    exact ⟨fun _ => h0 (dfo_n e) c ρ h (fun _ _ => rfl), fun g => absurd rfl g⟩
  | some j =>
    obtain ⟨v1, v2⟩ := w3 j e
    have hj1 := hj j e
    obtain ⟨z, hz⟩ := get_some hj1
    have kj := (st_t j (by omega)).2
    obtain ⟨tj1, -, tj3, -⟩ := thing_k kj
    obtain ⟨z1, z2, z3⟩ := hs.2.2 j z hz
    have vz := hV z (List.mem_of_getElem? hz)
    have cz : c (21 + 4 * j) = γ (21 + 4 * j) := h.2 _ (thing_n kj).1
    have dn : ∀ g : ¬ (z.1 = x.1 ∧ w.2.2.2.1 < 3 ∧ (dif z.2.1 x.2.1).length < x.2.1.length), dfo ths w x = none := fun g => by rw [dfo_at e hz, if_neg g]
    rw [v1, nI_clamp (show 21 + 4 * j < 2 ^ 31 by omega), cz, z1, tj1]
    refine ⟨fun g => absurd g (nI_ne0 (by omega) (by omega)), fun g => ⟨g, kj, ki, fun g2 => h0 (dn (fun q => g2 q.1)) c ρ h (fun _ _ => rfl), fun g2 => ⟨fun g3 => ?_, fun g3 => h0 (dn (fun q => g3 (nI_lt (b := 3) q.2.1 (by decide)))) c ρ h (fun _ _ => rfl)⟩⟩⟩
    have g4 : w.2.2.2.1 < 3 := (nI_ltI (b := 3) (by omega) (by decide)).mp g3
    refine s_diff h tj3 ti3 wk2 (by omega) (by omega) wk3 (by rw [z2]; exact vz.2.2) (by rw [x2]; exact vx.2.2) (fun c8 h8 => ?_)
    rw [z2, x2] at h8
    have dp := dif_p (x := z.2.1) (y := x.2.1) vz.2.2 vx.2.2 vx.2.1
    have vl := vx.2.2
    have e1 : c8 103 1 = nI (dif z.2.1 x.2.1).length := by have := (h8.1 103 wk2).1; rw [fu_self] at this; exact this
    have e2 : c8 (21 + 4 * i + 1) 1 = nI x.2.1.length := by have := (h8.1 _ ti3).1; rw [fu_ne (by omega), x2] at this; exact this
    rw [e1, e2]
    refine ⟨wk2, ti3, fun g5 => ?_, fun g5 => ?_⟩
    · have g6 : x.2.1.length ≤ (dif z.2.1 x.2.1).length := (nI_leI (by omega) (by omega)).mp g5
      exact h0 (dn (fun q => by have := q.2.2; omega)) c8 _ h8 (fun r hr => fu_ne hr)
    · have g6 : (dif z.2.1 x.2.1).length < x.2.1.length := by
        rcases Nat.lt_or_ge (dif z.2.1 x.2.1).length x.2.1.length with q | q
        · exact q
        · exact absurd (nI_le q (by omega)) g5
      exact h1 _ (by rw [dfo_at e hz, if_pos ⟨g2, g4, g6⟩]) c8 h8
theorem s_writeThing {c : cM} {ρ : Nat → List Int32} {γ : cM} {ths : List Th} {w : Wst} {t i : Nat} {x : Th} {K : cM → Prop} (h : Rep c ρ γ) (hs : StR ρ γ ths) (hV : ∀ x ∈ ths, VT x) (hw : WR ρ γ w) (ok : WOK ths t i w) (hx : ths[i]? = some x) (hxt : x.1 = nI t) (ht : t ≤ 3) (hk : ∀ c' ρ' γ', Rep c' ρ' γ' → WR ρ' γ' (wt ths w i x t) → Fw ρ γ ρ' γ' → K c') : f_Wri_writeThing 102 (21 + 4 * i) 91 c K := by
  obtain ⟨wk1, wk2, wk3⟩ := wr_k
  have k91 := ps_k2.2.2.2.2.2.1
  have l91 := ps_k3.2.2.2.2
  have hi := (List.getElem?_eq_some_iff.mp hx).1
  have hl16 := hs.2.1
  have ki := (st_t i (by omega)).2
  obtain ⟨x1, x2, x3⟩ := hs.2.2 i x hx
  have vx := hV x (List.mem_of_getElem? hx)
  have vl := vx.2.2
  obtain ⟨ti1, -, ti3, -⟩ := thing_k ki
  obtain ⟨-, rm, -⟩ := ok.room hl16 hx hxt ht
  obtain ⟨o1, o2, o3, o4, o5, -⟩ := id ok
  have top : w.1.length ≤ 2037 := by omega
  have w1 := hw.1
  have c91 : c 91 1 = nI w.1.length := by rw [(h.1 91 k91).1, w1]
  unfold f_Wri_writeThing
  rw [wk1, ti1, c91]
  refine ⟨k91, ps_k3.2.1, s_isShorter h hs hV hw o5 o4 hx ?_ ?_⟩
  · intro d hd c3 h3
    obtain ⟨j, z, e1, e2, e3, e4, e5, e6⟩ := dfo_s hd
    have vz := hV z (List.mem_of_getElem? e2)
    have ew : wt ths w i x t = wtD w i d := by unfold wt; rw [hd]; rfl
    rw [ew] at hk
    refine ⟨fun c16 => ∃ γ', Rep c16 (fu (fu ρ 103 d) 91 (wtD w i d).1) γ' ∧ γ' 102 3 = nI (w.2.2.2.1 + 1) ∧ ∀ a, a ≠ 102 → γ' a = γ a, ?_, fun g => absurd g (by decide), fun _ => ⟨wk2, ?_⟩⟩
    · rintro c16 ⟨γ', r1, r2, r3⟩
      refine ⟨⟨by omega, by omega⟩, ?_⟩
      rintro c20 e20 c21 e21
      have R20 := r1.up n102 e20
      have R21 := R20.up n102 e21
      refine hk c21 _ _ R21 ⟨fu_self, fun q => (by cases q), fun j q => ?_, ?_⟩ ⟨fun r q1 q2 => ?_, fun a q => ?_⟩
      · cases q
        exact ⟨by rw [c_up_at (by decide), c_up_self], by rw [c_up_self]; rfl⟩
      · rw [c_up_at (by decide), c_up_at (by decide), r2]; rfl
      · rw [fu_ne q1, fu_ne q2]
      · rw [c_up_ne q, c_up_ne q, r3 a q]
    · have c103 : c3 103 1 = nI d.length := by have := (h3.1 103 wk2).1; rw [fu_self] at this; exact this
      rw [c103]
      have e91 : fu ρ 103 d 91 = w.1 := by rw [fu_ne (by decide)]; exact w1
      have mb := mkB_len 6 d.length
      have db := dsB_len (w.1.length - w.2.2.1)
      refine s_putMark (t := 6) h3 k91 (by decide) (by omega) (by rw [e91, l91]; omega) (fun c28 h28 => ?_)
      rw [e91] at h28
      have c28e : c28 102 2 = nI w.2.2.1 := by rw [h28.2 102 n102]; exact (hw.2.2.1 j e1).2
      rw [c28e, pk_sub o3]
      refine s_putDistance h28 k91 (by omega) (by rw [fu_self, l91, List.length_append]; omega) (fun c29 h29 => ?_)
      rw [fu_self, fu_fu] at h29
      have q103 : fu (fu ρ 103 d) 91 (w.1 ++ mkB 6 d.length ++ dsB (w.1.length - w.2.2.1)) 103 = d := by rw [fu_ne (by decide), fu_self]
      refine s_putWrapped h29 wk2 k91 (by decide) (by rw [q103]; omega) (by rw [q103, fu_self, l91, List.length_append, List.length_append]; omega) (fun c30 h30 c31 e31 => ?_)
      rw [q103, fu_self, fu_fu] at h30
      have c30e : c30 102 3 = nI w.2.2.2.1 := by rw [h30.2 102 n102]; exact hw.2.2.2
      refine ⟨_, h30.up n102 e31, ?_, fun a q => c_up_ne q⟩
      rw [c_up_self, c30e]
      exact (nI_succ _).symm
  · intro hd c3 ρ3 h3 f3
    have ew : wt ths w i x t = wtW w i t x.2.1 := by unfold wt; rw [hd]; rfl
    rw [ew] at hk
    have e91 : ρ3 91 = w.1 := by rw [f3 91 (by decide)]; exact w1
    have ex : ρ3 (21 + 4 * i + 1) = x.2.1 := by rw [f3 _ (by omega)]; exact x2
    refine ⟨fun c16 => ∃ γ', Rep c16 (fu ρ3 91 (wtW w i t x.2.1).1) γ' ∧ γ' 102 3 = nI 0 ∧ ∀ a, a ≠ 102 → γ' a = γ a, ?_, fun _ => ⟨ki, ti3, ?_⟩, fun g => absurd rfl g⟩
    · rintro c16 ⟨γ', r1, r2, r3⟩
      refine ⟨⟨by omega, by omega⟩, ?_⟩
      rintro c20 e20 c21 e21
      have R20 := r1.up n102 e20
      have R21 := R20.up n102 e21
      refine hk c21 _ _ R21 ⟨fu_self, fun q => (by cases q), fun j q => ?_, ?_⟩ ⟨fun r q1 q2 => ?_, fun a q => ?_⟩
      · cases q
        exact ⟨by rw [c_up_at (by decide), c_up_self], by rw [c_up_self]; rfl⟩
      · rw [c_up_at (by decide), c_up_at (by decide), r2]; rfl
      · rw [fu_ne q1, f3 r q2]
      · rw [c_up_ne q, c_up_ne q, r3 a q]
    · have cx : c3 (21 + 4 * i) 0 = nI t := by rw [h3.2 _ (thing_n ki).1, x1, hxt]
      have cl : c3 (21 + 4 * i + 1) 1 = nI x.2.1.length := by rw [(h3.1 _ ti3).1, ex]
      have mb := mkB_len t x.2.1.length
      rw [cx, cl]
      refine s_putMark h3 k91 (by omega) (by omega) (by rw [e91, l91]; omega) (fun c24 h24 => ?_)
      rw [e91] at h24
      have qx : fu ρ3 91 (w.1 ++ mkB t x.2.1.length) (21 + 4 * i + 1) = x.2.1 := by rw [fu_ne (by omega), ex]
      refine s_putWrapped h24 ti3 k91 (by omega) (by rw [qx]; omega) (by rw [qx, fu_self, l91, List.length_append]; omega) (fun c25 h25 c26 e26 => ?_)
      rw [qx, fu_self, fu_fu] at h25
      refine ⟨_, h25.up n102 e26, ?_, fun a q => c_up_ne q⟩
      rw [c_up_self]
      rfl
theorem s_writeAll {c : cM} {ρ : Nat → List Int32} {γ : cM} {ths : List Th} {K : cM → Prop} (h : Rep c ρ γ) (hs : StR ρ γ ths) (hV : ∀ x ∈ ths, VT x) (hk : ∀ c' ρ' γ', Rep c' ρ' γ' → ρ' 91 = (wK ths 3).1 → Fw ρ γ ρ' γ' → K c') : f_Wri_writeAll 102 19 91 c K := by
  obtain ⟨r0, r2, r3, r4, k19, k20, l20, k85, l85⟩ := st_k
  have k91 := ps_k2.2.2.2.2.2.1
  have l91 := ps_k3.2.2.2.2
  have hl16 := hs.2.1
  unfold f_Wri_writeAll
  refine ⟨k91, s_clear h k91 (fun c2 h2 => ?_)⟩
  refine s_putHigh (n := 4) h2 k91 (by decide) (by rw [fu_self, l91]; decide) (fun c3 h3 => ?_)
  rw [fu_self, fu_fu, List.nil_append] at h3
  refine s_putHigh (n := 4) h3 k91 (by decide) (by rw [fu_self, l91, hb_len]; decide) (fun c4 h4 => ⟨k19, ?_⟩)
  rw [fu_self, fu_fu] at h4
  have c4e : c4 19 1 = nI ths.length := by rw [h4.2 19 n19]; exact hs.1
  rw [c4e]
  refine s_putHigh (n := 4) h4 k91 (by decide) (by rw [fu_self, l91, List.length_append, hb_len, hb_len]; decide) (fun c6 h6 => ⟨ps_k3.2.1, ?_⟩)
  rw [fu_self, fu_fu] at h6
  rintro c8 e8 c9 e9
  have R8 := h6.up n102 e8
  have R9 := R8.up n102 e9
  refine ⟨fun m y c' => ∃ t ρ' γ', m + t = 3 ∧ y = nI (t + 1) ∧ Rep c' ρ' γ' ∧ WR ρ' γ' (wK ths t) ∧ Fw ρ γ ρ' γ', ⟨3, 0, _, _, rfl, rfl, R9, ⟨fu_self, fun _ => by rw [c_up_at (by decide), c_up_self], fun j q => (by cases q), by rw [c_up_self]; rfl⟩, ⟨fun r q1 q2 => fu_ne q1, fun a q => by rw [c_up_ne q, c_up_ne q]⟩⟩, ?_⟩
  rintro m y c15 ⟨t, ρ1, γ1, hm, rfl, h15, w15, f15⟩
  refine ⟨fun g => ?_, fun g => ?_⟩
  · have g1 : 3 < t + 1 := (nI_ltI (a := 3) (by decide) (by omega)).mp g
    have : t = 3 := by omega
    subst this
    exact hk c15 ρ1 γ1 h15 w15.1 f15
  · have g1 : t < 3 := by
      rcases Nat.lt_or_ge t 3 with q | q
      · exact q
      · exact absurd (nI_lt (a := 3) (by omega) (by omega)) g
    have ok := wK_ok hV hl16 t (by omega)
    refine ⟨fun m' y' c' => ∃ i ρ' γ', m' + i = ths.length ∧ y' = nI i ∧ Rep c' ρ' γ' ∧ WR ρ' γ' (wI ths (t + 1) i (wK ths t)) ∧ Fw ρ γ ρ' γ', ⟨ths.length, 0, ρ1, γ1, rfl, rfl, h15, w15, f15⟩, ?_⟩
    rintro m' y' c22 ⟨i, ρ2, γ2, hm', rfl, h22, w22, f22⟩
    have s22 := f22.st hs
    have c22e : c22 19 1 = nI ths.length := by rw [h22.2 19 n19]; exact s22.1
    rw [c22e, r0]
    refine ⟨fun g2 => ?_, fun g2 => ?_⟩
    · have g3 : ths.length ≤ i := (nI_leI (by omega) (by omega)).mp g2
      have : i = ths.length := by omega
      subst this
      exact ⟨m - 1, by omega, t + 1, ρ2, γ2, by omega, (nI_succ _).symm, h22, w22, f22⟩
    · have g3 : i < ths.length := by
        rcases Nat.lt_or_ge i ths.length with q | q
        · exact q
        · exact absurd (nI_le q (by omega)) g2
      obtain ⟨x, hx⟩ := get_some g3
      obtain ⟨t1, t2⟩ := st_t i (by omega)
      rw [nI_clamp (show i < 2 ^ 31 by omega), t1]
      have cx : c22 (21 + 4 * i) 0 = x.1 := by rw [h22.2 _ (thing_n t2).1]; exact (s22.2.2 i x hx).1
      rw [cx]
      refine ⟨k20, vp_in_nI (by omega) (by omega), t2, fun c' => ∃ ρ' γ', Rep c' ρ' γ' ∧ WR ρ' γ' (wI ths (t + 1) (i + 1) (wK ths t)) ∧ Fw ρ γ ρ' γ', ?_, fun g4 => ?_, fun g4 => ?_⟩
      · rintro c29 ⟨ρ3, γ3, q1, q2, q3⟩
        exact ⟨m' - 1, by omega, i + 1, ρ3, γ3, by omega, (nI_succ _).symm, q1, q2, q3⟩
      · rw [wI_n hx g4]
        exact ⟨ρ2, γ2, h22, w22, f22⟩
      · rw [wI_t hx g4]
        exact s_writeThing h22 s22 hV w22 (wI_ok hV hl16 (by omega) ok i (by omega)) hx g4 (by omega) (fun c' ρ' γ' q1 q2 q3 => ⟨ρ', γ', q1, q2, f22.tr q3⟩)
def pakX (σ : Sg) : Int32 × Sg := (nI ((wK σ.1 3).1.length + 20), σ.1, σ.2.1, σ.2.2.1, σ.2.2.2.1, selP (wK σ.1 3).1)
theorem pakX_V {σ : Sg} (h : VS σ) : VS (pakX σ).2 := by
  obtain ⟨v1, v2, v3, v4, v5, v6, v7, v8⟩ := h
  have ok := wK_ok v1 v2 3 (by decide)
  have := ok.top v2
  exact ⟨v1, v2, v3, v4, v5, v6, ⟨selP_byt ok.1, by show (selP (wK σ.1 3).1).length ≤ 2192; rw [selP_len]; omega⟩, v8⟩
theorem s_pack {c : cM} {ρ : Nat → List Int32} {γ : cM} {σ : Sg} {K : Int32 → cM → Prop} (h : Rep c ρ γ) (hC : CR ρ γ σ) (hV : VS σ) (hk : ∀ c' ρ' γ', Rep c' ρ' γ' → CR ρ' γ' (pakX σ).2 → (∀ a, 176 ≤ a → γ' a = γ a) → K (pakX σ).1 c') : f_P_pack 18 c K := by
  have k91 := ps_k2.2.2.2.2.2.1
  have r0 : rf 93 0 = 94 := by decide +kernel
  have ok := wK_ok hV.1 hV.2.1 3 (by decide)
  have top := ok.top hV.2.1
  unfold f_P_pack
  rw [ps_k.2.1, ps_k.2.2.2.2.1, ps_k.2.2.2.2.2.1, ps_k2.1, r0]
  refine ⟨ps_k.1, ps_k3.2.1, s_writeAll h hC.1 hV.1 (fun c3 ρ3 γ3 h3 e3 f3 => ⟨k91, ps_k2.2.2.2.2.2.2, ?_⟩)⟩
  have c3e : c3 91 1 = nI (wK σ.1 3).1.length := by rw [(h3.1 91 k91).1, e3]
  rw [c3e]
  have C3 : CR ρ3 γ3 (σ.1, σ.2.1, σ.2.2.1, σ.2.2.2.1, (wK σ.1 3).1) := by
    obtain ⟨q1, q2, q3, q4, q5, q6⟩ := hC
    exact ⟨f3.st q1, by rw [f3.1 88 (by decide) (by decide)]; exact q2, fun l hl => by rw [f3.2 90 (by decide)]; exact q3 l hl, fun b hb => by rw [f3.2 85 (by decide)]; exact q4 b hb, e3, by rw [f3.2 18 (by decide)]; exact q6⟩
  refine s_seal2 (K := fun c7 => K (c7 91 1) c7) h3 C3 e3 (by omega) (fun c7 γ7 h7 C7 f7 => ?_)
  have c7e : c7 91 1 = nI ((wK σ.1 3).1.length + 20) := by rw [(h7.1 91 k91).1, fu_self, selP_len]
  rw [c7e]
  exact hk c7 _ γ7 h7 C7 (fun a ha => (f7 a ha).trans (f3.2 a (by omega)))
