def mkT (k : Int32) (L : List Int32) : Th := (k, L, sha (hdB k L.length ++ L))
def bringX (ths : List Th) (x : Th) : Int32 × List Th := match fnd ths x.2.2 with
  | some j => (nI j, ths)
  | none => if ths.length < 16 then (nI ths.length, ths ++ [x]) else (-2, ths)
theorem bringX_s {ths : List Th} {x : Th} {j : Nat} (h : fnd ths x.2.2 = some j) : bringX ths x = (nI j, ths) := by unfold bringX; rw [h]
theorem bringX_n {ths : List Th} {x : Th} (h : fnd ths x.2.2 = none) (hl : ths.length < 16) : bringX ths x = (nI ths.length, ths ++ [x]) := by unfold bringX; rw [h]; exact if_pos hl
theorem bringX_f {ths : List Th} {x : Th} (h : fnd ths x.2.2 = none) (hl : ¬ ths.length < 16) : bringX ths x = (-2, ths) := by unfold bringX; rw [h]; exact if_neg hl
theorem fnd_lt {ths : List Th} {nm : Nat → Int32} {j : Nat} (h : fnd ths nm = some j) : j < ths.length := by
  unfold fnd at h
  exact (List.findIdx?_eq_some_iff_getElem.mp h).1
theorem fnd_congr {ths : List Th} {f g : Nat → Int32} (h : sameN f g) : fnd ths f = fnd ths g := by
  unfold fnd
  congr 1
  funext y
  unfold sameB
  rw [h 0 (by decide), h 1 (by decide), h 2 (by decide), h 3 (by decide), h 4 (by decide)]
theorem fnd_no {ths : List Th} {nm : Nat → Int32} (h : fnd ths nm = none) : ∀ (i : Nat) (y : Th), ths[i]? = some y → ¬ sameN y.2.2 nm := by
  intro i y hy hs
  unfold fnd at h
  have h1 := List.findIdx?_eq_none_iff.mp h y (List.mem_of_getElem? hy)
  rw [sameB_t.mpr hs] at h1
  cases h1
theorem bringX_r {ths : List Th} {x : Th} (hl : ths.length ≤ 16) : (bringX ths x).1 = -2 ∧ (bringX ths x).2 = ths ∨ ∃ j, j < 16 ∧ (bringX ths x).1 = nI j := by
  cases hf : fnd ths x.2.2 with
  | some j => right; rw [bringX_s hf]; exact ⟨j, by have := fnd_lt hf; omega, rfl⟩
  | none =>
    by_cases h : ths.length < 16
    · right; rw [bringX_n hf h]; exact ⟨_, h, rfl⟩
    · left; rw [bringX_f hf h]; exact ⟨rfl, rfl⟩
def Kp (ρ : Nat → List Int32) (γ : cM) (ρ' : Nat → List Int32) (γ' : cM) : Prop := ρ' 88 = ρ 88 ∧ ρ' 91 = ρ 91 ∧ ∀ a, a = 18 ∨ a = 85 ∨ a = 90 ∨ 176 ≤ a → γ' a = γ a
theorem Kp.tr {ρ ρ' ρ'' : Nat → List Int32} {γ γ' γ'' : cM} (h : Kp ρ γ ρ' γ') (g : Kp ρ' γ' ρ'' γ'') : Kp ρ γ ρ'' γ'' := ⟨g.1.trans h.1, g.2.1.trans h.2.1, fun a ha => (g.2.2 a ha).trans (h.2.2 a ha)⟩
theorem s_bringMade {c : cM} {ρ : Nat → List Int32} {γ : cM} {ths : List Th} {k : Int32} {L : List Int32} {K : Int32 → cM → Prop} (h : Rep c ρ γ) (hs : StR ρ γ ths) (h1 : γ 98 0 = k) (h2 : ρ 99 = L) (hk : ∀ c' ρ' γ', Rep c' ρ' γ' → StR ρ' γ' (bringX ths (mkT k L)).2 → Kp ρ γ ρ' γ' → K (bringX ths (mkT k L)).1 c') : f_P_bringMade 18 c K := by
  obtain ⟨k98, -⟩ := ps_k3
  unfold f_P_bringMade
  rw [ps_k.2.1, ps_k.2.2.2.2.2.1, ps_k.2.2.2.2.2.2]
  refine ⟨ps_k.1, ps_k2.2.2.2.2.2.2, s_giveName h k98 (fun c3 S hS h3 => ⟨st_k.2.2.2.2.1, ?_⟩)⟩
  rw [show (98 + 1 : Nat) = 99 from rfl, h1, h2] at hS
  rw [show (98 + 1 : Nat) = 99 from rfl, show (98 + 3 : Nat) = 101 from rfl, h1, h2] at h3
  generalize hρ : fu ρ 96 (hdB k L.length) = ρ1 at h3
  generalize hγ : c_row (gs γ S) 101 (nm5 S.1 (γ 101)) = γ1 at h3
  have g1 : ∀ a, a ≠ 101 → a ≠ 93 → a ≠ 94 → a ≠ 95 → γ1 a = γ a := fun a b1 b2 b3 b4 => by rw [← hγ, c_row_ne b1, gs_ne ⟨b2, b3, b4⟩]
  have r1 : ∀ r, r ≠ 96 → ρ1 r = ρ r := fun r hr => by rw [← hρ, fu_ne hr]
  have pe : Pe ρ γ ρ1 γ1 := ⟨fun r hr => r1 r (by omega), fun a ha _ _ _ => g1 a (by omega) (by omega) (by omega) (by omega), by rw [g1 19 (by decide) (by decide) (by decide) (by decide)]⟩
  have hs1 := hs.pe pe
  have hnm : sameN (γ1 101) (mkT k L).2.2 := by
    intro q hq
    rw [← hγ, c_row_self]
    unfold nm5
    rw [if_pos hq]
    exact hS q hq
  have rt : RT ρ1 γ1 98 (mkT k L) := ⟨by rw [g1 98 (by decide) (by decide) (by decide) (by decide)]; exact h1, by rw [r1 99 (by decide)]; exact h2, hnm⟩
  have kp1 : Kp ρ γ ρ1 γ1 := ⟨r1 88 (by decide), r1 91 (by decide), fun a ha => g1 a (by omega) (by omega) (by omega) (by omega)⟩
  refine s_bring h3 hs1 k98 (by decide) rt (fun j hj => ?_) (fun hn hl => ?_) (fun hn hl c' ρ' γ' hR hS' hP => ?_)
  · rw [fnd_congr hnm] at hj
    have e := bringX_s hj
    rw [e] at hk
    exact hk c3 ρ1 γ1 h3 hs1 kp1
  · rw [fnd_congr hnm] at hn
    have e := bringX_f hn hl
    rw [e] at hk
    exact hk c3 ρ1 γ1 h3 hs1 kp1
  · rw [fnd_congr hnm] at hn
    have e := bringX_n hn hl
    rw [e] at hk
    exact hk c' ρ' γ' hR hS' (kp1.tr ⟨hP.1 88 (by decide), hP.1 91 (by decide), fun a ha => hP.2 a (by omega)⟩)
theorem m_come {c : cM} {σ : Sg} {k : Int32} {L : List Int32} {K : Int32 → cM → Prop} (h : MR c σ) (hV : VS σ) (hs : slC c 32 k L) (hb : byt L) (hl : L.length ≤ 120) (hk : ∀ c', MR c' ((bringX σ.1 (mkT k L)).2, σ.2) → (∀ a, a < 176 → c' a = c a) → K (bringX σ.1 (mkT k L)).1 c') : f_Mo_come 176 c K := by
  have hn := hV.2.1
  unfold f_Mo_come
  refine ⟨mk_k.1, m_call (i := 32) (by decide) hs hb hl (fun c2 hc2 fc => ?_)⟩
  have M2 : MR c2 σ := h.loc hV (fun q hq => fc.2.1 q (by omega)) (fun i _ => by rw [fc.1 177 (by decide) (by decide) (by decide) (by decide) (by decide)]) (fun i _ => by rw [fc.1 178 (by decide) (by decide) (by decide) (by decide) (by decide)]) (fun i _ => by rw [fc.1 179 (by decide) (by decide) (by decide) (by decide) (by decide)]) (fun q hq => fc.2.2 q (by omega)) (fun a ha => fc.1 a (by omega) (by omega) (by omega) (by omega) (by omega))
  have S2 : slC c2 32 k L := hs.keep (fc.1 177 (by decide) (by decide) (by decide) (by decide) (by decide)) (fc.1 178 (by decide) (by decide) (by decide) (by decide) (by decide)) (fc.1 179 (by decide) (by decide) (by decide) (by decide) (by decide))
  have low : ∀ a, a < 176 → c2 a = c a := fun a ha => fc.1 a (by omega) (by omega) (by omega) (by omega) (by omega)
  have n32 : sameN (nmA c2 32) (mkT k L).2.2 := hc2
  have nj : ∀ (j : Nat) (y : Th), σ.1[j]? = some y → sameN (nmA c2 j) y.2.2 := fun j y hy => (M2.2.1 j y hy).2.2.2
  refine m_sameAs (i := 32) (by decide) M2.1 hn (fun v hv => ?_)
  rcases hv with ⟨j, hj, hsj, rfl⟩ | ⟨hno, rfl⟩
  · obtain ⟨y, hy⟩ := get_some hj
    have hsy : sameN y.2.2 (mkT k L).2.2 := ((nj j y hy).symm.trans hsj).trans n32
    have hf : fnd σ.1 (mkT k L).2.2 = some j := fnd_some y hy hsy (fun i z hi hz hs2 => by
      have := hV.2.2.1 i j z y hz hy (hs2.trans hsy.symm)
      omega)
    refine ⟨fun g => absurd g (nI_pos (by omega)), fun _ => ?_⟩
    have e := bringX_s hf
    rw [e] at hk
    exact hk c2 M2 low
  · have hf : fnd σ.1 (mkT k L).2.2 = none := fnd_none (fun i y hy hs2 => hno i (List.getElem?_eq_some_iff.mp hy).1 (((nj i y hy).trans hs2).trans n32.symm))
    rw [M2.1]
    refine ⟨fun _ => ⟨fun g => ?_, fun g => ?_⟩, fun g => absurd (by decide) g⟩
    · have hlt : σ.1.length < 16 := by
        rcases Nat.lt_or_ge σ.1.length 16 with w | w
        · exact w
        · have : σ.1.length = 16 := by omega
          rw [this] at g
          exact absurd rfl g
      refine m_copy (a := 32) (by decide) (by omega) (fun c8 e8 => ?_)
      have e := bringX_n hf hlt
      rw [e] at hk
      have c176 : cpS c2 32 σ.1.length 176 = c2 176 := by unfold cpS; rw [c_row_ne (by decide), c_row_ne (by decide), c_up_ne (by decide), c_up_ne (by decide)]
      have v8 : c8 176 0 = nI (σ.1.length + 1) := by rw [e8, c_up_self, c176, M2.1, nI_succ]
      rw [v8, nI_pred]
      have o8 : ∀ a, a ≠ 176 → c8 a = cpS c2 32 σ.1.length a := fun a ha => by rw [e8, c_up_ne ha]
      have k8 : ∀ q, q ≠ 0 → c8 176 q = c2 176 q := fun q hq => by rw [e8, c_up_at hq, c176]
      have z177 : c8 177 = fun q => if q = σ.1.length then c2 177 32 else c2 177 q := by
        rw [o8 177 (by decide)]; unfold cpS; rw [c_row_ne (by decide), c_row_ne (by decide), c_up_ne (by decide)]; rfl
      have z178 : c8 178 = fun q => if q = σ.1.length then c2 178 32 else c2 178 q := by
        rw [o8 178 (by decide)]; unfold cpS; rw [c_row_ne (by decide), c_row_ne (by decide), c_up_row, c_row_self, c_up_ne (by decide)]
      have z179 : c8 179 = cpB (c2 179) (120 * 32) (120 * σ.1.length) 120 := by rw [o8 179 (by decide)]; unfold cpS; rw [c_row_ne (by decide), c_row_self]
      have z180 : c8 180 = cpB (c2 180) (5 * 32) (5 * σ.1.length) 5 := by rw [o8 180 (by decide)]; unfold cpS; rw [c_row_self]
      have zo : ∀ a, a ≠ 176 → a ≠ 177 → a ≠ 178 → a ≠ 179 → a ≠ 180 → c8 a = c2 a := fun a b0 b1 b2 b3 b4 => by rw [o8 a b0]; unfold cpS; rw [c_row_ne b4, c_row_ne b3, c_up_ne b2, c_up_ne b1]
      refine hk c8 ?_ (fun a ha => by rw [zo a (by omega) (by omega) (by omega) (by omega) (by omega)]; exact low a ha)
      obtain ⟨m1, m2, m3, m4, m5, m6, m7⟩ := M2
      refine ⟨?_, fun i x hx => ?_, ?_, ?_, ?_, ?_, ?_⟩
      · show c8 176 0 = nI (σ.1 ++ [mkT k L]).length
        rw [v8, List.length_append, List.length_singleton]
      · have hx' : (σ.1 ++ [mkT k L])[i]? = some x := hx
        have hi : i < (σ.1 ++ [mkT k L]).length := (List.getElem?_eq_some_iff.mp hx').1
        rw [List.length_append, List.length_singleton] at hi
        by_cases ei : i = σ.1.length
        · subst ei
          rw [List.getElem?_append_right (Nat.le_refl _), Nat.sub_self] at hx'
          cases hx'
          refine ⟨?_, ?_, fun q hq => ?_, fun q hq => ?_⟩
          · rw [z177]; show (if _ = _ then _ else _) = _; rw [if_pos rfl]; exact S2.1
          · rw [z178]; show (if _ = _ then _ else _) = _; rw [if_pos rfl]; exact S2.2.1
          · have hq' : q < L.length := hq
            rw [z179]
            unfold cpB
            rw [if_pos (by omega), Nat.add_sub_cancel_left]
            exact S2.2.2 q hq'
          · rw [z180]
            unfold cpB
            rw [if_pos (by omega), Nat.add_sub_cancel_left]
            exact n32 q hq
        · rw [List.getElem?_append_left (by omega)] at hx'
          have hxl := (hV.1 x (List.mem_of_getElem? hx')).2.2
          obtain ⟨t1, t2, t3, t4⟩ := m2 i x hx'
          refine ⟨?_, ?_, fun q hq => ?_, fun q hq => ?_⟩
          · rw [z177]; show (if _ = _ then _ else _) = _; rw [if_neg ei]; exact t1
          · rw [z178]; show (if _ = _ then _ else _) = _; rw [if_neg ei]; exact t2
          · rw [z179]
            unfold cpB
            rw [if_neg (by omega)]
            exact t3 q hq
          · rw [z180]
            unfold cpB
            rw [if_neg (by omega)]
            exact t4 q hq
      · show c8 176 7 = _ ∧ _
        rw [k8 7 (by decide), zo 183 (by decide) (by decide) (by decide) (by decide) (by decide)]; exact m3
      · show MD c8 σ.2.2.1
        unfold MD
        rw [k8 9 (by decide), zo 184 (by decide) (by decide) (by decide) (by decide) (by decide), zo 185 (by decide) (by decide) (by decide) (by decide) (by decide)]
        exact m4
      · rw [zo 186 (by decide) (by decide) (by decide) (by decide) (by decide)]; exact m5
      · rw [k8 17 (by decide)]; exact m6
      · rw [zo 190 (by decide) (by decide) (by decide) (by decide) (by decide)]; exact m7
    · have e16 : σ.1.length = 16 := (nI_eq (b := 16) (by omega) (by decide)).mp g
      have e := bringX_f hf (by omega)
      rw [e] at hk
      exact hk c2 M2 low
theorem VS.bring {σ : Sg} {x : Th} (h : VS σ) (hx : VT x) : VS ((bringX σ.1 x).2, σ.2) := by
  cases hf : fnd σ.1 x.2.2 with
  | some j => rw [bringX_s hf]; exact h
  | none =>
    by_cases hl : σ.1.length < 16
    · rw [bringX_n hf hl]
      obtain ⟨v1, v2, v3, v4, v5, v6, v7, v8⟩ := h
      have len : (σ.1 ++ [x]).length = σ.1.length + 1 := by rw [List.length_append, List.length_singleton]
      refine ⟨fun y hy => ?_, ?_, fun i j y z hy hz hs => ?_, v4, fun l hl2 => ?_, fun b hb => ?_, v7, v8⟩
      · rcases List.mem_append.mp hy with q | q
        · exact v1 y q
        · rw [List.mem_singleton.mp q]; exact hx
      · show (σ.1 ++ [x]).length ≤ 16
        omega
      · have hy' : (σ.1 ++ [x])[i]? = some y := hy
        have hz' : (σ.1 ++ [x])[j]? = some z := hz
        have hi := (List.getElem?_eq_some_iff.mp hy').1
        have hj := (List.getElem?_eq_some_iff.mp hz').1
        rw [len] at hi hj
        by_cases ei : i = σ.1.length
        · by_cases ej : j = σ.1.length
          · omega
          · subst ei
            rw [List.getElem?_append_right (Nat.le_refl _), Nat.sub_self] at hy'
            cases hy'
            rw [List.getElem?_append_left (by omega)] at hz'
            exact absurd hs.symm (fnd_no hf j z hz')
        · rw [List.getElem?_append_left (by omega)] at hy'
          by_cases ej : j = σ.1.length
          · subst ej
            rw [List.getElem?_append_right (Nat.le_refl _), Nat.sub_self] at hz'
            cases hz'
            exact absurd hs (fnd_no hf i y hy')
          · rw [List.getElem?_append_left (by omega)] at hz'
            exact v3 i j y z hy' hz' hs
      · rcases v5 l hl2 with q | ⟨j, q1, q2⟩
        · exact Or.inl q
        · exact Or.inr ⟨j, by show j < (σ.1 ++ [x]).length; omega, q2⟩
      · rcases v6 b hb with q | ⟨j, q1, q2⟩
        · exact Or.inl q
        · exact Or.inr ⟨j, by show j < (σ.1 ++ [x]).length; omega, q2⟩
    · rw [bringX_f hf hl]; exact h
