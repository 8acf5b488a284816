noncomputable def cif {α : Type} (Q : Prop) (a b : α) : α := @ite α Q (Classical.propDecidable Q) a b
theorem cif_t {α : Type} {Q : Prop} {a b : α} (h : Q) : cif Q a b = a := by unfold cif; rw [if_pos h]
theorem cif_f {α : Type} {Q : Prop} {a b : α} (h : ¬ Q) : cif Q a b = b := by unfold cif; rw [if_neg h]
def rdL (P : List Int32) (e : Nat) : Nat → Int32 ⊕ (List Rd × Nat)
  | 0 => .inr ([], 12)
  | k + 1 => rsb (rdL P e k) (fun x => rsb (rdT P e x.1 x.2) (fun y => .inr (x.1 ++ [(x.2, y.1, y.2.1)], y.2.2)))
theorem rdL_ok {P : List Int32} {e : Nat} (hb : byt P) (he : e ≤ P.length) (h12 : 12 ≤ e) : ∀ (k : Nat) (R : List Rd) (p : Nat), rdL P e k = .inr (R, p) → R.length = k ∧ p ≤ e ∧ (∀ x ∈ R, VR e x) ∧ (∀ x ∈ R, x.1 < p) ∧ ∀ (i j : Nat) (x y : Rd), i < j → R[i]? = some x → R[j]? = some y → x.1 < y.1
  | 0, R, p, h => by cases h; exact ⟨rfl, h12, fun x hx => absurd hx List.not_mem_nil, fun x hx => absurd hx List.not_mem_nil, fun i j x y _ hx => by cases hx⟩
  | k + 1, R, p, h => by
    rw [rdL] at h
    cases e1 : rdL P e k with
    | inl w => rw [e1] at h; cases h
    | inr x =>
      obtain ⟨R0, p0⟩ := x
      rw [e1, rsb_r] at h
      obtain ⟨a1, a2, a3, a4, a5⟩ := rdL_ok hb he h12 k R0 p0 e1
      cases e2 : rdT P e R0 p0 with
      | inl w =>
        simp only [e2] at h
        cases h
      | inr y =>
        obtain ⟨t, L, q⟩ := y
        simp only [e2, rsb_r] at h
        cases h
        obtain ⟨b1, b2, b3⟩ := rdT_ok hb he a3 e2
        refine ⟨by rw [List.length_append, List.length_singleton, a1], b2, fun x hx => ?_, fun x hx => ?_, fun i j x y hij hx hy => ?_⟩
        · rcases List.mem_append.mp hx with q | q
          · exact a3 x q
          · rw [List.mem_singleton] at q; rw [q]; exact b3
        · rcases List.mem_append.mp hx with q | q
          · have := a4 x q; omega
          · rw [List.mem_singleton] at q; rw [q]; exact b1
        · have hj : j < R0.length + 1 := by
            have := (List.getElem?_eq_some_iff.mp hy).1
            rw [List.length_append, List.length_singleton] at this
            exact this
          rw [List.getElem?_append_left (by omega)] at hx
          by_cases ej : j < R0.length
          · rw [List.getElem?_append_left ej] at hy
            exact a5 i j x y hij hx hy
          · have : j = R0.length := by omega
            subst this
            rw [List.getElem?_append_right (Nat.le_refl _), Nat.sub_self] at hy
            cases hy
            exact a4 x (List.mem_of_getElem? hx)
theorem rdL_e {P : List Int32} {e k : Nat} {w : Int32} (h : rdL P e k = .inl w) : ∀ m, rdL P e (k + m) = .inl w
  | 0 => h
  | m + 1 => by
    rw [show k + (m + 1) = (k + m) + 1 by omega, rdL, rdL_e h m]
    rfl
def rdA (P : List Int32) (n : Nat) : Int32 ⊕ List Rd := rsb (rdL P (P.length - 20) n) (fun x => if x.2 < P.length - 20 then .inl (-5) else .inr x.1)
theorem rdL_s {P : List Int32} {e k p : Nat} {R : List Rd} (h : rdL P e k = .inr (R, p)) : rdL P e (k + 1) = rsb (rdT P e R p) (fun y => .inr (R ++ [(p, y.1, y.2.1)], y.2.2)) := by
  rw [rdL, h, rsb_r]
def Fz (ρ : Nat → List Int32) (γ : cM) (ρ' : Nat → List Int32) (γ' : cM) : Prop := (∀ r, r < 107 → ρ' r = ρ r) ∧ ∀ a, a < 105 ∨ 176 ≤ a → γ' a = γ a
theorem Fz.tr {ρ ρ' ρ'' : Nat → List Int32} {γ γ' γ'' : cM} (h : Fz ρ γ ρ' γ') (g : Fz ρ' γ' ρ'' γ'') : Fz ρ γ ρ'' γ'' := ⟨fun r hr => (g.1 r hr).trans (h.1 r hr), fun a ha => (g.2 a ha).trans (h.2 a ha)⟩
theorem Fz.pe {ρ ρ' : Nat → List Int32} {γ γ' : cM} (h : Fz ρ γ ρ' γ') : Pe ρ γ ρ' γ' := ⟨fun r hr => h.1 r (by omega), fun a ha _ _ _ => h.2 a (by omega), by rw [h.2 19 (by decide)]⟩
theorem Fy.fz {k : Nat} {ρ ρ' : Nat → List Int32} {γ γ' : cM} (hk : k < 16) (h : Fy k ρ γ ρ' γ') : Fz ρ γ ρ' γ' := ⟨fun r hr => h.1 r (by omega) (by omega) (by omega), fun a ha => h.2.1 a (by omega) (by omega) (by omega)⟩
theorem s_readThings {c : cM} {ρ : Nat → List Int32} {γ : cM} {P : List Int32} {n : Nat} {K : Int32 → cM → Prop} (h : Rep c ρ γ) (hP : ρ 91 = P) (hb : byt P) (hl : P.length ≤ 2192) (hl2 : 32 ≤ P.length) (hn : n ≤ 16) (ht : be4 (gL P) 8 = nI n) (h1 : ∀ R, rdA P n = .inr R → ∀ c' ρ' γ', Rep c' ρ' γ' → Fz ρ γ ρ' γ' → γ' 105 1 = nI n → R.length = n → RdR ρ' γ' R → (∀ x ∈ R, VR (P.length - 20) x) → K 0 c') (h0 : ∀ w, ng w → rdA P n = .inl w → ∀ c' ρ' γ', Rep c' ρ' γ' → Fz ρ γ ρ' γ' → K w c') : f_Rea_readThings 105 91 c K := by
  obtain ⟨k0, k2, k3, k4, k106, l106, k171, l171, k172, k174, l173, l175⟩ := rd_k
  have k91 := ps_k2.2.2.2.2.2.1
  unfold f_Rea_readThings
  refine ⟨k91, s_intAt (i := 8) h k91 (by decide) ?_⟩
  rw [hP, if_pos (by omega), ht]
  refine ⟨ps_k3.2.2.1, ?_⟩
  rintro c5 e5 c6 e6 c7 e7
  have R5 := h.up n105 e5
  have R6 := R5.up n105 e6
  have c6e : c6 91 1 - 20 = nI (P.length - 20) := by
    rw [(R6.1 91 k91).1, hP]
    exact pk_sub (b := 20) (by omega)
  rw [c6e] at e7
  have R7 := R6.up n105 e7
  generalize hG : c_up (c_up (c_up γ 105 1 0) 105 5 12) 105 6 (nI (P.length - 20)) = G at R7
  have G1 : G 105 1 = nI 0 := by rw [← hG, c_up_at (by decide), c_up_at (by decide), c_up_self]; rfl
  have G5 : G 105 5 = nI 12 := by rw [← hG, c_up_at (by decide), c_up_self]; rfl
  have G6 : G 105 6 = nI (P.length - 20) := by rw [← hG, c_up_self]
  have Go : ∀ a, a ≠ 105 → G a = γ a := fun a ha => by rw [← hG, c_up_ne ha, c_up_ne ha, c_up_ne ha]
  have F7 : Fz ρ γ ρ G := ⟨fun _ _ => rfl, fun a ha => Go a (by omega)⟩
  generalize he : P.length - 20 = e at *
  rw [k0, l106]
  have bad : ∀ k w, k ≤ n → rdL P e k = .inl w → rdA P n = .inl w := fun k w hk hw => by
    unfold rdA
    rw [he, show n = k + (n - k) by omega, rdL_e hw]
    rfl
  refine ⟨fun m y c' => (y = 0 ∧ ∃ k R p ρ' γ', m + k = 17 ∧ k ≤ n ∧ rdL P e k = .inr (R, p) ∧ Rep c' ρ' γ' ∧ γ' 105 1 = nI k ∧ γ' 105 5 = nI p ∧ γ' 105 6 = nI e ∧ RdR ρ' γ' R ∧ Fz ρ γ ρ' γ') ∨ (ng y ∧ rdA P n = .inl y ∧ ∃ ρ' γ', Rep c' ρ' γ' ∧ Fz ρ γ ρ' γ'), ⟨17, Or.inl ⟨rfl, 0, [], 12, ρ, G, rfl, Nat.zero_le _, rfl, R7, G1, G5, G6, fun i x hx => (by cases hx), F7⟩⟩, ?_⟩
  rintro m y c13 (⟨rfl, k, R, p, ρ1, γ1, hm, hkn, hr, h13, a1, a5, a6, hR, f13⟩ | ⟨gy, hy, ρ1, γ1, h13, f13⟩)
  · have c1 : c13 105 1 = nI k := by rw [h13.2 105 n105]; exact a1
    have c5' : c13 105 5 = nI p := by rw [h13.2 105 n105]; exact a5
    have c6' : c13 105 6 = nI e := by rw [h13.2 105 n105]; exact a6
    obtain ⟨b1, b2, b3, b4, b5⟩ := rdL_ok hb (by omega) (by omega) k R p hr
    rw [c1, c5', c6']
    refine ⟨k = n, fun hkn2 => ⟨fun q => absurd rfl q, fun _ => ?_⟩, fun q => absurd rfl q, fun _ => ⟨fun g => ?_, fun g => ⟨fun g2 => ?_, fun g2 => ⟨k106, ?_⟩⟩⟩⟩
    · subst hkn2
      have ea : rdA P k = if p < e then .inl (-5) else .inr R := by unfold rdA; rw [he, hr]; rfl
      refine ⟨fun g => ?_, fun g => ?_⟩
      · have g1 : e ≤ p := (nI_leI (by omega) (by omega)).mp g
        rw [if_neg (by omega)] at ea
        exact h1 R ea c13 ρ1 γ1 h13 f13 a1 b1 hR b3
      · have g1 : p < e := by
          rcases Nat.lt_or_ge p e with w | w
          · exact w
          · exact absurd (nI_le w (by omega)) g
        rw [if_pos g1] at ea
        exact h0 (-5) (Or.inl rfl) ea c13 ρ1 γ1 h13 f13
    · have := (nI_leI (by omega) (by omega)).mp g
      omega
    · have g3 : k < n := by
        rcases Nat.lt_or_ge k n with w | w
        · exact w
        · exact absurd (nI_le w (by omega)) g
      have := (nI_leI (a := 16) (by decide) (by omega)).mp g2
      omega
    · have g3 : k < n := by
        rcases Nat.lt_or_ge k n with w | w
        · exact w
        · exact absurd (nI_le w (by omega)) g
      rw [nI_clamp (show k < 2 ^ 31 by omega), (rd_t k (by omega)).1]
      refine ⟨vp_in_nI (by omega) (by decide), ?_⟩
      have E13 : En ρ1 γ1 P e := ⟨(f13.1 91 (by decide)).trans hP, hb, hl, by omega, a6⟩
      have es := rdL_s hr
      refine s_readThing h13 E13 b2 a5 a1 b1 (by omega) hR b3 (fun t L q et c30 ρ2 γ2 h30 f30 q5 qs qt ql c32 e32 => ?_) (fun w gw ew c30 ρ2 γ2 h30 f30 c32 e32 => ?_)
      · rw [et, rsb_r] at es
        have z1 : c30 105 1 = nI k := by rw [h30.2 105 n105, f30.2.2.1 1 (by decide)]; exact a1
        rw [z1, show nI k + 1 = nI (k + 1) from (nI_succ k).symm] at e32
        have R32 := h30.up n105 e32
        refine ⟨m - 1, by omega, Or.inl ⟨rfl, k + 1, _, q, ρ2, _, by omega, by omega, es, R32, c_up_self, by rw [c_up_at (by decide)]; exact q5, by rw [c_up_at (by decide), f30.2.2.1 6 (by decide)]; exact a6, ?_, ?_⟩⟩
        · intro i x hx
          have hi := (List.getElem?_eq_some_iff.mp hx).1
          rw [List.length_append, List.length_singleton] at hi
          rw [c_up_ne (by decide), c_up_ne (by omega)]
          by_cases ei : i < R.length
          · rw [List.getElem?_append_left ei] at hx
            obtain ⟨x1, x2, x3⟩ := hR i x hx
            exact ⟨by rw [f30.2.2.2 i (by omega)]; exact x1, by rw [f30.2.1 _ (by omega) (by omega) (by omega)]; exact x2, by rw [f30.1 _ (by omega) (by omega) (by omega)]; exact x3⟩
          · have : i = k := by omega
            subst this
            rw [List.getElem?_append_right (by omega), b1, Nat.sub_self] at hx
            cases hx
            exact ⟨qs, qt, ql⟩
        · exact f13.tr ((f30.fz (by omega)).tr ⟨fun _ _ => rfl, fun a ha => c_up_ne (by omega)⟩)
      · rw [ew, rsb_l] at es
        have R32 := h30.up n105 e32
        exact ⟨0, by omega, Or.inr ⟨gw, bad (k + 1) w (by omega) es, ρ2, _, R32, f13.tr ((f30.fz (by omega)).tr ⟨fun _ _ => rfl, fun a ha => c_up_ne (by omega)⟩)⟩⟩
  · have gn := (ng_n gy).1
    exact ⟨True, fun _ => ⟨fun _ => h0 y gy hy c13 ρ1 γ1 h13 f13, fun q => absurd q gn⟩, fun _ => True.intro, fun q => absurd q gn⟩
def bgs (P : List Int32) : Prop := 32 ≤ P.length ∧ be4 (gL P) 0 = 1346454347 ∧ be4 (gL P) 4 = 2
def sld (P : List Int32) : Prop := hasAt P (P.length - 20) (sha (P.take (P.length - 20))) 5
def tn (P : List Int32) : Nat := (be4 (gL P) 8).toBitVec.toNat
theorem tn_le {P : List Int32} (h : tn P ≤ 16) : be4 (gL P) 8 = nI (tn P) := by
  rw [i32_nat, nI_nat (by omega)]; rfl
theorem tn_gt {P : List Int32} (h0 : ¬ be4 (gL P) 8 < 0) (h1 : be4 (gL P) 8 ≤ 16) : tn P ≤ 16 := by
  obtain ⟨j, hj, e⟩ := nI_of h0
  have h2 : j ≤ 16 := by rw [e] at h1; exact (nI_leI (b := 16) hj (by decide)).mp h1
  unfold tn
  rw [e, nI_nat (by omega)]
  exact h2
theorem s_look {c : cM} {ρ : Nat → List Int32} {γ : cM} {P : List Int32} {K : Int32 → cM → Prop} (h : Rep c ρ γ) (hP : ρ 91 = P) (hl : P.length ≤ 2192) (h3 : ¬ bgs P → K (-3) c) (h4 : bgs P → ¬ sld P → ∀ c' γ', Rep c' ρ γ' → (∀ a, a < 93 ∨ 96 ≤ a → γ' a = γ a) → K (-4) c') (h2 : bgs P → sld P → ¬ tn P ≤ 16 → ∀ c' γ', Rep c' ρ γ' → (∀ a, a < 93 ∨ 96 ≤ a → γ' a = γ a) → K (-2) c') (h0 : bgs P → sld P → tn P ≤ 16 → ∀ c' γ', Rep c' ρ γ' → (∀ a, a < 93 ∨ 96 ≤ a → γ' a = γ a) → K 0 c') : f_P_lookAtEnds 18 c K := by
  have k91 := ps_k2.2.2.2.2.2.1
  have q94 : kd 94 = 100 := by decide +kernel
  have l94 : ln 94 = 5 := by decide +kernel
  have n94 : ¬ rc 94 := nrc (by decide +kernel)
  have r93 : rf 93 0 = 94 := by decide +kernel
  have c91 : c 91 1 = nI P.length := by rw [(h.1 91 k91).1, hP]
  unfold f_P_lookAtEnds
  rw [ps_k.2.2.2.2.1, ps_k.2.2.2.2.2.1, r93, c91]
  refine ⟨ps_k.1, k91, fun g => ?_, fun g => h3 (fun q => g (nI_le (a := 32) q.1 (by omega)))⟩
  have g1 : 32 ≤ P.length := (nI_leI (a := 32) (by decide) (by omega)).mp g
  refine s_intAt (i := 0) h k91 (by decide) ?_
  rw [hP, if_pos (by omega)]
  refine ⟨fun g2 => h3 (fun q => g2 q.2.1), fun g2 => ?_⟩
  refine s_intAt (i := 4) h k91 (by decide) ?_
  rw [hP, if_pos (by omega)]
  refine ⟨fun g3 => ⟨ps_k2.2.2.2.2.2.2, ?_⟩, fun g3 => h3 (fun q => g3 q.2.2)⟩
  have hB : bgs P := ⟨g1, g2, g3⟩
  rw [c91, show nI P.length - 20 = nI (P.length - 20) from pk_sub (b := 20) (by omega)]
  refine s_ofRow h k91 (by rw [hP]; omega) (fun c11 h11 => ?_)
  rw [hP] at h11
  refine s_hasInts (n := 5) h11 k91 q94 l94 (by decide) n94 (by omega) ?_
  rw [hP, gs_94]
  have es : hasAt P (P.length - 20) (shS (γ 94) (γ 95) (P.take (P.length - 20))).1 5 ↔ sld P := hasAt_congr (shS_sha _ _ _)
  have fr : ∀ a, a < 93 ∨ 96 ≤ a → gs γ (shS (γ 94) (γ 95) (P.take (P.length - 20))) a = γ a := fun a ha => gs_ne (by omega)
  refine ⟨fun g4 => ?_, fun g4 => ?_⟩
  · have hS : sld P := by
      rcases Classical.em (sld P) with q | q
      · exact q
      · exact absurd (pI_f (fun w => q (es.mp w))) g4
    refine s_intAt (i := 8) h11 k91 (by decide) ?_
    rw [hP, if_pos (by omega)]
    refine ⟨¬ tn P ≤ 16, fun q => h2 hB hS q c11 _ h11 fr, fun g5 => ?_, fun g5 => ⟨fun g6 => h0 hB hS (tn_gt g5 g6) c11 _ h11 fr, fun g6 => ?_⟩⟩
    · intro q
      rw [tn_le q] at g5
      exact nI_pos (by omega) g5
    · intro q
      rw [tn_le q] at g6
      exact g6 (nI_le (b := 16) q (by decide))
  · exact h4 hB (fun q => absurd (pI_eq0.mp g4) (fun w => w (es.mpr q))) c11 _ h11 fr
