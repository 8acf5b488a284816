def nmT (x : Rd) : Th := mkT x.2.1 x.2.2
def nmL (R : List Rd) : List Th := R.map nmT
def un (ths L : List Th) : Nat → List Th
  | 0 => ths
  | i + 1 => (L[i]?).elim (un ths L i) (fun x => (fnd (un ths L i) x.2.2).elim (un ths L i ++ [x]) (fun _ => un ths L i))
theorem un_n {ths L : List Th} {i : Nat} {x : Th} (hx : L[i]? = some x) (h : fnd (un ths L i) x.2.2 = none) : un ths L (i + 1) = un ths L i ++ [x] := by
  rw [un, hx]
  show (fnd (un ths L i) x.2.2).elim _ _ = _
  rw [h]
  rfl
theorem un_s {ths L : List Th} {i j : Nat} {x : Th} (hx : L[i]? = some x) (h : fnd (un ths L i) x.2.2 = some j) : un ths L (i + 1) = un ths L i := by
  rw [un, hx]
  show (fnd (un ths L i) x.2.2).elim _ _ = _
  rw [h]
  rfl
theorem un_x {ths L : List Th} {i : Nat} (hx : L[i]? = none) : un ths L (i + 1) = un ths L i := by
  rw [un, hx]
  rfl
theorem un_le (ths L : List Th) (i : Nat) : ∀ m, (un ths L i).length ≤ (un ths L (i + m)).length
  | 0 => Nat.le_refl _
  | m + 1 => by
    have ih := un_le ths L i m
    rw [show i + (m + 1) = (i + m) + 1 by omega]
    cases e : L[i + m]? with
    | none => rw [un_x e]; exact ih
    | some x =>
      cases e2 : fnd (un ths L (i + m)) x.2.2 with
      | none => rw [un_n e e2, List.length_append]; omega
      | some j => rw [un_s e e2]; exact ih
theorem un_top (ths L : List Th) : ∀ i, (un ths L i).length ≤ ths.length + i
  | 0 => Nat.le_refl _
  | i + 1 => by
    have ih := un_top ths L i
    cases e : L[i]? with
    | none => rw [un_x e]; omega
    | some x =>
      cases e2 : fnd (un ths L i) x.2.2 with
      | none => rw [un_n e e2, List.length_append, List.length_singleton]; omega
      | some j => rw [un_s e e2]; omega
theorem fnd_app {l : List Th} {x : Th} {nm : Nat → Int32} : fnd (l ++ [x]) nm = none ↔ fnd l nm = none ∧ ¬ sameN x.2.2 nm := by
  constructor
  · intro h
    have h1 := fnd_no h
    refine ⟨fnd_none (fun i y hy => h1 i y (by rw [List.getElem?_append_left (List.getElem?_eq_some_iff.mp hy).1]; exact hy)), h1 l.length x (by rw [List.getElem?_append_right (Nat.le_refl _), Nat.sub_self]; rfl)⟩
  · rintro ⟨h1, h2⟩
    refine fnd_none (fun i y hy => ?_)
    have hi := (List.getElem?_eq_some_iff.mp hy).1
    rw [List.length_append, List.length_singleton] at hi
    by_cases e : i < l.length
    · rw [List.getElem?_append_left e] at hy
      exact fnd_no h1 i y hy
    · have : i = l.length := by omega
      subst this
      rw [List.getElem?_append_right (Nat.le_refl _), Nat.sub_self] at hy
      cases hy
      exact h2
theorem un_fnd {ths L : List Th} {nm : Nat → Int32} : ∀ i, fnd (un ths L i) nm = none ↔ fnd ths nm = none ∧ ∀ (j : Nat) (y : Th), j < i → L[j]? = some y → ¬ sameN y.2.2 nm
  | 0 => ⟨fun h => ⟨h, fun j y hj => absurd hj (Nat.not_lt_zero _)⟩, fun h => h.1⟩
  | i + 1 => by
    have ih := un_fnd (ths := ths) (L := L) (nm := nm) i
    cases e : L[i]? with
    | none =>
      rw [un_x e, ih]
      constructor
      · rintro ⟨h1, h2⟩
        refine ⟨h1, fun j y hj hy => ?_⟩
        by_cases ej : j = i
        · subst ej; rw [e] at hy; cases hy
        · exact h2 j y (by omega) hy
      · rintro ⟨h1, h2⟩
        exact ⟨h1, fun j y hj hy => h2 j y (by omega) hy⟩
    | some x =>
      have key : fnd (un ths L (i + 1)) nm = none ↔ fnd (un ths L i) nm = none ∧ ¬ sameN x.2.2 nm := by
        cases e2 : fnd (un ths L i) x.2.2 with
        | none => rw [un_n e e2]; exact fnd_app
        | some j =>
          rw [un_s e e2]
          constructor
          · intro h
            refine ⟨h, fun q => ?_⟩
            rw [fnd_congr q, h] at e2
            cases e2
          · exact fun h => h.1
      rw [key, ih]
      constructor
      · rintro ⟨⟨h1, h2⟩, h3⟩
        refine ⟨h1, fun j y hj hy => ?_⟩
        by_cases ej : j = i
        · subst ej; rw [e] at hy; cases hy; exact h3
        · exact h2 j y (by omega) hy
      · rintro ⟨h1, h2⟩
        exact ⟨⟨h1, fun j y hj hy => h2 j y (by omega) hy⟩, h2 i x (by omega) e⟩
def RdN (ρ : Nat → List Int32) (γ : cM) (L : List Th) : Prop := ∀ (i : Nat) (x : Th), L[i]? = some x → RT ρ γ (107 + 4 * i) x
theorem s_before {c : cM} {ρ : Nat → List Int32} {γ : cM} {L : List Th} {i : Nat} {x : Th} {K : Int32 → cM → Prop} (h : Rep c ρ γ) (hN : RdN ρ γ L) (hL : L.length ≤ 16) (hx : L[i]? = some x) (h1 : (∃ (j : Nat) (y : Th), j < i ∧ L[j]? = some y ∧ sameN y.2.2 x.2.2) → K 1 c) (h0 : (∀ (j : Nat) (y : Th), j < i → L[j]? = some y → ¬ sameN y.2.2 x.2.2) → K 0 c) : f_Rea_isReadBefore 105 (nI i) c K := by
  obtain ⟨k0, k2, k3, k4, k106, l106, k171, l171, k172, k174, l173, l175⟩ := rd_k
  have hi := (List.getElem?_eq_some_iff.mp hx).1
  unfold f_Rea_isReadBefore
  rw [k0, l106, nI_clamp (show i < 2 ^ 31 by omega), (rd_t i (by omega)).1]
  refine ⟨fun m y c' => ∃ j, m + j = i ∧ y = nI j ∧ c' = c ∧ ∀ (q : Nat) (z : Th), q < j → L[q]? = some z → ¬ sameN z.2.2 x.2.2, ⟨i, 0, rfl, rfl, rfl, fun q z hq => absurd hq (Nat.not_lt_zero _)⟩, ?_⟩
  rintro m y c6 ⟨j, hm, rfl, rfl, hall⟩
  refine ⟨fun g => ?_, fun g => ?_⟩
  · have g1 : i ≤ j := (nI_leI (by omega) (by omega)).mp g
    exact h0 (fun q z hq hz => hall q z (by omega) hz)
  · have g1 : j < i := by
      rcases Nat.lt_or_ge j i with w | w
      · exact w
      · exact absurd (nI_le w (by omega)) g
    obtain ⟨y, hy⟩ := get_some (l := L) (j := j) (by omega)
    obtain ⟨tj1, tj2⟩ := rd_t j (by omega)
    rw [nI_clamp (show j < 2 ^ 31 by omega), tj1]
    refine ⟨ps_k3.2.2.1, k106, vp_in_nI (by omega) (by decide), vp_in_nI (by omega) (by decide), tj2, s_isNamedAs h tj2 (rd_t i (by omega)).2 ?_⟩
    have e : sameN (γ (107 + 4 * j + 3)) (γ (107 + 4 * i + 3)) ↔ sameN y.2.2 x.2.2 := ⟨fun q => (((hN j y hy).2.2).symm.trans q).trans (hN i x hx).2.2, fun q => ((hN j y hy).2.2.trans q).trans (hN i x hx).2.2.symm⟩
    rw [pI_iff e]
    refine ⟨fun g2 => ⟨m - 1, by omega, j + 1, by omega, (nI_succ j).symm, rfl, fun q z hq hz => ?_⟩, fun g2 => ?_⟩
    · by_cases eq : q = j
      · subst eq; rw [hy] at hz; cases hz; exact pI_eq0.mp g2
      · exact hall q z (by omega) hz
    · refine h1 ⟨j, y, g1, hy, ?_⟩
      rcases Classical.em (sameN y.2.2 x.2.2) with q | q
      · exact q
      · exact absurd (pI_f q) g2
theorem s_countNew {c : cM} {ρ : Nat → List Int32} {γ : cM} {ths L : List Th} {K : Int32 → cM → Prop} (h : Rep c ρ γ) (hs : StR ρ γ ths) (hN : RdN ρ γ L) (hL : L.length ≤ 16) (hk1 : γ 105 1 = nI L.length) (hk : K (nI ((un ths L L.length).length - ths.length)) c) : f_Rea_countNew 105 19 c K := by
  obtain ⟨k0, k2, k3, k4, k106, l106, k171, l171, k172, k174, l173, l175⟩ := rd_k
  have hl16 := hs.2.1
  unfold f_Rea_countNew
  rw [k0, l106]
  refine ⟨fun m y5 y6 c' => ∃ i, m + i = L.length ∧ y6 = nI i ∧ y5 = nI ((un ths L i).length - ths.length) ∧ c' = c, ⟨L.length, 0, rfl, rfl, by show 0 = nI (ths.length - ths.length); rw [Nat.sub_self]; rfl, rfl⟩, ?_⟩
  rintro m y5 y6 c7 ⟨i, hm, rfl, rfl, rfl⟩
  rw [show c7 105 1 = nI L.length by rw [h.2 105 n105]; exact hk1]
  refine ⟨ps_k3.2.2.1, fun g => ?_, fun g => ?_⟩
  · have g1 : L.length ≤ i := (nI_leI (by omega) (by omega)).mp g
    have : i = L.length := by omega
    subst this
    exact hk
  · have g1 : i < L.length := by
      rcases Nat.lt_or_ge i L.length with w | w
      · exact w
      · exact absurd (nI_le w (by omega)) g
    obtain ⟨x, hx⟩ := get_some g1
    obtain ⟨t1, t2⟩ := rd_t i (by omega)
    rw [nI_clamp (show i < 2 ^ 31 by omega), t1]
    refine ⟨k106, vp_in_nI (by omega) (by decide), st_k.2.2.2.2.1, s_numberOf h hs t2 ?_⟩
    rw [fnd_congr (hN i x hx).2.2]
    have hle := un_le ths L 0 i
    rw [Nat.zero_add] at hle
    have hle' : ths.length ≤ (un ths L i).length := hle
    have htop := un_top ths L i
    refine ⟨fun y c' => y = nI ((un ths L (i + 1)).length - ths.length) ∧ c' = c7, ?_, fun g2 => ?_, fun g2 => ?_⟩
    · rintro y c20 ⟨rfl, rfl⟩
      exact ⟨m - 1, by omega, i + 1, by omega, (nI_succ i).symm, rfl, rfl⟩
    · cases ef : fnd ths x.2.2 with
      | none => rw [ef] at g2; exact absurd rfl g2
      | some j =>
        cases e2 : fnd (un ths L i) x.2.2 with
        | none => rw [((un_fnd i).mp e2).1] at ef; cases ef
        | some j' => rw [un_s hx e2]; exact ⟨rfl, rfl⟩
    · have ef : fnd ths x.2.2 = none := by
        cases ef : fnd ths x.2.2 with
        | none => rfl
        | some j =>
          rw [ef] at g2
          have g3 : nI j = -1 := g2
          have := nI_pos (n := j) (by have := fnd_lt ef; omega)
          rw [g3] at this
          exact absurd (by decide) this
      refine s_before h hN hL hx (fun w => ⟨fun _ => ?_, fun q => absurd q (by decide)⟩) (fun w => ⟨fun q => absurd rfl q, fun _ => ?_⟩)
      · cases e2 : fnd (un ths L i) x.2.2 with
        | none =>
          obtain ⟨j, y, w1, w2, w3⟩ := w
          exact absurd w3 (((un_fnd i).mp e2).2 j y w1 w2)
        | some j' => rw [un_s hx e2]; exact ⟨rfl, rfl⟩
      · have e2 := (un_fnd (ths := ths) (L := L) (nm := x.2.2) i).mpr ⟨ef, w⟩
        rw [un_n hx e2, List.length_append, List.length_singleton]
        refine ⟨?_, rfl⟩
        rw [show (un ths L i).length + 1 - ths.length = (un ths L i).length - ths.length + 1 by omega]
        exact (nI_succ _).symm
theorem s_bringRead {c : cM} {ρ : Nat → List Int32} {γ : cM} {ths L : List Th} {K : Int32 → cM → Prop} (h : Rep c ρ γ) (hs : StR ρ γ ths) (hN : RdN ρ γ L) (hL : L.length ≤ 16) (hk1 : γ 105 1 = nI L.length) (hU : (un ths L L.length).length ≤ 16) (hk : ∀ c' ρ' γ', Rep c' ρ' γ' → StR ρ' γ' (un ths L L.length) → Pb ρ γ ρ' γ' → K (nI ((un ths L L.length).length - ths.length)) c') : f_P_bringRead 18 c K := by
  obtain ⟨k0, k2, k3, k4, k106, l106, k171, l171, k172, k174, l173, l175⟩ := rd_k
  unfold f_P_bringRead
  rw [ps_k.2.1, ps_k2.2.1, k0, l106, show c 19 1 = nI ths.length by rw [h.2 19 n19]; exact hs.1]
  refine ⟨ps_k.1, st_k.2.2.2.2.1, fun m y c' => ∃ i ρ' γ', m + i = L.length ∧ y = nI i ∧ Rep c' ρ' γ' ∧ StR ρ' γ' (un ths L i) ∧ Pb ρ γ ρ' γ', ⟨L.length, 0, ρ, γ, rfl, rfl, h, hs, fun _ _ => rfl, fun _ _ => rfl⟩, ?_⟩
  rintro m y c8 ⟨i, ρ1, γ1, hm, rfl, h8, s8, p8⟩
  rw [show c8 105 1 = nI L.length by rw [h8.2 105 n105, p8.2 105 (by decide)]; exact hk1, show c8 19 1 = nI (un ths L i).length by rw [h8.2 19 n19]; exact s8.1]
  have hle := un_le ths L 0 i
  rw [Nat.zero_add] at hle
  have hle' : ths.length ≤ (un ths L i).length := hle
  refine ⟨ps_k3.2.2.1, fun g => ?_, fun g => ?_⟩
  · have g1 : L.length ≤ i := (nI_leI (by omega) (by omega)).mp g
    have : i = L.length := by omega
    subst this
    rw [pk_sub hle']
    exact hk c8 ρ1 γ1 h8 s8 p8
  · have g1 : i < L.length := by
      rcases Nat.lt_or_ge i L.length with w | w
      · exact w
      · exact absurd (nI_le w (by omega)) g
    obtain ⟨x, hx⟩ := get_some g1
    obtain ⟨t1, t2⟩ := rd_t i (by omega)
    rw [nI_clamp (show i < 2 ^ 31 by omega), t1]
    have rx : RT ρ1 γ1 (107 + 4 * i) x := by
      obtain ⟨x1, x2, x3⟩ := hN i x hx
      exact ⟨by rw [p8.2 _ (by omega)]; exact x1, by rw [p8.1 _ (by omega)]; exact x2, by rw [p8.2 _ (by omega)]; exact x3⟩
    have hm1 := un_le ths L (i + 1) (L.length - (i + 1))
    rw [show i + 1 + (L.length - (i + 1)) = L.length by omega] at hm1
    refine ⟨k106, vp_in_nI (by omega) (by decide), s_bring h8 s8 t2 (by omega) rx (fun j hj => ?_) (fun hn hl => ?_) (fun hn hl c' ρ' γ' hR hS' hP' => ?_)⟩
    · rw [fnd_congr rx.2.2] at hj
      exact ⟨m - 1, by omega, i + 1, ρ1, γ1, by omega, (nI_succ i).symm, h8, by rw [un_s hx hj]; exact s8, p8⟩
    · rw [fnd_congr rx.2.2] at hn
      rw [un_n hx hn, List.length_append, List.length_singleton] at hm1
      omega
    · rw [fnd_congr rx.2.2] at hn
      exact ⟨m - 1, by omega, i + 1, ρ', γ', by omega, (nI_succ i).symm, hR, by rw [un_n hx hn]; exact hS', fun r hr => (hP'.1 r hr).trans (p8.1 r hr), fun a ha => (hP'.2 a ha).trans (p8.2 a ha)⟩
noncomputable def resX (σ : Sg) (R : List Rd) : Int32 × Sg := if (un σ.1 (nmL R) R.length).length ≤ 16 then (nI ((un σ.1 (nmL R) R.length).length - σ.1.length), un σ.1 (nmL R) R.length, σ.2) else (-2, σ)
noncomputable def unpX (σ : Sg) : Int32 × Sg := cif (σ.2.2.2.2.length = 0) (-1, σ) (cif (bgs σ.2.2.2.2) (cif (sld σ.2.2.2.2) (cif (tn σ.2.2.2.2 ≤ 16) (match rdA σ.2.2.2.2 (tn σ.2.2.2.2) with
  | .inl w => (w, σ)
  | .inr R => resX σ R) (-2, σ)) (-4, σ)) (-3, σ))
theorem CR.pe {ρ ρ' : Nat → List Int32} {γ γ' : cM} {σ : Sg} (h : CR ρ γ σ) (p : Pe ρ γ ρ' γ') : CR ρ' γ' σ := by
  obtain ⟨q1, q2, q3, q4, q5, q6⟩ := h
  exact ⟨q1.pe p, by rw [p.1 88 (by decide)]; exact q2, fun l hl => by rw [p.2.1 90 (by decide) (by decide) (by decide) (by decide)]; exact q3 l hl, fun b hb => by rw [p.2.1 85 (by decide) (by decide) (by decide) (by decide)]; exact q4 b hb, by rw [p.1 91 (by decide)]; exact q5, by rw [p.2.1 18 (by decide) (by decide) (by decide) (by decide)]; exact q6⟩
theorem s_unpack {c : cM} {ρ : Nat → List Int32} {γ : cM} {σ : Sg} {K : Int32 → cM → Prop} (h : Rep c ρ γ) (hC : CR ρ γ σ) (hV : VS σ) (hk : ∀ c' ρ' γ', Rep c' ρ' γ' → CR ρ' γ' (unpX σ).2 → (∀ a, 176 ≤ a → γ' a = γ a) → K (unpX σ).1 c') : f_P_unpack 18 c K := by
  obtain ⟨k0, k2, k3, k4, k106, l106, k171, l171, k172, k174, l173, l175⟩ := rd_k
  have k91 := ps_k2.2.2.2.2.2.1
  have hP := hC.2.2.2.2.1
  have hb := hV.2.2.2.2.2.2.1.1
  have hl := hV.2.2.2.2.2.2.1.2
  unfold unpX at hk
  generalize σ.2.2.2.2 = P at hP hb hl hk
  have c91 : c 91 1 = nI P.length := by rw [(h.1 91 k91).1, hP]
  unfold f_P_unpack
  rw [ps_k.2.1, ps_k.2.2.2.2.1, ps_k.2.2.2.2.2.1, ps_k2.2.1, k0, l106, c91]
  refine ⟨ps_k.1, k91, fun g => ?_, fun g => ?_⟩
  · have g1 : ¬ P.length = 0 := fun q => g (by rw [q]; rfl)
    rw [cif_f g1] at hk
    have peg : ∀ γ', (∀ a, a < 93 ∨ 96 ≤ a → γ' a = γ a) → Pe ρ γ ρ γ' := fun γ' f => ⟨fun _ _ => rfl, fun a ha _ _ _ => f a (by omega), by rw [f 19 (by decide)]⟩
    have J1 : ∀ v c', (¬ v = 0) → (∃ ρ' γ', Rep c' ρ' γ' ∧ Pe ρ γ ρ' γ') → (∀ c' ρ' γ', Rep c' ρ' γ' → CR ρ' γ' σ → (∀ a, 176 ≤ a → γ' a = γ a) → K v c') → K v c' := fun v c' _ ⟨ρ', γ', q1, q2⟩ q3 => q3 c' ρ' γ' q1 (hC.pe q2) (fun a ha => q2.2.1 a (by omega) (by omega) (by omega) (by omega))
    refine s_look h hP hl (fun q => ?_) (fun q1 q2 c4 γ4 h4 f4 => ?_) (fun q1 q2 q3 c4 γ4 h4 f4 => ?_) (fun q1 q2 q3 c4 γ4 h4 f4 => ?_)
    · rw [cif_f q] at hk
      refine ⟨fun y c' => K y c' ∧ ¬ y = 0, fun y c' w => ⟨fun w2 => absurd w2 w.2, fun _ => w.1⟩, fun _ => ⟨hk c ρ γ h hC (fun _ _ => rfl), by decide⟩, fun w => absurd w (by decide)⟩
    · rw [cif_t q1, cif_f q2] at hk
      refine ⟨fun y c' => K y c' ∧ ¬ y = 0, fun y c' w => ⟨fun w2 => absurd w2 w.2, fun _ => w.1⟩, fun _ => ⟨J1 (-4) c4 (by decide) ⟨ρ, γ4, h4, peg γ4 f4⟩ hk, by decide⟩, fun w => absurd w (by decide)⟩
    · rw [cif_t q1, cif_t q2, cif_f q3] at hk
      refine ⟨fun y c' => K y c' ∧ ¬ y = 0, fun y c' w => ⟨fun w2 => absurd w2 w.2, fun _ => w.1⟩, fun _ => ⟨J1 (-2) c4 (by decide) ⟨ρ, γ4, h4, peg γ4 f4⟩ hk, by decide⟩, fun w => absurd w (by decide)⟩
    · rw [cif_t q1, cif_t q2, cif_t q3] at hk
      have p4 := peg γ4 f4
      refine ⟨fun y c' => (y = 0 ∧ ∃ R ρ' γ', rdA P (tn P) = .inr R ∧ Rep c' ρ' γ' ∧ Pe ρ γ ρ' γ' ∧ γ' 105 1 = nI R.length ∧ R.length ≤ 16 ∧ RdR ρ' γ' R) ∨ (ng y ∧ rdA P (tn P) = .inl y ∧ ∃ ρ' γ', Rep c' ρ' γ' ∧ Pe ρ γ ρ' γ'), ?_, fun w => absurd rfl w, fun _ => ⟨ps_k3.2.2.1, ?_⟩⟩
      · rintro y c11 (⟨rfl, R, ρ1, γ1, er, h11, p11, a1, hR16, hR⟩ | ⟨gy, ey, ρ1, γ1, h11, p11⟩)
        · rw [er] at hk
          refine ⟨fun _ => ?_, fun w => absurd rfl w⟩
          have lN : (nmL R).length = R.length := List.length_map _
          refine ⟨fun m y c' => ∃ i ρ' γ', m + i = R.length ∧ y = nI i ∧ Rep c' ρ' γ' ∧ Pe ρ γ ρ' γ' ∧ γ' 105 1 = nI R.length ∧ (∀ (j : Nat) (x : Rd), R[j]? = some x → γ' (107 + 4 * j) 0 = x.2.1 ∧ ρ' (108 + 4 * j) = x.2.2) ∧ ∀ (j : Nat) (x : Rd), j < i → R[j]? = some x → sameN (γ' (107 + 4 * j + 3)) (nmT x).2.2, ⟨R.length, 0, ρ1, γ1, rfl, rfl, h11, p11, a1, fun j x hx => (hR j x hx).2, fun j x hj => absurd hj (Nat.not_lt_zero _)⟩, ?_⟩
          rintro m y c20 ⟨i, ρ2, γ2, hm, rfl, h20, p20, a20, hkc, hnm⟩
          rw [show c20 105 1 = nI R.length by rw [h20.2 105 n105]; exact a20]
          refine ⟨ps_k3.2.2.1, fun g2 => ⟨st_k.2.2.2.2.1, ?_⟩, fun g2 => ?_⟩
          · have g3 : R.length ≤ i := (nI_leI (by omega) (by omega)).mp g2
            have s20 := hC.1.pe p20
            have N20 : RdN ρ2 γ2 (nmL R) := by
              intro j x hx
              unfold nmL at hx
              rw [List.getElem?_map] at hx
              cases ex : R[j]? with
              | none => rw [ex] at hx; cases hx
              | some z =>
                rw [ex] at hx
                cases hx
                have hj := (List.getElem?_eq_some_iff.mp ex).1
                exact ⟨(hkc j z ex).1, by rw [show 107 + 4 * j + 1 = 108 + 4 * j by omega]; exact (hkc j z ex).2, hnm j z (by omega) ex⟩
            have hle := un_le σ.1 (nmL R) 0 (nmL R).length
            rw [Nat.zero_add] at hle
            have hle' : σ.1.length ≤ (un σ.1 (nmL R) (nmL R).length).length := hle
            have htop := un_top σ.1 (nmL R) (nmL R).length
            have hv16 := hV.2.1
            refine s_countNew h20 s20 N20 (by rw [lN]; exact hR16) (by rw [lN]; exact a20) ?_
            rw [show c20 19 1 = nI σ.1.length by rw [h20.2 19 n19]; exact s20.1, nI_add, show σ.1.length + ((un σ.1 (nmL R) (nmL R).length).length - σ.1.length) = (un σ.1 (nmL R) (nmL R).length).length by omega]
            have eX : resX σ R = if (un σ.1 (nmL R) (nmL R).length).length ≤ 16 then (nI ((un σ.1 (nmL R) (nmL R).length).length - σ.1.length), un σ.1 (nmL R) (nmL R).length, σ.2) else (-2, σ) := by unfold resX; rw [lN]
            refine ⟨fun g4 => ?_, fun g4 => ?_⟩
            · have g5 : (un σ.1 (nmL R) (nmL R).length).length ≤ 16 := (nI_leI (b := 16) (by omega) (by decide)).mp g4
              rw [if_pos g5] at eX
              simp only [eX] at hk
              refine s_bringRead h20 s20 N20 (by rw [lN]; exact hR16) (by rw [lN]; exact a20) g5 (fun c' ρ' γ' hR' hS' hP' => ?_)
              have kp : Kp ρ γ ρ' γ' := ⟨(hP'.1 88 (by decide)).trans (p20.1 88 (by decide)), (hP'.1 91 (by decide)).trans (p20.1 91 (by decide)), fun a ha => (hP'.2 a (by omega)).trans (p20.2.1 a (by omega) (by omega) (by omega) (by omega))⟩
              exact hk c' ρ' γ' hR' (hC.bring kp hS') (fun a ha => kp.2.2 a (by omega))
            · have g5 : ¬ (un σ.1 (nmL R) (nmL R).length).length ≤ 16 := fun q => g4 (nI_le (b := 16) q (by decide))
              rw [if_neg g5] at eX
              simp only [eX] at hk
              exact J1 (-2) c20 (by decide) ⟨ρ2, γ2, h20, p20⟩ hk
          · have g3 : i < R.length := by
              rcases Nat.lt_or_ge i R.length with w | w
              · exact w
              · exact absurd (nI_le w (by omega)) g2
            obtain ⟨x, hx⟩ := get_some g3
            obtain ⟨t1, t2⟩ := rd_t i (by omega)
            obtain ⟨x1, x2⟩ := hkc i x hx
            rw [nI_clamp (show i < 2 ^ 31 by omega), t1]
            refine ⟨k106, vp_in_nI (by omega) (by decide), ps_k2.2.2.2.2.2.2, s_giveName h20 t2 (fun c3 S hS h3 => ?_)⟩
            rw [show 107 + 4 * i + 1 = 108 + 4 * i by omega, x1, x2] at hS h3
            generalize hρ : fu ρ2 96 (hdB x.2.1 x.2.2.length) = ρ3 at h3
            generalize hγ : c_row (gs γ2 S) (107 + 4 * i + 3) (nm5 S.1 (γ2 (107 + 4 * i + 3))) = γ3 at h3
            have go : ∀ a, a ≠ 107 + 4 * i + 3 → a ≠ 93 → a ≠ 94 → a ≠ 95 → γ3 a = γ2 a := fun a b1 b2 b3 b4 => by rw [← hγ, c_row_ne b1, gs_ne ⟨b2, b3, b4⟩]
            have ro : ∀ r, r ≠ 96 → ρ3 r = ρ2 r := fun r hr => by rw [← hρ, fu_ne hr]
            refine ⟨m - 1, by omega, i + 1, ρ3, γ3, by omega, (nI_succ i).symm, h3, p20.tr ⟨fun r hr => ro r (by omega), fun a ha _ _ _ => go a (by omega) (by omega) (by omega) (by omega), by rw [go 19 (by omega) (by decide) (by decide) (by decide)]⟩, by rw [go 105 (by omega) (by decide) (by decide) (by decide)]; exact a20, fun j z hz => ?_, fun j z hj hz => ?_⟩
            · have hj := (List.getElem?_eq_some_iff.mp hz).1
              rw [go _ (by omega) (by omega) (by omega) (by omega), ro _ (by omega)]
              exact hkc j z hz
            · by_cases ej : j = i
              · subst ej
                rw [hx] at hz
                cases hz
                intro q hq
                rw [← hγ, c_row_self]
                unfold nm5
                rw [if_pos hq]
                exact hS q hq
              · rw [go _ (by omega) (by omega) (by omega) (by omega)]
                exact hnm j z (by omega) hz
        · rw [ey] at hk
          exact ⟨fun w => absurd w (ng_n gy).1, fun _ => J1 y c11 (ng_n gy).1 ⟨ρ1, γ1, h11, p11⟩ hk⟩
      · refine s_readThings h4 hP hb hl q1.1 q3 (tn_le q3) (fun R er c' ρ' γ' h' f' a' l' r' _ => ?_) (fun w gw ew c' ρ' γ' h' f' => ?_)
        · exact Or.inl ⟨rfl, R, ρ', γ', er, h', p4.tr f'.pe, by rw [l']; exact a', by omega, r'⟩
        · exact Or.inr ⟨gw, ew, ρ', γ', h', p4.tr f'.pe⟩
  · have g1 : P.length = 0 := (nI_eq (b := 0) (by omega) (by decide)).mp g
    rw [cif_t g1] at hk
    exact hk c ρ γ h hC (fun _ _ => rfl)
theorem nmL_V {R : List Rd} {e : Nat} (h : ∀ x ∈ R, VR e x) : ∀ x ∈ nmL R, VT x := by
  intro x hx
  unfold nmL at hx
  obtain ⟨z, hz, rfl⟩ := List.mem_map.mp hx
  exact ⟨(h z hz).1, (h z hz).2.1, (h z hz).2.2.1⟩
theorem un_V {σ : Sg} {L : List Th} (h : VS σ) (hL : ∀ x ∈ L, VT x) : ∀ i, (un σ.1 L i).length ≤ 16 → VS (un σ.1 L i, σ.2)
  | 0, _ => h
  | i + 1, hi => by
    have h1 := un_le σ.1 L i 1
    have ih := un_V h hL i (by omega)
    cases e : L[i]? with
    | none => rw [un_x e]; exact ih
    | some x =>
      have := ih.bring (hL x (List.mem_of_getElem? e))
      cases e2 : fnd (un σ.1 L i) x.2.2 with
      | some j => rw [un_s e e2]; exact ih
      | none =>
        rw [un_n e e2] at hi ⊢
        rw [List.length_append, List.length_singleton] at hi
        rw [bringX_n e2 (show (un σ.1 L i).length < 16 by omega)] at this
        exact this
theorem unpX_V {σ : Sg} (h : VS σ) : VS (unpX σ).2 := by
  unfold unpX
  by_cases g1 : σ.2.2.2.2.length = 0
  · rw [cif_t g1]; exact h
  · rw [cif_f g1]
    by_cases g2 : bgs σ.2.2.2.2
    · rw [cif_t g2]
      by_cases g3 : sld σ.2.2.2.2
      · rw [cif_t g3]
        by_cases g4 : tn σ.2.2.2.2 ≤ 16
        · rw [cif_t g4]
          cases e : rdA σ.2.2.2.2 (tn σ.2.2.2.2) with
          | inl w => exact h
          | inr R =>
            have hb := h.2.2.2.2.2.2.1.1
            have hV : ∀ x ∈ R, VR (σ.2.2.2.2.length - 20) x := by
              unfold rdA at e
              cases e1 : rdL σ.2.2.2.2 (σ.2.2.2.2.length - 20) (tn σ.2.2.2.2) with
              | inl w => rw [e1] at e; cases e
              | inr y =>
                obtain ⟨R0, p0⟩ := y
                rw [e1, rsb_r] at e
                have g32 := g2.1
                have := (rdL_ok hb (by omega) (by omega) _ R0 p0 e1).2.2.1
                by_cases g5 : p0 < σ.2.2.2.2.length - 20
                · rw [if_pos g5] at e; cases e
                · rw [if_neg g5] at e; cases e; exact this
            show VS (resX σ R).2
            unfold resX
            by_cases g6 : (un σ.1 (nmL R) R.length).length ≤ 16
            · rw [if_pos g6]; exact un_V h (nmL_V hV) _ g6
            · rw [if_neg g6]; exact h
        · rw [cif_f g4]; exact h
      · rw [cif_f g3]; exact h
    · rw [cif_f g2]; exact h
