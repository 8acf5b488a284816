theorem st_k : rf 19 0 = 20 ∧ rf 19 2 = 85 ∧ rf 19 3 = 86 ∧ rf 19 4 = 87 ∧ kd 19 = 4 ∧ kd 20 = 102 ∧ ln 20 = 16 ∧ kd 85 = 100 ∧ ln 85 = 4 := by decide +kernel
theorem st_k2 : kd 86 = 101 ∧ ln 86 = 16 ∧ kd 87 = 100 ∧ ln 87 = 16 := by decide +kernel
theorem st_t : ∀ i, i < 16 → rf 20 i = 21 + 4 * i ∧ kd (21 + 4 * i) = 3 := by decide +kernel
theorem n19 : ¬ rc 19 := nrc (by decide +kernel)
theorem n85 : ¬ rc 85 := nrc (by decide +kernel)
theorem n86 : ¬ rc 86 := nrc (by decide +kernel)
theorem n87 : ¬ rc 87 := nrc (by decide +kernel)
theorem s_has {c : cM} {ρ : Nat → List Int32} {γ : cM} {n : Nat} {x : Int32} {K : Int32 → cM → Prop} (h : Rep c ρ γ) (hn : γ 19 1 = nI n) (hn2 : n < 2 ^ 31) (h1 : ∀ j, j < n → x = nI j → K 1 c) (h0 : (∀ j, j < n → x ≠ nI j) → K 0 c) : f_Store_has 19 x c K := by
  unfold f_Store_has
  rw [h.2 19 n19, hn]
  refine ⟨fun g => h0 (fun j hj e => absurd g (by rw [e]; exact nI_pos (by omega))), fun g => ⟨st_k.2.2.2.2.1, fun g2 => h0 (fun j hj e => ?_), fun g2 => ?_⟩⟩
  · rw [e] at g2
    exact nI_ge hj hn2 g2
  · obtain ⟨j, hj, rfl⟩ := nI_of g
    have h3 : j < n := by
      rcases Nat.lt_or_ge j n with q | q
      · exact q
      · exact absurd (nI_le q hj) g2
    exact h1 j h3 rfl
theorem s_kindOf {c : cM} {ρ : Nat → List Int32} {γ : cM} {n : Nat} {x : Int32} {K : Int32 → cM → Prop} (h : Rep c ρ γ) (hn : γ 19 1 = nI n) (hn2 : n ≤ 16) (h1 : ∀ j, j < n → x = nI j → K (γ (21 + 4 * j) 0) c) (h0 : (∀ j, j < n → x ≠ nI j) → K (-1) c) : f_Store_kindOf 19 x c K := by
  obtain ⟨r0, r2, r3, r4, k19, k20, l20, k85, l85⟩ := st_k
  unfold f_Store_kindOf
  rw [r0, l20]
  refine ⟨k19, s_has h hn (by omega) (fun j hj e => ⟨fun g => absurd g (by decide), fun _ => ?_⟩) (fun g => ⟨fun _ => h0 g, fun g2 => absurd rfl g2⟩)⟩
  obtain ⟨t1, t2⟩ := st_t j (by omega)
  rw [e, nI_clamp (by omega), t1, h.2 _ (thing_n t2).1]
  exact ⟨k20, vp_in_nI (by omega) (by decide), t2, h1 j hj e⟩
abbrev Th : Type := Int32 × List Int32 × (Nat → Int32)
def RT (ρ : Nat → List Int32) (γ : cM) (t : Nat) (x : Th) : Prop := γ t 0 = x.1 ∧ ρ (t + 1) = x.2.1 ∧ sameN (γ (t + 3)) x.2.2
def StR (ρ : Nat → List Int32) (γ : cM) (ths : List Th) : Prop := γ 19 1 = nI ths.length ∧ ths.length ≤ 16 ∧ ∀ (i : Nat) (x : Th), ths[i]? = some x → RT ρ γ (21 + 4 * i) x
theorem sameN.symm {f g : Nat → Int32} (h : sameN f g) : sameN g f := fun k hk => (h k hk).symm
theorem sameN.trans {f g w : Nat → Int32} (h : sameN f g) (h2 : sameN g w) : sameN f w := fun k hk => (h k hk).trans (h2 k hk)
theorem sameN.rf (f : Nat → Int32) : sameN f f := fun _ _ => rfl
def sameB (f g : Nat → Int32) : Bool := decide (f 0 = g 0) && (decide (f 1 = g 1) && (decide (f 2 = g 2) && (decide (f 3 = g 3) && decide (f 4 = g 4))))
theorem sameB_t {f g : Nat → Int32} : sameB f g = true ↔ sameN f g := by
  unfold sameB
  rw [Bool.and_eq_true, Bool.and_eq_true, Bool.and_eq_true, Bool.and_eq_true, decide_eq_true_iff, decide_eq_true_iff, decide_eq_true_iff, decide_eq_true_iff, decide_eq_true_iff]
  constructor
  · rintro ⟨h0, h1, h2, h3, h4⟩ k hk
    rcases k with _ | _ | _ | _ | _ | k
    · exact h0
    · exact h1
    · exact h2
    · exact h3
    · exact h4
    · omega
  · intro h
    exact ⟨h 0 (by decide), h 1 (by decide), h 2 (by decide), h 3 (by decide), h 4 (by decide)⟩
theorem sameB_f {f g : Nat → Int32} : sameB f g = false ↔ ¬ sameN f g := by
  rw [← sameB_t]
  cases sameB f g <;> simp
def fnd (ths : List Th) (nm : Nat → Int32) : Option Nat := ths.findIdx? (fun y => sameB y.2.2 nm)
theorem fnd_some {ths : List Th} {nm : Nat → Int32} {j : Nat} (x : Th) (hx : ths[j]? = some x) (hs : sameN x.2.2 nm) (hb : ∀ (i : Nat) (y : Th), i < j → ths[i]? = some y → ¬ sameN y.2.2 nm) : fnd ths nm = some j := by
  unfold fnd
  obtain ⟨hl, he⟩ := List.getElem?_eq_some_iff.mp hx
  refine List.findIdx?_eq_some_iff_getElem.mpr ⟨hl, by rw [he]; exact sameB_t.mpr hs, fun i hi => ?_⟩
  have h1 := hb i ths[i] hi (List.getElem?_eq_getElem (by omega))
  rw [sameB_f.mpr h1]
  simp
theorem fnd_none {ths : List Th} {nm : Nat → Int32} (hb : ∀ (i : Nat) (y : Th), ths[i]? = some y → ¬ sameN y.2.2 nm) : fnd ths nm = none := by
  unfold fnd
  refine List.findIdx?_eq_none_iff.mpr (fun y hy => ?_)
  obtain ⟨i, hi⟩ := List.getElem?_of_mem hy
  exact sameB_f.mpr (hb i y hi)
theorem s_numberOf {c : cM} {ρ : Nat → List Int32} {γ : cM} {ths : List Th} {u : Nat} {K : Int32 → cM → Prop} (h : Rep c ρ γ) (hs : StR ρ γ ths) (hu : kd u = 3) (hk : K ((fnd ths (γ (u + 3))).elim (-1) nI) c) : f_Store_numberOf 19 u c K := by
  obtain ⟨r0, r2, r3, r4, k19, k20, l20, k85, l85⟩ := st_k
  obtain ⟨s1, s2, s3⟩ := hs
  unfold f_Store_numberOf
  rw [r0, l20]
  refine ⟨fun m y c' => ∃ j, m = ths.length - j ∧ j ≤ ths.length ∧ y = nI j ∧ c' = c ∧ ∀ i z, i < j → ths[i]? = some z → ¬ sameN z.2.2 (γ (u + 3)), ⟨ths.length, 0, rfl, Nat.zero_le _, rfl, rfl, fun i z hi => absurd hi (Nat.not_lt_zero _)⟩, ?_⟩
  rintro m y c' ⟨j, rfl, hj, rfl, rfl, hno⟩
  rw [h.2 19 n19, s1]
  refine ⟨k19, fun g => ?_, fun g => ?_⟩
  · have e : ths.length ≤ j := (nI_leI (by omega) (by omega)).mp g
    rw [fnd_none (fun i z hz => hno i z (by have := (List.getElem?_eq_some_iff.mp hz).1; omega) hz)] at hk
    exact hk
  · have e : j < ths.length := by
      rcases Nat.lt_or_ge j ths.length with q | q
      · exact q
      · exact absurd (nI_le q (by omega)) g
    obtain ⟨t1, t2⟩ := st_t j (by omega)
    have hx := List.getElem?_eq_getElem e
    have rt := s3 j ths[j] hx
    rw [nI_clamp (by omega), t1]
    refine ⟨k20, vp_in_nI (by omega) (by decide), t2, s_isNamedAs h t2 hu ⟨fun g2 => ⟨ths.length - (j + 1), by omega, j + 1, rfl, by omega, (nI_succ j).symm, rfl, fun i z hi hz => ?_⟩, fun g2 => ?_⟩⟩
    · by_cases ei : i = j
      · subst ei
        rw [hx] at hz
        cases hz
        exact fun q => pI_eq0.mp g2 (rt.2.2.trans q)
      · exact hno i z (by omega) hz
    · have h3 : sameN (γ (21 + 4 * j + 3)) (γ (u + 3)) := Classical.byContradiction (fun q => g2 (pI_f q))
      rw [fnd_some ths[j] hx (rt.2.2.symm.trans h3) hno] at hk
      exact hk
/-- what of rows and cells the class keeps between calls, and what is not its own -/
def Pe (ρ : Nat → List Int32) (γ : cM) (ρ' : Nat → List Int32) (γ' : cM) : Prop := (∀ r, r < 93 → ρ' r = ρ r) ∧ (∀ a, a < 93 ∨ 176 ≤ a → a ≠ 19 → a ≠ 86 → a ≠ 87 → γ' a = γ a) ∧ γ' 19 1 = γ 19 1
theorem Pe.rf (ρ : Nat → List Int32) (γ : cM) : Pe ρ γ ρ γ := ⟨fun _ _ => rfl, fun _ _ _ _ _ => rfl, rfl⟩
theorem Pe.tr {ρ ρ' ρ'' : Nat → List Int32} {γ γ' γ'' : cM} (h : Pe ρ γ ρ' γ') (g : Pe ρ' γ' ρ'' γ'') : Pe ρ γ ρ'' γ'' :=
  ⟨fun r hr => (g.1 r hr).trans (h.1 r hr), fun a ha h1 h2 h3 => (g.2.1 a ha h1 h2 h3).trans (h.2.1 a ha h1 h2 h3), g.2.2.trans h.2.2⟩
theorem StR.pe {ρ ρ' : Nat → List Int32} {γ γ' : cM} {ths : List Th} (hs : StR ρ γ ths) (h : Pe ρ γ ρ' γ') : StR ρ' γ' ths := by
  obtain ⟨s1, s2, s3⟩ := hs
  refine ⟨h.2.2.trans s1, s2, fun i x hx => ?_⟩
  have hi := (List.getElem?_eq_some_iff.mp hx).1
  obtain ⟨t1, t2, t3⟩ := s3 i x hx
  refine ⟨?_, ?_, ?_⟩
  · rw [h.2.1 (21 + 4 * i) (by omega) (by omega) (by omega) (by omega)]; exact t1
  · rw [h.1 _ (by omega)]; exact t2
  · rw [h.2.1 (21 + 4 * i + 3) (by omega) (by omega) (by omega) (by omega)]; exact t3
/-- all but the store's own things and their number is as before -/
def Pb (ρ : Nat → List Int32) (γ : cM) (ρ' : Nat → List Int32) (γ' : cM) : Prop := (∀ r, 85 ≤ r → ρ' r = ρ r) ∧ ∀ a, a < 19 ∨ 85 ≤ a → γ' a = γ a
theorem s_bring {c : cM} {ρ : Nat → List Int32} {γ : cM} {ths : List Th} {u : Nat} {x : Th} {K : Int32 → cM → Prop} (h : Rep c ρ γ) (hs : StR ρ γ ths) (hu : kd u = 3) (hu2 : 93 ≤ u) (hx : RT ρ γ u x) (h1 : ∀ j, fnd ths (γ (u + 3)) = some j → K (nI j) c) (h2 : fnd ths (γ (u + 3)) = none → ¬ ths.length < 16 → K (-2) c) (h3 : fnd ths (γ (u + 3)) = none → ths.length < 16 → ∀ c' ρ' γ', Rep c' ρ' γ' → StR ρ' γ' (ths ++ [x]) → Pb ρ γ ρ' γ' → K (nI ths.length) c') : f_Store_bring 19 u c K := by
  obtain ⟨r0, r2, r3, r4, k19, k20, l20, k85, l85⟩ := st_k
  have hs' := hs
  obtain ⟨s1, s2, s3⟩ := hs
  unfold f_Store_bring
  rw [r0, l20]
  refine ⟨k19, s_numberOf h hs' hu ?_⟩
  cases hf : fnd ths (γ (u + 3)) with
  | some j =>
    have hj : j < ths.length := by
      unfold fnd at hf
      exact (List.findIdx?_eq_some_iff_getElem.mp hf).1
    refine ⟨fun g => ?_, fun _ => h1 j hf⟩
    have : nI j < 0 := by rw [show nI j = (-1 : Int32) from g]; decide
    exact absurd this (nI_pos (by omega))
  | none =>
    rw [h.2 19 n19, s1]
    refine ⟨fun _ => ⟨fun g => ?_, fun g => h2 hf (fun q => g (nI_lt q (by decide)))⟩, fun g => absurd rfl g⟩
    have hl : ths.length < 16 := (nI_ltI (b := 16) (by omega) (by decide)).mp g
    obtain ⟨t1, t2⟩ := st_t ths.length hl
    rw [nI_clamp (by omega), t1]
    refine ⟨k20, vp_in_nI hl (by decide), t2, s_become h t2 hu (by omega) (fun c9 h9 c10 e10 => ?_)⟩
    have g19 : c9 19 1 = nI ths.length := by rw [h9.2 19 n19, c_row_ne (by omega), c_up_ne (by omega)]; exact s1
    have u10 := h9.up n19 e10
    have v10 : c10 19 1 = nI (ths.length + 1) := by rw [e10, c_up_self, g19, nI_succ]
    rw [v10, nI_pred]
    refine h3 hf hl c10 _ _ u10 ⟨?_, ?_, ?_⟩ ⟨?_, ?_⟩
    · rw [c_up_self, g19, List.length_append, List.length_singleton, nI_succ]
    · rw [List.length_append, List.length_singleton]; omega
    · intro i y hy
      have hi := (List.getElem?_eq_some_iff.mp hy).1
      rw [List.length_append, List.length_singleton] at hi
      by_cases ei : i = ths.length
      · subst ei
        rw [List.getElem?_append_right (Nat.le_refl _), Nat.sub_self] at hy
        cases hy
        obtain ⟨x1, x2, x3⟩ := hx
        refine ⟨?_, ?_, ?_⟩
        · rw [c_up_ne (by omega), c_row_ne (by omega), c_up_self]; exact x1
        · rw [fu_self]; exact x2
        · rw [c_up_ne (by omega), c_row_self]
          intro k hk
          unfold nm5
          rw [if_pos hk]
          exact x3 k hk
      · rw [List.getElem?_append_left (by omega)] at hy
        obtain ⟨y1, y2, y3⟩ := s3 i y hy
        refine ⟨?_, ?_, ?_⟩
        · rw [c_up_ne (by omega), c_row_ne (by omega), c_up_ne (by omega)]; exact y1
        · rw [fu_ne (by omega)]; exact y2
        · rw [c_up_ne (by omega), c_row_ne (by omega), c_up_ne (by omega)]; exact y3
    · intro r hr
      rw [fu_ne (by omega)]
    · intro a ha
      rw [c_up_ne (by omega), c_row_ne (by omega), c_up_ne (by omega)]
