noncomputable def kpL (ths : List Th) (R : Nat → Prop) : Nat → List Th
  | 0 => []
  | n + 1 => kpL ths R n ++ @ite _ (R n) (Classical.propDecidable _) (ths[n]?).toList []
noncomputable def rk (ths : List Th) (R : Nat → Prop) (i : Nat) : Nat := (kpL ths R i).length
theorem kpL_t {ths : List Th} {R : Nat → Prop} {n : Nat} {x : Th} (h : R n) (hx : ths[n]? = some x) : kpL ths R (n + 1) = kpL ths R n ++ [x] := by
  rw [kpL, if_pos h, hx]
  rfl
theorem kpL_f {ths : List Th} {R : Nat → Prop} {n : Nat} (h : ¬ R n) : kpL ths R (n + 1) = kpL ths R n := by
  rw [kpL, if_neg h, List.append_nil]
theorem rk_t {ths : List Th} {R : Nat → Prop} {n : Nat} {x : Th} (h : R n) (hx : ths[n]? = some x) : rk ths R (n + 1) = rk ths R n + 1 := by
  unfold rk
  rw [kpL_t h hx, List.length_append, List.length_singleton]
theorem rk_f {ths : List Th} {R : Nat → Prop} {n : Nat} (h : ¬ R n) : rk ths R (n + 1) = rk ths R n := by
  unfold rk
  rw [kpL_f h]
theorem rk_s (ths : List Th) (R : Nat → Prop) (n : Nat) : rk ths R n ≤ rk ths R (n + 1) ∧ rk ths R (n + 1) ≤ rk ths R n + 1 := by
  unfold rk
  rw [kpL, List.length_append]
  split
  · cases ths[n]? with
    | none => exact ⟨Nat.le_add_right _ _, by show _ + 0 ≤ _; omega⟩
    | some x => exact ⟨Nat.le_add_right _ _, Nat.le_refl _⟩
  · exact ⟨Nat.le_add_right _ _, by show _ + 0 ≤ _; omega⟩
theorem rk_le (ths : List Th) (R : Nat → Prop) : ∀ n, rk ths R n ≤ n
  | 0 => Nat.le_refl _
  | n + 1 => by have := rk_le ths R n; have := rk_s ths R n; omega
theorem rk_mono (ths : List Th) (R : Nat → Prop) (i : Nat) : ∀ k, rk ths R i ≤ rk ths R (i + k)
  | 0 => Nat.le_refl _
  | k + 1 => by have := rk_mono ths R i k; have := rk_s ths R (i + k); rw [← Nat.add_assoc]; omega
theorem rk_lt {ths : List Th} {R : Nat → Prop} {q i : Nat} (h : R q) (hq : q < ths.length) (hi : q < i) : rk ths R q < rk ths R i := by
  obtain ⟨x, hx⟩ := get_some hq
  have h1 := rk_t h hx
  have h2 := rk_mono ths R (q + 1) (i - (q + 1))
  rw [show q + 1 + (i - (q + 1)) = i by omega] at h2
  omega
theorem kpL_get {ths : List Th} {R : Nat → Prop} : ∀ (i j : Nat) (x : Th), (kpL ths R i)[j]? = some x → ∃ q, q < i ∧ ths[q]? = some x ∧ R q ∧ rk ths R q = j
  | 0, j, x, h => by cases h
  | i + 1, j, x, h => by
    by_cases hR : R i
    · cases hx : ths[i]? with
      | none =>
        rw [kpL, if_pos hR, hx] at h
        have h' : (kpL ths R i ++ [])[j]? = some x := h
        rw [List.append_nil] at h'
        obtain ⟨q, q1, q2⟩ := kpL_get i j x h'
        exact ⟨q, by omega, q2⟩
      | some y =>
        rw [kpL_t hR hx] at h
        have hl := (List.getElem?_eq_some_iff.mp h).1
        rw [List.length_append, List.length_singleton] at hl
        by_cases e : j = (kpL ths R i).length
        · subst e
          rw [List.getElem?_append_right (Nat.le_refl _), Nat.sub_self] at h
          cases h
          exact ⟨i, by omega, hx, hR, rfl⟩
        · rw [List.getElem?_append_left (by omega)] at h
          obtain ⟨q, q1, q2⟩ := kpL_get i j x h
          exact ⟨q, by omega, q2⟩
    · rw [kpL_f hR] at h
      obtain ⟨q, q1, q2⟩ := kpL_get i j x h
      exact ⟨q, by omega, q2⟩
/-- where a branch stands once the things below i have moved -/
noncomputable def hm (ths : List Th) (R : Nat → Prop) (d : Nat → Int32) (i : Nat) (b : Nat) : Int32 := if d b < 0 then d b else if (d b).toNatClampNeg < i then nI (rk ths R (d b).toNatClampNeg) else d b
theorem hm_0 (ths : List Th) (R : Nat → Prop) (d : Nat → Int32) (b : Nat) : hm ths R d 0 b = d b := by
  unfold hm
  split
  · rfl
  · rw [if_neg (Nat.not_lt_zero _)]
theorem hm_ne {ths : List Th} {R : Nat → Prop} {d : Nat → Int32} {i b : Nat} (h : ¬ d b = nI i) (hi : i < 2 ^ 31) : hm ths R d (i + 1) b = hm ths R d i b := by
  unfold hm
  split
  · rfl
  · rename_i g
    obtain ⟨j, hj, e⟩ := nI_of g
    rw [e] at h ⊢
    rw [nI_clamp hj]
    have : j ≠ i := fun q => h (by rw [q])
    by_cases w : j < i
    · rw [if_pos w, if_pos (by omega)]
    · rw [if_neg w, if_neg (by omega)]
theorem hm_eq {ths : List Th} {R : Nat → Prop} {d : Nat → Int32} {i b : Nat} (h : d b = nI i) (hi : i < 2 ^ 31) : hm ths R d (i + 1) b = nI (rk ths R i) ∧ hm ths R d i b = nI i := by
  unfold hm
  rw [h, nI_clamp hi, if_neg (nI_pos hi), if_neg (nI_pos hi), if_pos (Nat.lt_succ_self _), if_neg (Nat.lt_irrefl _)]
  exact ⟨rfl, rfl⟩
/-- before i has moved only what stands at i tells i -/
theorem hm_at {ths : List Th} {R : Nat → Prop} {d : Nat → Int32} {i b : Nat} (hi : i < 2 ^ 31) (h : hm ths R d i b = nI i) : d b = nI i := by
  unfold hm at h
  split at h
  · exact h
  · rename_i g
    obtain ⟨j, hj, e⟩ := nI_of g
    rw [e] at h ⊢
    rw [nI_clamp hj] at h
    split at h
    · rename_i w
      have h1 := rk_le ths R j
      have := (nI_eq (by omega) hi).mp h
      omega
    · exact h
noncomputable def swX (σ : Sg) : Int32 × Sg := (nI (σ.1.length - rk σ.1 (Rch σ.1 σ.2.2.2.1) σ.1.length), kpL σ.1 (Rch σ.1 σ.2.2.2.1) σ.1.length, σ.2.1, noD, hm σ.1 (Rch σ.1 σ.2.2.2.1) σ.2.2.2.1 σ.1.length, σ.2.2.2.2)
theorem swX_V {σ : Sg} (h : VS σ) : VS (swX σ).2 := by
  obtain ⟨v1, v2, v3, v4, v5, v6, v7, v8⟩ := h
  have hle := rk_le σ.1 (Rch σ.1 σ.2.2.2.1) σ.1.length
  refine ⟨fun x hx => ?_, ?_, fun i j x y hx hy hs => ?_, v4, fun l hl => Or.inl rfl, fun b hb => ?_, v7, ?_⟩
  · obtain ⟨j, hj⟩ := List.getElem?_of_mem hx
    obtain ⟨q, q1, q2, q3⟩ := kpL_get _ j x hj
    exact v1 x (List.mem_of_getElem? q2)
  · show rk σ.1 _ _ ≤ 16
    omega
  · obtain ⟨q, q1, q2, q3, q4⟩ := kpL_get _ i x hx
    obtain ⟨p, p1, p2, p3, p4⟩ := kpL_get _ j y hy
    have := v3 q p x y q2 p2 hs
    rw [← q4, ← p4, this]
  · show hm _ _ _ _ b = -1 ∨ _
    rcases v6 b hb with w | ⟨j, j1, j2⟩
    · left
      unfold hm
      rw [w]
      exact if_pos (by decide)
    · right
      refine ⟨rk σ.1 (Rch σ.1 σ.2.2.2.1) j, rk_lt (Rch.base j1 ⟨b, hb, j2⟩) j1 j1, ?_⟩
      show hm _ _ _ _ b = _
      unfold hm
      rw [j2, nI_clamp (by omega), if_neg (nI_pos (by omega)), if_pos j1]
  · show cntD noD ≤ 4
    rw [cnt_noD]
    omega
theorem s_moveDown {c : cM} {ρ : Nat → List Int32} {γ : cM} {i k : Nat} {K : cM → Prop} (h : Rep c ρ γ) (hi : i < 16) (hki : k ≤ i) (h0 : k = i → K c) (hk : k < i → ∀ c' γ', Rep c' (fu ρ (21 + 4 * k + 1) (ρ (21 + 4 * i + 1))) γ' → γ' (21 + 4 * k) 0 = γ (21 + 4 * i) 0 → sameN (γ' (21 + 4 * k + 3)) (γ (21 + 4 * i + 3)) → (∀ a, a ≠ 21 + 4 * k → a ≠ 21 + 4 * k + 3 → a ≠ 85 → γ' a = γ a) → (∀ b, b < 4 → γ' 85 b = if γ 85 b = nI i then nI k else γ 85 b) → K c') : f_Store_moveDown 19 (nI i) (nI k) c K := by
  obtain ⟨r0, r2, r3, r4, k19, k20, l20, k85, l85⟩ := st_k
  obtain ⟨t1, t2⟩ := st_t k (by omega)
  obtain ⟨u1, u2⟩ := st_t i hi
  unfold f_Store_moveDown
  rw [r0, r2, l20, l85, nI_clamp (show i < 2 ^ 31 by omega), nI_clamp (show k < 2 ^ 31 by omega), t1, u1]
  refine ⟨fun g => ?_, fun g => h0 ((nI_eq (by omega) (by omega)).mp g).symm⟩
  have hlt : k < i := by
    rcases Nat.lt_or_ge k i with w | w
    · exact w
    · exact absurd (by rw [show k = i by omega]) g
  refine ⟨k19, k20, vp_in_nI (by omega) (by decide), vp_in_nI (by omega) (by decide), t2, s_become h t2 u2 (by omega) (fun c7 h7 => ?_)⟩
  generalize hγ7 : c_row (c_up γ (21 + 4 * k) 0 (γ (21 + 4 * i) 0)) (21 + 4 * k + 3) (nm5 (γ (21 + 4 * i + 3)) (γ (21 + 4 * k + 3))) = γ7 at h7
  have e85 : γ7 85 = γ 85 := by rw [← hγ7, c_row_ne (by omega), c_up_ne (by omega)]
  refine ⟨fun m y c' => ∃ b γ', m = 4 - b ∧ b ≤ 4 ∧ y = nI b ∧ Rep c' (fu ρ (21 + 4 * k + 1) (ρ (21 + 4 * i + 1))) γ' ∧ (∀ a, a ≠ 85 → γ' a = γ7 a) ∧ (∀ b', b' < b → γ' 85 b' = if γ 85 b' = nI i then nI k else γ 85 b') ∧ ∀ b', b ≤ b' → γ' 85 b' = γ 85 b', ⟨4, 0, γ7, rfl, Nat.zero_le _, rfl, h7, fun _ _ => rfl, fun b' hb' => absurd hb' (Nat.not_lt_zero _), fun b' _ => by rw [e85]⟩, ?_⟩
  rintro m y c13 ⟨b, γ13, rfl, hb, rfl, h13, f13, p13, q13⟩
  refine ⟨fun g4 => ?_, fun g4 => ?_⟩
  · have eb : b = 4 := by
      have := (nI_leI (a := 4) (by omega) (by omega)).mp g4
      omega
    subst eb
    refine hk hlt c13 γ13 h13 ?_ ?_ (fun a a1 a2 a3 => ?_) p13
    · rw [f13 _ (by omega), ← hγ7, c_row_ne (by omega), c_up_self]
    · rw [f13 _ (by omega), ← hγ7, c_row_self]
      intro q hq
      unfold nm5
      rw [if_pos hq]
    · rw [f13 a a3, ← hγ7, c_row_ne a2, c_up_ne a1]
  · have hb4 : b < 4 := by
      rcases Nat.lt_or_ge b 4 with w | w
      · exact w
      · exact absurd (nI_le (a := 4) w (by omega)) g4
    rw [nI_clamp (show b < 2 ^ 31 by omega), h13.2 85 n85, q13 b (Nat.le_refl _)]
    refine ⟨k85, vp_in_nI hb4 (by decide), fun c' => ∃ γ', Rep c' (fu ρ (21 + 4 * k + 1) (ρ (21 + 4 * i + 1))) γ' ∧ (∀ a, a ≠ 85 → γ' a = γ7 a) ∧ (∀ b', b' < b + 1 → γ' 85 b' = if γ 85 b' = nI i then nI k else γ 85 b') ∧ ∀ b', b + 1 ≤ b' → γ' 85 b' = γ 85 b', fun c' w => ?_, fun g5 => ⟨γ13, h13, f13, fun b' hb' => ?_, fun b' hb' => q13 b' (by omega)⟩, fun g5 c22 e22 => ⟨_, h13.up n85 e22, fun a ha => by rw [c_up_ne ha]; exact f13 a ha, fun b' hb' => ?_, fun b' hb' => ?_⟩⟩
    · obtain ⟨γ', w1, w2, w3, w4⟩ := w
      exact ⟨4 - (b + 1), by omega, b + 1, γ', rfl, by omega, (nI_succ b).symm, w1, w2, w3, w4⟩
    · by_cases e : b' = b
      · rw [e, if_neg g5]; exact q13 b (Nat.le_refl _)
      · exact p13 b' (by omega)
    · by_cases e : b' = b
      · rw [e, c_up_self, if_pos g5]
      · rw [c_up_at e]; exact p13 b' (by omega)
    · rw [c_up_at (by omega)]; exact q13 b' (by omega)
def Swc (ths : List Th) (R : Nat → Prop) (d : Nat → Int32) (i : Nat) (ρ0 : Nat → List Int32) (γ0 : cM) (ρ : Nat → List Int32) (γ : cM) : Prop :=
  (∀ (j : Nat) (x : Th), (kpL ths R i)[j]? = some x → RT ρ γ (21 + 4 * j) x) ∧ (∀ (j : Nat) (x : Th), i ≤ j → ths[j]? = some x → RT ρ γ (21 + 4 * j) x) ∧ (∀ b, b < 4 → γ 85 b = hm ths R d i b) ∧ (∀ r, 85 ≤ r → ρ r = ρ0 r) ∧ ∀ a, a ≤ 19 ∨ 86 ≤ a → γ a = γ0 a
theorem s_drop {c : cM} {ρ : Nat → List Int32} {γ : cM} {ths : List Th} {d : Nat → Int32} {K : Int32 → cM → Prop} (h : Rep c ρ γ) (hs : StR ρ γ ths) (hd : ∀ b, b < 4 → γ 85 b = d b) (hd2 : ∀ b, b < 4 → d b = -1 ∨ ∃ j, j < ths.length ∧ d b = nI j) (hk : ∀ c' ρ' γ', Rep c' ρ' γ' → StR ρ' γ' (kpL ths (Rch ths d) ths.length) → (∀ b, b < 4 → γ' 85 b = hm ths (Rch ths d) d ths.length b) → (∀ r, 85 ≤ r → ρ' r = ρ r) → (∀ a, a < 19 ∨ 88 ≤ a → γ' a = γ a) → K (nI (ths.length - rk ths (Rch ths d) ths.length)) c') : f_Store_dropUnreached 19 c K := by
  have hn := hs.2.1
  unfold f_Store_dropUnreached
  rw [st_k.2.2.1, st_k2.2.1]
  refine ⟨st_k.2.2.2.2.1, s_markReached h hs hd (fun c2 γ2 h2 f2 z2 => ?_)⟩
  have s2 := hs.pe (f2.pe (ρ := ρ))
  generalize hR : Rch ths d = R at hk z2
  have W2 : Swc ths R d 0 ρ γ2 ρ γ2 := by
    refine ⟨fun j x hx => ?_, fun j x _ hx => s2.2.2 j x hx, fun b hb => ?_, fun _ _ => rfl, fun _ _ => rfl⟩
    · have : ([] : List Th)[j]? = some x := hx
      cases this
    · rw [f2.1 85 (by decide) (by decide) (by decide), hd b hb, hm_0]
  refine ⟨fun m y7 y8 c' => ∃ i ρ' γ', m = ths.length - i ∧ i ≤ ths.length ∧ y8 = nI i ∧ y7 = nI (rk ths R i) ∧ Rep c' ρ' γ' ∧ Swc ths R d i ρ γ2 ρ' γ', ⟨_, 0, ρ, γ2, rfl, Nat.zero_le _, rfl, rfl, h2, W2⟩, ?_⟩
  rintro m y7 y8 c9 ⟨i, ρ9, γ9, rfl, hi, rfl, rfl, h9, w1, w2, w3, w4, w5⟩
  have hri := rk_le ths R i
  have v9 : c9 19 1 = nI ths.length := by rw [h9.2 19 n19, w5 19 (by omega)]; exact s2.1
  rw [v9]
  refine ⟨fun g c11 e11 => ?_, fun g => ⟨st_k2.1, ?_⟩⟩
  · have ei : i = ths.length := by
      have := (nI_leI (by omega) (by omega)).mp g
      omega
    subst ei
    have h11 := h9.up n19 e11
    rw [pk_sub hri]
    refine hk c11 ρ9 _ h11 ⟨c_up_self, by show rk ths R ths.length ≤ 16; omega, fun j x hx => ?_⟩ (fun b hb => by rw [c_up_ne (by decide)]; exact w3 b hb) w4 (fun a ha => ?_)
    · obtain ⟨t1, t2, t3⟩ := w1 j x hx
      exact ⟨by rw [c_up_ne (by omega)]; exact t1, t2, by rw [c_up_ne (by omega)]; exact t3⟩
    · rw [c_up_ne (by omega), w5 a (by omega)]
      exact f2.1 a (by omega) (by omega) (by omega)
  · have hil : i < ths.length := by
      rcases Nat.lt_or_ge i ths.length with w | w
      · exact w
      · exact absurd (nI_le w (by omega)) g
    obtain ⟨x, hx⟩ := get_some hil
    rw [nI_clamp (show i < 2 ^ 31 by omega), h9.2 86 n86, w5 86 (by omega), z2 i (by omega)]
    refine ⟨vp_in_nI (by omega) (by decide), fun y c' => ∃ ρ' γ', y = nI (rk ths R (i + 1)) ∧ Rep c' ρ' γ' ∧ Swc ths R d (i + 1) ρ γ2 ρ' γ', fun y c' w => ?_, fun g2 => ?_, fun g2 => ?_⟩
    · obtain ⟨ρ', γ', q1, q2, q3⟩ := w
      exact ⟨ths.length - (i + 1), by omega, i + 1, ρ', γ', rfl, by omega, (nI_succ i).symm, q1, q2, q3⟩
    · have hr : ¬ R i := pI_eq0.mp g2
      refine ⟨ρ9, γ9, by rw [rk_f hr], h9, fun j y hy => w1 j y (by rw [kpL_f hr] at hy; exact hy), fun j y hj hy => w2 j y (by omega) hy, fun b hb => ?_, w4, w5⟩
      rw [w3 b hb, hm_ne _ (by omega)]
      intro e
      exact hr (by rw [← hR]; exact Rch.base hil ⟨b, hb, e⟩)
    · have hr : R i := Classical.byContradiction (fun w => g2 (pI_f w))
      have e1 := rk_t hr hx
      have hl1 : (kpL ths R (i + 1)) = kpL ths R i ++ [x] := kpL_t hr hx
      refine s_moveDown h9 (by omega) hri (fun ek => ⟨ρ9, γ9, by rw [e1, nI_succ], h9, fun j y hy => ?_, fun j y hj hy => w2 j y (by omega) hy, fun b hb => ?_, w4, w5⟩) (fun hlt c' γ' h' g1 g3 g4 g5 => ⟨_, γ', by rw [e1, nI_succ], h', fun j y hy => ?_, fun j y hj hy => ?_, fun b hb => ?_, fun r hr2 => ?_, fun a ha => ?_⟩)
      · rw [hl1] at hy
        have hl := (List.getElem?_eq_some_iff.mp hy).1
        rw [List.length_append, List.length_singleton] at hl
        by_cases ej : j = (kpL ths R i).length
        · rw [ej, List.getElem?_append_right (Nat.le_refl _), Nat.sub_self] at hy
          cases hy
          have : j = i := ej.trans ek
          rw [this]
          exact w2 i x (Nat.le_refl _) hx
        · rw [List.getElem?_append_left (by omega)] at hy
          exact w1 j y hy
      · rw [w3 b hb]
        by_cases e : d b = nI i
        · rw [(hm_eq e (by omega)).1, (hm_eq e (by omega)).2, ek]
        · rw [hm_ne e (by omega)]
      · rw [hl1] at hy
        have hl := (List.getElem?_eq_some_iff.mp hy).1
        rw [List.length_append, List.length_singleton] at hl
        by_cases ej : j = (kpL ths R i).length
        · rw [ej, List.getElem?_append_right (Nat.le_refl _), Nat.sub_self] at hy
          cases hy
          obtain ⟨t1, t2, t3⟩ := w2 i x (Nat.le_refl _) hx
          have ej' : j = rk ths R i := ej
          rw [ej']
          exact ⟨g1.trans t1, by rw [fu_self]; exact t2, g3.trans t3⟩
        · rw [List.getElem?_append_left (by omega)] at hy
          obtain ⟨t1, t2, t3⟩ := w1 j y hy
          have hne : j ≠ rk ths R i := ej
          have hj16 : j < 16 := by have : (kpL ths R i).length = rk ths R i := rfl; omega
          exact ⟨by rw [g4 _ (by omega) (by omega) (by omega)]; exact t1, by rw [fu_ne (by omega)]; exact t2, by rw [g4 _ (by omega) (by omega) (by omega)]; exact t3⟩
      · have hj2 := (List.getElem?_eq_some_iff.mp hy).1
        obtain ⟨t1, t2, t3⟩ := w2 j y (by omega) hy
        exact ⟨by rw [g4 _ (by omega) (by omega) (by omega)]; exact t1, by rw [fu_ne (by omega)]; exact t2, by rw [g4 _ (by omega) (by omega) (by omega)]; exact t3⟩
      · rw [g5 b hb, w3 b hb]
        by_cases e : d b = nI i
        · rw [(hm_eq e (by omega)).1, (hm_eq e (by omega)).2, if_pos rfl]
        · rw [hm_ne e (by omega), if_neg (fun q => e (hm_at (by omega) q))]
      · rw [fu_ne (by omega)]
        exact w4 r hr2
      · rw [g4 a (by omega) (by omega) (by omega)]
        exact w5 a ha
theorem s_sweep {c : cM} {ρ : Nat → List Int32} {γ : cM} {σ : Sg} {K : Int32 → cM → Prop} (h : Rep c ρ γ) (hC : CR ρ γ σ) (hV : VS σ) (hk : ∀ c' ρ' γ', Rep c' ρ' γ' → CR ρ' γ' (swX σ).2 → (∀ a, 176 ≤ a → γ' a = γ a) → K (swX σ).1 c') : f_P_sweep 18 c K := by
  unfold f_P_sweep
  rw [ps_k.2.1]
  refine ⟨ps_k.1, s_dropDraft h hC (fun c2 γ2 h2 C2 f2 => ⟨st_k.2.2.2.2.1, s_drop h2 C2.1 C2.2.2.2.1 hV.2.2.2.2.2.1 (fun c4 ρ4 γ4 h4 s4 b4 r4 a4 => hk c4 ρ4 γ4 h4 ⟨s4, ?_, ?_, b4, ?_, ?_⟩ (fun a ha => ?_))⟩)⟩
  · rw [r4 88 (by decide)]; exact C2.2.1
  · rw [a4 90 (by decide)]; exact C2.2.2.1
  · rw [r4 91 (by decide)]; exact C2.2.2.2.2.1
  · rw [a4 18 (by decide)]; exact C2.2.2.2.2.2
  · rw [a4 a (by omega), f2 a (by omega) (by omega)]
