theorem s_fill90 {c : cM} {ρ : Nat → List Int32} {γ : cM} {v : Int32} {K : cM → Prop} (h : Rep c ρ γ) (hk : ∀ c' γ', Rep c' ρ γ' → (∀ a, a ≠ 90 → γ' a = γ a) → (∀ l, l < 26 → γ' 90 l = v) → K c') : f_JArr_fill 90 v c K := by
  unfold f_JArr_fill
  rw [ps_k2.2.2.2.2.1]
  refine ⟨ps_k2.2.2.2.1, fun m y c' => ∃ j γ', m = 26 - j ∧ j ≤ 26 ∧ y = nI j ∧ Rep c' ρ γ' ∧ (∀ a, a ≠ 90 → γ' a = γ a) ∧ ∀ l, l < j → γ' 90 l = v, ⟨26, 0, γ, rfl, Nat.zero_le _, rfl, h, fun _ _ => rfl, fun l hl => absurd hl (Nat.not_lt_zero _)⟩, ?_⟩
  rintro m y c1 ⟨j, γ1, rfl, hj, rfl, h1, f1, g1⟩
  refine ⟨fun g => ?_, fun g => ?_⟩
  · have ej : j = 26 := by
      have := (nI_leI (a := 26) (by omega) (by omega)).mp g
      omega
    subst ej
    exact hk c1 γ1 h1 f1 g1
  · have hj26 : j < 26 := by
      rcases Nat.lt_or_ge j 26 with w | w
      · exact w
      · exact absurd (nI_le (a := 26) w (by omega)) g
    rw [nI_clamp (by omega)]
    refine ⟨vp_in_nI hj26 (by decide), fun c2 e2 => ⟨26 - (j + 1), by omega, j + 1, _, rfl, by omega, (nI_succ j).symm, h1.up n90 e2, fun a ha => by rw [c_up_ne ha]; exact f1 a ha, fun l hl => ?_⟩⟩
    by_cases el : l = j
    · rw [el, c_up_self]
    · rw [c_up_at el]
      exact g1 l (by omega)
def noD : Nat → Int32 := fun _ => -1
theorem cnt_noD : cntD noD = 0 := by decide +kernel
theorem s_dropDraft {c : cM} {ρ : Nat → List Int32} {γ : cM} {σ : Sg} {K : cM → Prop} (h : Rep c ρ γ) (hC : CR ρ γ σ) (hk : ∀ c' γ', Rep c' ρ γ' → CR ρ γ' (σ.1, σ.2.1, noD, σ.2.2.2) → (∀ a, a ≠ 18 → a ≠ 90 → γ' a = γ a) → K c') : f_P_dropDraft 18 c K := by
  unfold f_P_dropDraft
  rw [ps_k.2.2.2.1]
  refine ⟨ps_k.1, s_fill90 h (fun c2 γ2 h2 f2 g2 c3 e3 => hk c3 _ (h2.up n18 e3) (hC.draft _ (fun a a1 a2 _ => by rw [c_up_ne a1]; exact f2 a a2) (fun l hl => by rw [c_up_ne (by decide)]; exact g2 l hl) (by rw [c_up_self, cnt_noD]; rfl)) (fun a a1 a2 => by rw [c_up_ne a1]; exact f2 a a2))⟩
def entB (ths : List Th) (l : Nat) (x : Int32) : List Int32 := ((if kO ths x = 3 then txO 6 else txO 7) ++ [nI (97 + l)] ++ [0]) ++ ib (nO ths x) 0 5
def treC (ths : List Th) (d : Nat → Int32) : Nat → List Int32
  | 0 => []
  | n + 1 => treC ths d n ++ (if d n = -1 then [] else entB ths n (d n))
theorem entB_len (ths : List Th) (l : Nat) (x : Int32) : (entB ths l x).length ≤ 29 := by
  unfold entB
  simp only [List.length_append, List.length_singleton, ib_len5]
  split
  · rw [tx_l2.1]; exact Nat.le_refl _
  · rw [tx_l2.2.1]; decide
theorem entB_byt (ths : List Th) {l : Nat} (hl : l < 26) (x : Int32) : byt (entB ths l x) := by
  unfold entB
  refine byt_app (byt_app (byt_app ?_ (byt_cons ⟨97 + l, by omega, rfl⟩ byt_nil)) (byt_cons ⟨0, by decide, rfl⟩ byt_nil)) (byt_ib _ _ _)
  split
  · exact byt_txO (by decide) (by decide)
  · exact byt_txO (by decide) (by decide)
theorem treC_len (ths : List Th) (d : Nat → Int32) : ∀ n, (treC ths d n).length ≤ 29 * cntN d n
  | 0 => Nat.le_refl _
  | n + 1 => by
    have ih := treC_len ths d n
    have he := entB_len ths n (d n)
    rw [treC, cntN, List.length_append]
    by_cases g : d n = -1
    · rw [if_pos g, if_pos g]; simp only [List.length_nil]; omega
    · rw [if_neg g, if_neg g]; omega
theorem cntN_mono (d : Nat → Int32) : ∀ n k, cntN d n ≤ cntN d (n + k)
  | n, 0 => Nat.le_refl _
  | n, k + 1 => by
    have := cntN_mono d n k
    show _ ≤ cntN d (n + k) + _
    omega
theorem treC_byt (ths : List Th) (d : Nat → Int32) : ∀ n, n ≤ 26 → byt (treC ths d n)
  | 0, _ => byt_nil
  | n + 1, h => by
    rw [treC]
    refine byt_app (treC_byt ths d n (by omega)) ?_
    split
    · exact byt_nil
    · exact entB_byt ths (by omega) _
theorem s_putEntry {c : cM} {ρ : Nat → List Int32} {γ : cM} {ths : List Th} {l j : Nat} {y : Th} {L : List Int32} {K : cM → Prop} (h : Rep c ρ γ) (hs : StR ρ γ ths) (hl : l < 26) (hj : ths[j]? = some y) (hL : ρ 99 = L) (hlen : L.length + 29 ≤ 120) (hk : ∀ c', Rep c' (fu ρ 99 (L ++ entB ths l (nI j))) γ → K c') : f_P_putEntry 18 (nI l) (21 + 4 * j) c K := by
  obtain ⟨k98, -⟩ := ps_k3
  obtain ⟨a1, a2, a3, a4, a5, a6, -⟩ := thing_k k98
  have hjl := (List.getElem?_eq_some_iff.mp hj).1
  have hn := hs.2.1
  obtain ⟨t1, t2⟩ := st_t j (by omega)
  obtain ⟨b1, b2, b3, b4, b5, -⟩ := thing_k t2
  have l100 : ln (99 + 1) = 120 := a6
  rw [show (98 + 1 : Nat) = 99 from rfl] at a1 a3
  have ek : γ (21 + 4 * j) 0 = kO ths (nI j) := by rw [(hs.2.2 j y hj).1, kO_at hj hn]
  unfold f_P_putEntry
  rw [ps_k.2.2.2.2.2.2, a1, b2, h.2 _ (thing_n t2).1, ek]
  refine ⟨ps_k.1, k98, t2, fun s => 3 ≤ s ∧ s < 10 ∧ (txO s).length ≤ 7 ∧ (if kO ths (nI j) = 3 then txO 6 else txO 7) = txO s, ?_, fun g => ⟨by decide, by decide, by rw [tx_l2.2.1]; decide, by rw [if_neg g]⟩, fun g => ⟨by decide, by decide, by rw [tx_l2.1]; decide, by rw [if_pos g]⟩⟩
  rintro s ⟨s1, s2, s3, s4⟩
  refine ⟨a3, s_putText h a3 (kd_tx s s2 s1) (by rw [hL, l100]; omega) (fun c9 h9 => ?_)⟩
  rw [hL] at h9
  refine s_put h9 a3 (by rw [fu_self, l100, List.length_append]; omega) (fun c10 h10 => ?_)
  rw [fu_self, fu_fu, show (97 : Int32) = nI 97 from rfl, nI_add] at h10
  refine s_put h10 a3 (by rw [fu_self, l100, List.length_append, List.length_append, List.length_singleton]; omega) (fun c11 h11 => ?_)
  rw [fu_self, fu_fu] at h11
  refine s_putInts (n := 5) h11 a3 b4 b5 (by decide) (thing_n t2).2 (by rw [fu_self, l100]; simp only [List.length_append, List.length_singleton]; omega) (fun c12 h12 => hk c12 ?_)
  rw [fu_self, fu_fu, ib_congr ((hs.2.2 j y hj).2.2)] at h12
  have e : L ++ entB ths l (nI j) = L ++ txO s ++ [nI (97 + l)] ++ [0] ++ ib y.2.2 0 5 := by
    unfold entB
    rw [s4, nO_at hj hn]
    simp only [List.append_assoc]
  rw [e]
  exact h12
def treX (σ : Sg) : Int32 × Sg := ((bringX σ.1 (mkT 2 (treC σ.1 σ.2.2.1 26))).1, (bringX σ.1 (mkT 2 (treC σ.1 σ.2.2.1 26))).2, σ.2.1, if (bringX σ.1 (mkT 2 (treC σ.1 σ.2.2.1 26))).1 < 0 then σ.2.2.1 else noD, σ.2.2.2)
theorem treC_l {σ : Sg} (h : VS σ) {n : Nat} (hn : n ≤ 26) : (treC σ.1 σ.2.2.1 n).length ≤ 116 := by
  have h1 := treC_len σ.1 σ.2.2.1 n
  have h2 := cntN_mono σ.2.2.1 n (26 - n)
  rw [show n + (26 - n) = 26 by omega, ← cntD_N] at h2
  have h3 := h.2.2.2.2.2.2.2
  omega
theorem treC_l1 {σ : Sg} (h : VS σ) {n : Nat} (hn : n < 26) (hd : ¬ σ.2.2.1 n = -1) : (treC σ.1 σ.2.2.1 n).length ≤ 87 := by
  have h1 := treC_len σ.1 σ.2.2.1 n
  have h2 := cntN_mono σ.2.2.1 (n + 1) (26 - (n + 1))
  rw [show n + 1 + (26 - (n + 1)) = 26 by omega, ← cntD_N] at h2
  have h3 := h.2.2.2.2.2.2.2
  rw [cntN, if_neg hd] at h2
  omega
theorem treX_V {σ : Sg} (h : VS σ) : VS (treX σ).2 := by
  have hT : VT (mkT 2 (treC σ.1 σ.2.2.1 26)) := ⟨Or.inr (Or.inl rfl), treC_byt _ _ 26 (Nat.le_refl _), by have := treC_l h (Nat.le_refl 26); show (treC σ.1 σ.2.2.1 26).length ≤ 120; omega⟩
  by_cases g : (bringX σ.1 (mkT 2 (treC σ.1 σ.2.2.1 26))).1 < 0
  · unfold treX
    rw [if_pos g]
    exact h.bring hT
  · unfold treX
    rw [if_neg g]
    obtain ⟨v1, v2, v3, v4, v5, v6, v7, v8⟩ := h.bring hT
    exact ⟨v1, v2, v3, v4, fun _ _ => Or.inl rfl, v6, v7, by show cntD noD ≤ 4; rw [cnt_noD]; decide⟩
theorem s_tree {c : cM} {ρ : Nat → List Int32} {γ : cM} {σ : Sg} {K : Int32 → cM → Prop} (h : Rep c ρ γ) (hC : CR ρ γ σ) (hV : VS σ) (hk : ∀ c' ρ' γ', Rep c' ρ' γ' → CR ρ' γ' (treX σ).2 → (∀ a, 176 ≤ a → γ' a = γ a) → K (treX σ).1 c') : f_P_tree 18 c K := by
  obtain ⟨k98, -⟩ := ps_k3
  have hn := hV.2.1
  unfold f_P_tree
  rw [ps_k.2.2.2.2.2.2, ps_k.2.1, ps_k.2.2.2.1, ps_k2.2.2.2.2.1, st_k.1, st_k.2.2.2.2.2.2.1]
  refine ⟨ps_k.1, k98, s_tbegin h k98 (fun c3 h3 => ?_)⟩
  rw [show (98 + 1 : Nat) = 99 from rfl] at h3
  generalize hγ : c_up γ 98 0 2 = γ1 at h3
  have g98 : γ1 98 0 = 2 := by rw [← hγ]; exact c_up_self
  have k176 : ∀ a, 176 ≤ a → γ1 a = γ a := fun a ha => by rw [← hγ]; exact c_up_ne (by omega)
  have Cm : ∀ L, CR (fu ρ 99 L) γ1 σ := fun L => hC.made (fun r hr => fu_ne (by omega)) (fun a ha => by rw [← hγ]; exact c_up_ne (by omega))
  refine ⟨fun m y c' => ∃ j, m = 26 - j ∧ j ≤ 26 ∧ y = nI j ∧ Rep c' (fu ρ 99 (treC σ.1 σ.2.2.1 j)) γ1, ⟨26, 0, rfl, Nat.zero_le _, rfl, h3⟩, ?_⟩
  rintro m y c9 ⟨j, rfl, hj, rfl, h9⟩
  refine ⟨fun g => ?_, fun g => ?_⟩
  · have ej : j = 26 := by
      have := (nI_leI (a := 26) (by omega) (by omega)).mp g
      omega
    subst ej
    refine s_bringMade h9 (Cm _).1 g98 fu_self (fun c11 ρ11 γ11 h11 s11 kp11 => ⟨fun g0 => ?_, fun g0 => ?_⟩)
    · have e : (treX σ).2 = ((bringX σ.1 (mkT 2 (treC σ.1 σ.2.2.1 26))).2, σ.2.1, σ.2.2.1, σ.2.2.2) := by unfold treX; rw [if_pos g0]
      rw [e] at hk
      exact hk c11 ρ11 γ11 h11 ((Cm _).bring kp11 s11) (fun a ha => by rw [kp11.2.2 a (by omega)]; exact k176 a ha)
    · have e : (treX σ).2 = ((bringX σ.1 (mkT 2 (treC σ.1 σ.2.2.1 26))).2, σ.2.1, noD, σ.2.2.2) := by unfold treX; rw [if_neg g0]
      rw [e] at hk
      refine s_dropDraft h11 ((Cm _).bring kp11 s11) (fun c14 γ14 h14 C14 f14 => hk c14 ρ11 γ14 h14 C14 (fun a ha => by rw [f14 a (by omega) (by omega), kp11.2.2 a (by omega)]; exact k176 a ha))
  · have hj26 : j < 26 := by
      rcases Nat.lt_or_ge j 26 with w | w
      · exact w
      · exact absurd (nI_le (a := 26) w (by omega)) g
    have d9 : c9 90 (Int32.toNatClampNeg (nI j)) = σ.2.2.1 j := by rw [h9.2 90 n90, nI_clamp (by omega)]; exact (Cm []).2.2.1 j hj26
    rw [d9]
    refine ⟨ps_k2.2.2.2.1, vp_in_nI hj26 (by decide), st_k.2.2.2.2.1, s_has h9 (Cm []).1.1 (by omega) (fun i hi e => ?_) (fun gn => ?_)⟩
    · have hne : ¬ σ.2.2.1 j = -1 := fun q => by
        rw [e] at q
        have : nI i < 0 := by rw [q]; decide
        exact absurd this (nI_pos (by omega))
      obtain ⟨z, hz⟩ := get_some hi
      rw [d9, e, nI_clamp (show i < 2 ^ 31 by omega), (st_t i (by omega)).1]
      refine ⟨fun c24 => Rep c24 (fu ρ 99 (treC σ.1 σ.2.2.1 (j + 1))) γ1, fun c24 h24 => ⟨26 - (j + 1), by omega, j + 1, rfl, by omega, (nI_succ j).symm, h24⟩, fun q => absurd q (by decide), fun _ => ⟨st_k.2.2.2.2.2.1, vp_in_nI (by omega) (by decide), ?_⟩⟩
      refine s_putEntry h9 (Cm _).1 hj26 hz fu_self (by have := treC_l1 hV hj26 hne; omega) (fun c29 h29 => ?_)
      rw [fu_fu] at h29
      have e2 : treC σ.1 σ.2.2.1 (j + 1) = treC σ.1 σ.2.2.1 j ++ entB σ.1 j (nI i) := by rw [treC, if_neg hne, e]
      show Rep c29 (fu ρ 99 (treC σ.1 σ.2.2.1 (j + 1))) γ1
      rw [e2]
      exact h29
    · have hd : σ.2.2.1 j = -1 := by
        rcases hV.2.2.2.2.1 j hj26 with q | ⟨i, q1, q2⟩
        · exact q
        · exact absurd q2 (gn i q1)
      refine ⟨fun c24 => Rep c24 (fu ρ 99 (treC σ.1 σ.2.2.1 (j + 1))) γ1, fun c24 h24 => ⟨26 - (j + 1), by omega, j + 1, rfl, by omega, (nI_succ j).symm, h24⟩, fun _ => ?_, fun q => absurd rfl q⟩
      have e2 : treC σ.1 σ.2.2.1 (j + 1) = treC σ.1 σ.2.2.1 j := by rw [treC, if_pos hd, List.append_nil]
      show Rep c9 (fu ρ 99 (treC σ.1 σ.2.2.1 (j + 1))) γ1
      rw [e2]
      exact h9
