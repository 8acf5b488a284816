theorem gdn_app {q e : List Nat} {k : Nat} (h : k < q.length) : (q ++ e).getD k 0 = q.getD k 0 := by
  rw [List.getD_eq_getElem?_getD, List.getD_eq_getElem?_getD, List.getElem?_append_left h]
theorem gdn_mem {q : List Nat} {k : Nat} (h : k < q.length) : q.getD k 0 ∈ q := by
  rw [List.getD_eq_getElem?_getD, List.getElem?_eq_getElem h]
  exact List.getElem_mem h
theorem gdn_of {q : List Nat} {x : Nat} (h : x ∈ q) : ∃ k, k < q.length ∧ q.getD k 0 = x := by
  obtain ⟨k, hk⟩ := List.getElem?_of_mem h
  exact ⟨k, (List.getElem?_eq_some_iff.mp hk).1, by rw [List.getD_eq_getElem?_getD, hk]; rfl⟩
theorem s_markReached {c : cM} {ρ : Nat → List Int32} {γ : cM} {ths : List Th} {d : Nat → Int32} {K : cM → Prop} (h : Rep c ρ γ) (hs : StR ρ γ ths) (hd : ∀ b, b < 4 → γ 85 b = d b) (hk : ∀ c' γ', Rep c' ρ γ' → Fr γ γ' → (∀ i, i < 16 → γ' 86 i = pI (Rch ths d i)) → K c') : f_Store_markReached 19 c K := by
  have hn := hs.2.1
  have hst : ∀ γ', Fr γ γ' → StR ρ γ' ths := fun γ' f => hs.pe f.pe
  unfold f_Store_markReached
  rw [st_k.1, st_k.2.1, st_k.2.2.1, st_k.2.2.2.1, st_k.2.2.2.2.2.2.1, st_k.2.2.2.2.2.2.2.2, st_k2.2.1, st_k2.2.2.2]
  refine ⟨fun m y c' => ∃ j γ', m = 16 - j ∧ j ≤ 16 ∧ y = nI j ∧ Rep c' ρ γ' ∧ Fr γ γ' ∧ ∀ i, i < j → γ' 86 i = 0, ⟨16, 0, γ, rfl, Nat.zero_le _, rfl, h, Fr.rf γ, fun i hi => absurd hi (Nat.not_lt_zero _)⟩, ?_⟩
  rintro m y c6 ⟨j, γ6, rfl, hj, rfl, h6, f6, z6⟩
  refine ⟨fun g => ⟨st_k.2.2.2.2.1, fun c9 e9 => ?_⟩, fun g => ?_⟩
  · have ej : j = 16 := by
      have := (nI_leI (a := 16) (by omega) (by omega)).mp g
      omega
    subst ej
    have h9 := h6.up n19 e9
    generalize hγ9 : c_up γ6 19 5 0 = γ9 at h9
    have f9 : Fr γ γ9 := f6.tr ⟨fun a a1 _ _ => by rw [← hγ9, c_up_ne a1], fun k hk1 => by rw [← hγ9, c_up_at hk1]⟩
    have Q9 : Qu γ9 ths.length [] := ⟨List.nodup_nil, fun x hx => absurd hx List.not_mem_nil, by rw [← hγ9, c_up_self]; rfl, fun k hk1 => absurd hk1 (Nat.not_lt_zero _), fun i hi => by rw [← hγ9, c_up_ne (by decide), z6 i hi, pI_f List.not_mem_nil]⟩
    refine ⟨fun m y c' => ∃ b q γ', m = 4 - b ∧ b ≤ 4 ∧ y = nI b ∧ Rep c' ρ γ' ∧ Fr γ γ' ∧ Qu γ' ths.length q ∧ (∀ i ∈ q, Rch ths d i) ∧ ∀ b', b' < b → ∀ i, i < ths.length → d b' = nI i → i ∈ q, ⟨4, 0, [], γ9, rfl, Nat.zero_le _, rfl, h9, f9, Q9, fun x hx => absurd hx List.not_mem_nil, fun b' hb' => absurd hb' (Nat.not_lt_zero _)⟩, ?_⟩
    rintro m y c15 ⟨b, q, γ15, rfl, hb, rfl, h15, f15, Q15, so15, he15⟩
    refine ⟨fun g4 => ?_, fun g4 => ?_⟩
    · have eb : b = 4 := by
        have := (nI_leI (a := 4) (by omega) (by omega)).mp g4
        omega
      subst eb
      refine ⟨fun m y c' => ∃ k q γ', m = 17 - k ∧ k ≤ q.length ∧ y = nI k ∧ Rep c' ρ γ' ∧ Fr γ γ' ∧ Qu γ' ths.length q ∧ (∀ i ∈ q, Rch ths d i) ∧ (∀ b', b' < 4 → ∀ i, i < ths.length → d b' = nI i → i ∈ q) ∧ ∀ p, p < k → ∀ i, i < ths.length → rfr ths (q.getD p 0) i → i ∈ q, ⟨17, 0, q, γ15, rfl, Nat.zero_le _, rfl, h15, f15, Q15, so15, he15, fun p hp => absurd hp (Nat.not_lt_zero _)⟩, ?_⟩
      rintro m y c22 ⟨k, q2, γ22, rfl, hkq, rfl, h22, f22, Q22, so22, he22, pr22⟩
      have ql := nodup_le _ q2 Q22.1 Q22.2.1
      have fin : q2.length ≤ k → K c22 := by
        intro hle
        refine hk c22 γ22 h22 f22 (fun i hi => ?_)
        rw [Q22.2.2.2.2 i hi]
        refine pI_iff ⟨fun w => so22 i w, fun w => ?_⟩
        refine w.2 (fun x => x ∈ q2) (fun x hx hh => ?_) (fun x z hx hz hxq hxz => ?_)
        · obtain ⟨b', b1, b2⟩ := hh
          exact he22 b' b1 x hx b2
        · obtain ⟨p, p1, p2⟩ := gdn_of hxq
          exact pr22 p (by omega) z hz (by rw [p2]; exact hxz)
      rw [h22.2 19 n19, Q22.2.2.1]
      refine ⟨fun g5 => fin ((nI_leI (by omega) (by omega)).mp g5), fun g5 => ⟨fun g6 => fin (by have := (nI_leI (a := 16) (by decide) (by omega)).mp g6; omega), fun g6 => ?_⟩⟩
      have hk2 : k < q2.length := by
        rcases Nat.lt_or_ge k q2.length with w | w
        · exact w
        · exact absurd (nI_le w (by omega)) g5
      have hfm := gdn_mem hk2
      have hfn := Q22.2.1 _ hfm
      rw [nI_clamp (show k < 2 ^ 31 by omega), h22.2 87 n87, Q22.2.2.2.1 k hk2, nI_clamp (show q2.getD k 0 < 2 ^ 31 by omega), (st_t (q2.getD k 0) (by omega)).1]
      generalize hf : q2.getD k 0 = f at hfm hfn
      refine ⟨st_k2.2.2.1, vp_in_nI (by omega) (by decide), st_k.2.2.2.2.2.1, vp_in_nI (by omega) (by decide), ?_⟩
      refine ⟨fun m z c' => ∃ i e γ', m = 17 - i ∧ i ≤ ths.length ∧ z = nI i ∧ Rep c' ρ γ' ∧ Fr γ γ' ∧ Qu γ' ths.length (q2 ++ e) ∧ (∀ x ∈ q2 ++ e, Rch ths d x) ∧ ∀ x, x < i → rfr ths f x → x ∈ q2 ++ e, ⟨17, 0, [], γ22, rfl, Nat.zero_le _, rfl, h22, f22, by rw [List.append_nil]; exact Q22, by rw [List.append_nil]; exact so22, fun x hx => absurd hx (Nat.not_lt_zero _)⟩, ?_⟩
      rintro m z c34 ⟨i, e, γ34, rfl, hi, rfl, h34, f34, Q34, so34, pr34⟩
      have s34 := hst γ34 f34
      rw [h34.2 19 n19, s34.1]
      refine ⟨fun g7 => ?_, fun g7 => ⟨st_k2.1, ?_⟩⟩
      · have ein : i = ths.length := by
          have := (nI_leI (by omega) (by omega)).mp g7
          omega
        refine ⟨17 - (k + 1), by omega, k + 1, q2 ++ e, γ34, rfl, by rw [List.length_append]; omega, (nI_succ k).symm, h34, f34, Q34, so34, fun b' hb' x hx hd' => List.mem_append_left _ (he22 b' hb' x hx hd'), fun p hp x hx hpx => ?_⟩
        by_cases epk : p = k
        · rw [epk, gdn_app hk2, hf] at hpx
          exact pr34 x (by omega) hpx
        · rw [gdn_app (by omega)] at hpx
          exact List.mem_append_left _ (pr22 p (by omega) x hx hpx)
      · have hin : i < ths.length := by
          rcases Nat.lt_or_ge i ths.length with w | w
          · exact w
          · exact absurd (nI_le w (by omega)) g7
        rw [nI_clamp (show i < 2 ^ 31 by omega), h34.2 86 n86, Q34.2.2.2.2 i (by omega), (st_t i (by omega)).1]
        refine ⟨vp_in_nI (by omega) (by decide), fun c45 => ∃ e' γ', Rep c45 ρ γ' ∧ Fr γ γ' ∧ Qu γ' ths.length (q2 ++ e') ∧ (∀ x ∈ q2 ++ e', Rch ths d x) ∧ ∀ x, x < i + 1 → rfr ths f x → x ∈ q2 ++ e', ?_, fun g8 => ?_, fun g8 => ?_⟩
        · rintro c45 ⟨e', γ', k1, k2, k3, k4, k5⟩
          exact ⟨17 - (i + 1), by omega, i + 1, e', γ', rfl, by omega, (nI_succ i).symm, k1, k2, k3, k4, k5⟩
        · refine ⟨e, γ34, h34, f34, Q34, so34, fun x hx hr => ?_⟩
          by_cases exi : x = i
          · rw [exi]; exact Classical.byContradiction (fun w => g8 (pI_f w))
          · exact pr34 x (by omega) hr
        · refine ⟨vp_in_nI (by omega) (by decide), (st_t f (by omega)).2, s_refers h34 s34 hfn hin ⟨fun g9 => ?_, fun g9 => ?_⟩⟩
          · refine ⟨e, γ34, h34, f34, Q34, so34, fun x hx hr => ?_⟩
            by_cases exi : x = i
            · rw [exi] at hr; exact absurd hr (pI_eq0.mp g9)
            · exact pr34 x (by omega) hr
          · have hr9 : rfr ths f i := Classical.byContradiction (fun w => g9 (pI_f w))
            have hfR : Rch ths d f := so22 f hfm
            refine s_reach h34 s34.1 hn Q34 (fun w => ⟨e, γ34, h34, f34, Q34, so34, fun x hx hr => ?_⟩) (fun x hx ex hxq c' γ' h' Q' f' => ⟨e ++ [x], γ', h', f34.tr f', by rw [← List.append_assoc]; exact Q', fun z hz => ?_, fun z hz hr => ?_⟩)
            · by_cases exi : x = i
              · rw [exi]; exact w i hin rfl
              · exact pr34 x (by omega) hr
            · have exi : x = i := (nI_eq (by omega) (by omega)).mp ex.symm
              rw [← List.append_assoc] at hz
              rcases List.mem_append.mp hz with w | w
              · exact so34 z w
              · rw [List.mem_singleton.mp w, exi]
                exact hfR.step hin hr9
            · have exi : x = i := (nI_eq (by omega) (by omega)).mp ex.symm
              rw [← List.append_assoc]
              by_cases ezi : z = i
              · rw [ezi, exi]; exact List.mem_append_right _ (List.mem_singleton.mpr rfl)
              · exact List.mem_append_left _ (pr34 z (by omega) hr)
    · have hb4 : b < 4 := by
        rcases Nat.lt_or_ge b 4 with w | w
        · exact w
        · exact absurd (nI_le (a := 4) w (by omega)) g4
      rw [nI_clamp (by omega), h15.2 85 n85, f15.1 85 (by decide) (by decide) (by decide), hd b hb4]
      refine ⟨st_k.2.2.2.2.2.2.2.1, vp_in_nI hb4 (by decide), s_reach h15 (hst γ15 f15).1 hn Q15 (fun w => ⟨4 - (b + 1), by omega, b + 1, q, γ15, rfl, by omega, (nI_succ b).symm, h15, f15, Q15, so15, fun b' hb' i hi e => ?_⟩) (fun x hx ex hxq c' γ' h' Q' f' => ⟨4 - (b + 1), by omega, b + 1, q ++ [x], γ', rfl, by omega, (nI_succ b).symm, h', f15.tr f', Q', fun z hz => ?_, fun b' hb' i hi e => ?_⟩)⟩
      · by_cases ebb : b' = b
        · rw [ebb] at e; exact w i hi e
        · exact he15 b' (by omega) i hi e
      · rcases List.mem_append.mp hz with w | w
        · exact so15 z w
        · rw [List.mem_singleton.mp w]
          exact Rch.base hx ⟨b, hb4, ex⟩
      · by_cases ebb : b' = b
        · rw [ebb, ex] at e
          have : x = i := (nI_eq (by omega) (by omega)).mp e
          rw [← this]
          exact List.mem_append_right _ (List.mem_singleton.mpr rfl)
        · exact List.mem_append_left _ (he15 b' (by omega) i hi e)
  · have hj16 : j < 16 := by
      rcases Nat.lt_or_ge j 16 with w | w
      · exact w
      · exact absurd (nI_le (a := 16) w (by omega)) g
    rw [nI_clamp (by omega)]
    refine ⟨st_k.2.2.2.2.1, st_k2.1, vp_in_nI hj16 (by decide), fun c60 e60 => ⟨16 - (j + 1), by omega, j + 1, _, rfl, by omega, (nI_succ j).symm, h6.up n86 e60, f6.tr ⟨fun a _ a2 _ => c_up_ne a2, fun k _ => by rw [c_up_ne (by decide)]⟩, fun i hi => ?_⟩⟩
    by_cases eij : i = j
    · rw [eij, c_up_self]
    · rw [c_up_at eij]
      exact z6 i (by omega)
