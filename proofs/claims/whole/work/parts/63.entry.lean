def cntN (d : Nat → Int32) : Nat → Nat
  | 0 => 0
  | n + 1 => cntN d n + (if d n = -1 then 0 else 1)
theorem cntN_eq (d : Nat → Int32) : ∀ n, ((List.range n).filter (fun l => decide (¬ d l = -1))).length = cntN d n
  | 0 => rfl
  | n + 1 => by
    rw [List.range_succ, List.filter_append, List.length_append, cntN_eq d n, cntN]
    congr 1
    by_cases h : d n = -1
    · rw [if_pos h, List.filter_cons_of_neg (by simp [h])]; rfl
    · rw [if_neg h, List.filter_cons_of_pos (by simp [h])]; rfl
theorem cntD_N (d : Nat → Int32) : cntD d = cntN d 26 := cntN_eq d 26
theorem cntN_ge (d : Nat → Int32) (l : Nat) (x : Int32) : ∀ n, n ≤ l → cntN (setH d l x) n = cntN d n
  | 0, _ => rfl
  | n + 1, h => by
    rw [cntN, cntN, cntN_ge d l x n (by omega)]
    have e : setH d l x n = d n := if_neg (by omega)
    rw [e]
theorem cntN_new (d : Nat → Int32) (l : Nat) (x : Int32) (hd : d l = -1) (hx : ¬ x = -1) : ∀ n, l < n → cntN (setH d l x) n = cntN d n + 1
  | 0, h => absurd h (Nat.not_lt_zero _)
  | n + 1, h => by
    rw [cntN, cntN]
    by_cases e : n = l
    · subst e
      have e1 : setH d n x n = x := if_pos rfl
      rw [cntN_ge d n x n (Nat.le_refl _), e1, if_neg hx, if_pos hd]
    · have e1 : setH d l x n = d n := if_neg e
      rw [cntN_new d l x hd hx n (by omega), e1]
      omega
theorem cntN_old (d : Nat → Int32) (l : Nat) (x : Int32) (hd : ¬ d l = -1) (hx : ¬ x = -1) : ∀ n, l < n → cntN (setH d l x) n = cntN d n
  | 0, h => absurd h (Nat.not_lt_zero _)
  | n + 1, h => by
    rw [cntN, cntN]
    by_cases e : n = l
    · subst e
      have e1 : setH d n x n = x := if_pos rfl
      rw [cntN_ge d n x n (Nat.le_refl _), e1, if_neg hx, if_neg hd]
    · have e1 : setH d l x n = d n := if_neg e
      rw [cntN_old d l x hd hx n (by omega), e1]
theorem cntD_new {d : Nat → Int32} {l : Nat} {x : Int32} (hl : l < 26) (hd : d l = -1) (hx : ¬ x = -1) : cntD (setH d l x) = cntD d + 1 := by
  rw [cntD_N, cntD_N]; exact cntN_new d l x hd hx 26 hl
theorem cntD_old {d : Nat → Int32} {l : Nat} {x : Int32} (hl : l < 26) (hd : ¬ d l = -1) (hx : ¬ x = -1) : cntD (setH d l x) = cntD d := by
  rw [cntD_N, cntD_N]; exact cntN_old d l x hd hx 26 hl
def entX (σ : Sg) (x y : Int32) : Int32 × Sg := if x < 0 ∨ ¬ x < 26 ∨ (¬ kO σ.1 y = 3 ∧ ¬ kO σ.1 y = 2) then (-1, σ) else if σ.2.2.1 x.toNatClampNeg = -1 ∧ cntD σ.2.2.1 = 4 then (-2, σ) else (nI (cntD (setH σ.2.2.1 x.toNatClampNeg y)), σ.1, σ.2.1, setH σ.2.2.1 x.toNatClampNeg y, σ.2.2.2)
theorem n90 : ¬ rc 90 := nrc (by decide +kernel)
theorem n18 : ¬ rc 18 := nrc (by decide +kernel)
theorem CR.draft {ρ : Nat → List Int32} {γ γ' : cM} {σ : Sg} (h : CR ρ γ σ) (d : Nat → Int32) (h1 : ∀ a, a ≠ 18 → a ≠ 90 → a < 93 → γ' a = γ a) (h2 : ∀ l, l < 26 → γ' 90 l = d l) (h3 : γ' 18 3 = nI (cntD d)) : CR ρ γ' (σ.1, σ.2.1, d, σ.2.2.2) := by
  obtain ⟨⟨s1, s2, s3⟩, g2, g3, g4, g5, g6⟩ := h
  refine ⟨⟨by rw [h1 19 (by decide) (by decide) (by decide)]; exact s1, s2, fun i x hx => ?_⟩, g2, h2, by rw [h1 85 (by decide) (by decide) (by decide)]; exact g4, g5, h3⟩
  have hi : i < σ.1.length := (List.getElem?_eq_some_iff.mp hx).1
  have hi2 : σ.1.length ≤ 16 := s2
  obtain ⟨t1, t2, t3⟩ := s3 i x hx
  exact ⟨by rw [h1 _ (by omega) (by omega) (by omega)]; exact t1, t2, by rw [h1 _ (by omega) (by omega) (by omega)]; exact t3⟩
theorem s_entry {c : cM} {ρ : Nat → List Int32} {γ : cM} {σ : Sg} {x y : Int32} {K : Int32 → cM → Prop} (h : Rep c ρ γ) (hC : CR ρ γ σ) (hV : VS σ) (hk : ∀ c' ρ' γ', Rep c' ρ' γ' → CR ρ' γ' (entX σ x y).2 → (∀ a, 176 ≤ a → γ' a = γ a) → K (entX σ x y).1 c') : f_P_entry 18 x y c K := by
  have h4 := hV.2.2.2.2.2.2.2
  have bad : (x < 0 ∨ ¬ x < 26 ∨ (¬ kO σ.1 y = 3 ∧ ¬ kO σ.1 y = 2)) → K (-1) c := by
    intro hb
    have e : entX σ x y = (-1, σ) := if_pos hb
    rw [e] at hk
    exact hk c ρ γ h hC (fun _ _ => rfl)
  unfold f_P_entry
  rw [ps_k.2.1, ps_k.2.2.2.1, ps_k2.2.2.2.2.1]
  refine ⟨fun g => bad (Or.inl g), fun g => ⟨fun g2 => ⟨ps_k.1, st_k.2.2.2.2.1, s_kindO h hC.1 ⟨kO σ.1 y = 3 ∨ kO σ.1 y = 2, fun hj => ?_, fun g3 => Or.inl g3, fun g3 => ⟨fun g4 => Or.inr g4, fun g4 => bad (Or.inr (Or.inr ⟨g3, g4⟩))⟩⟩⟩, fun g2 => bad (Or.inr (Or.inl g2))⟩⟩
  have e0 : entX σ x y = if σ.2.2.1 x.toNatClampNeg = -1 ∧ cntD σ.2.2.1 = 4 then (-2, σ) else (nI (cntD (setH σ.2.2.1 x.toNatClampNeg y)), σ.1, σ.2.1, setH σ.2.2.1 x.toNatClampNeg y, σ.2.2.2) := if_neg (by rintro (q | q | q); exact g q; exact q g2; exact hj.elim q.1 q.2)
  have hy1 : ¬ y = -1 := by
    intro q
    obtain ⟨j, z, h1, h2, h3⟩ := kO_in hC.1.2.1 (x := y) (by rcases hj with w | w <;> rw [w] <;> decide)
    have : nI j < 0 := by rw [← h2, q]; decide
    have hn := hC.1.2.1
    exact absurd this (nI_pos (by omega))
  obtain ⟨l, hl1, hl2⟩ := nI_of g
  have hl : l < 26 := (nI_ltI (b := 26) hl1 (by decide)).mp (by rw [← hl2]; exact g2)
  rw [hl2, nI_clamp hl1] at e0 ⊢
  rw [h.2 90 n90, h.2 18 n18, hC.2.2.1 l hl, hC.2.2.2.2.2]
  refine ⟨ps_k2.2.2.2.1, vp_in_nI hl (by decide), fun c16 => Rep c16 ρ (c_up γ 18 3 (nI (cntD (setH σ.2.2.1 l y)))) ∧ ¬ (σ.2.2.1 l = -1 ∧ cntD σ.2.2.1 = 4), ?_, fun g5 => ⟨?_, fun q => g5 q.1⟩, fun g5 => ⟨fun g6 c21 e21 => ⟨?_, fun q => g6 (by rw [q.2]; rfl)⟩, fun g6 => ?_⟩⟩
  · rintro c16 ⟨h16, hno⟩ c19 e19
    have e : entX σ x y = (nI (cntD (setH σ.2.2.1 l y)), σ.1, σ.2.1, setH σ.2.2.1 l y, σ.2.2.2) := by rw [hl2, e0]; exact if_neg hno
    have R19 := h16.up n90 e19
    have v : c19 18 3 = nI (cntD (setH σ.2.2.1 l y)) := by rw [R19.2 18 n18, c_up_ne (by decide), c_up_self]
    rw [v]
    rw [e] at hk
    refine hk c19 ρ _ R19 (hC.draft _ (fun a a1 a2 _ => by rw [c_up_ne a2, c_up_ne a1]) (fun k hk2 => ?_) (by rw [c_up_ne (by decide), c_up_self])) (fun a ha => by rw [c_up_ne (by omega), c_up_ne (by omega)])
    unfold setH
    by_cases ek : k = l
    · rw [if_pos ek, ek, c_up_self]
    · rw [if_neg ek, c_up_at ek, c_up_ne (by decide)]
      exact hC.2.2.1 k hk2
  · rw [cntD_old hl g5 hy1, ← hC.2.2.2.2.2]
    have : c_up γ 18 3 (γ 18 3) = γ := by
      rw [c_up_row]
      have e : (fun b => if b = 3 then γ 18 3 else γ 18 b) = γ 18 := by
        funext b
        by_cases hb : b = 3
        · rw [if_pos hb, hb]
        · rw [if_neg hb]
      rw [e]
      exact c_row_id
    rw [this]
    exact h
  · rw [cntD_new hl g5 hy1, nI_succ]
    exact h.up n18 e21
  · have e4 : cntD σ.2.2.1 = 4 := (nI_eq (b := 4) (by omega) (by decide)).mp g6
    have e : entX σ x y = (-2, σ) := by rw [hl2, e0]; exact if_pos ⟨g5, e4⟩
    rw [e] at hk
    exact hk c ρ γ h hC (fun _ _ => rfl)
theorem entX_V {σ : Sg} {x y : Int32} (h : VS σ) : VS (entX σ x y).2 := by
  unfold entX
  split
  · exact h
  · rename_i g
    split
    · exact h
    · rename_i g2
      obtain ⟨v1, v2, v3, v4, v5, v6, v7, v8⟩ := h
      have g0 : ¬ x < 0 := fun q => g (Or.inl q)
      have g26 : x < 26 := Classical.byContradiction (fun q => g (Or.inr (Or.inl q)))
      have gk : kO σ.1 y = 3 ∨ kO σ.1 y = 2 := Classical.byContradiction (fun q => g (Or.inr (Or.inr ⟨fun w => q (Or.inl w), fun w => q (Or.inr w)⟩)))
      obtain ⟨j, z, h1, h2, h3⟩ := kO_in v2 (x := y) (by rcases gk with w | w <;> rw [w] <;> decide)
      have hy1 : ¬ y = -1 := by
        intro q
        have : nI j < 0 := by rw [← h2, q]; decide
        exact absurd this (nI_pos (by omega))
      obtain ⟨l, hl1, hl2⟩ := nI_of g0
      have hl : l < 26 := (nI_ltI (b := 26) hl1 (by decide)).mp (by rw [← hl2]; exact g26)
      rw [hl2, nI_clamp hl1] at g2 ⊢
      refine ⟨v1, v2, v3, v4, fun k hk => ?_, v6, v7, ?_⟩
      · show setH σ.2.2.1 l y k = -1 ∨ ∃ j, j < σ.1.length ∧ setH σ.2.2.1 l y k = nI j
        unfold setH
        by_cases e : k = l
        · rw [if_pos e]; exact Or.inr ⟨j, h1, h2⟩
        · rw [if_neg e]; exact v5 k hk
      · show cntD (setH σ.2.2.1 l y) ≤ 4
        by_cases e : σ.2.2.1 l = -1
        · rw [cntD_new hl e hy1]
          have : ¬ cntD σ.2.2.1 = 4 := fun q => g2 ⟨e, q⟩
          omega
        · rw [cntD_old hl e hy1]; exact v8
