def cyE (st out : List Int32) : Option (List Int32) := if nI out.length = st.getD 1 0 then some out else none
def cyF (st ot : List Int32) : Nat → Nat → List Int32 → Option (List Int32)
  | 0, _, out => cyE st out
  | f + 1, p, out => if st.length ≤ p then cyE st out else if bv st p = 145 then (if p + 2 < st.length ∧ bv st (p + 1) + bv st (p + 2) ≤ ot.length ∧ out.length + bv st (p + 2) ≤ 120 then cyF st ot f (p + 3) (out ++ (ot.drop (bv st (p + 1))).take (bv st (p + 2))) else none) else (if 0 < bv st p ∧ bv st p ≤ 127 ∧ p + 1 + bv st p ≤ st.length ∧ out.length + bv st p ≤ 120 then cyF st ot f (p + 1 + bv st p) (out ++ (st.drop (p + 1)).take (bv st p)) else none)
def cyo (st ot : List Int32) : Option (List Int32) := if st.length < 2 ∨ ¬ st.getD 0 0 = nI ot.length then none else cyF st ot st.length 2 []
theorem cyF_end {st ot out : List Int32} {p : Nat} (h : st.length ≤ p) : ∀ f, cyF st ot f p out = cyE st out
  | 0 => rfl
  | f + 1 => by rw [cyF, if_pos h]
theorem byt_drop {L : List Int32} {n : Nat} (h : byt L) : byt (L.drop n) := fun b hb => h b (List.mem_of_mem_drop hb)
theorem cyE_p {st out L : List Int32} (h : cyE st out = some L) : L = out := by
  unfold cyE at h
  by_cases g : nI out.length = st.getD 1 0
  · rw [if_pos g] at h; cases h; rfl
  · rw [if_neg g] at h; cases h
theorem cyF_p {st ot : List Int32} (hs : byt st) (ho : byt ot) : ∀ (f p : Nat) (out L : List Int32), byt out → out.length ≤ 120 → cyF st ot f p out = some L → byt L ∧ L.length ≤ 120
  | 0, p, out, L, h1, h2, h => by
    have := cyE_p h
    rw [this]
    exact ⟨h1, h2⟩
  | f + 1, p, out, L, h1, h2, h => by
    rw [cyF] at h
    by_cases g0 : st.length ≤ p
    · rw [if_pos g0] at h
      have := cyE_p h
      rw [this]
      exact ⟨h1, h2⟩
    · rw [if_neg g0] at h
      by_cases g1 : bv st p = 145
      · rw [if_pos g1] at h
        by_cases g2 : p + 2 < st.length ∧ bv st (p + 1) + bv st (p + 2) ≤ ot.length ∧ out.length + bv st (p + 2) ≤ 120
        · rw [if_pos g2] at h
          exact cyF_p hs ho f _ _ L (byt_app h1 (byt_take (byt_drop ho))) (by rw [List.length_append, List.length_take]; omega) h
        · rw [if_neg g2] at h; cases h
      · rw [if_neg g1] at h
        by_cases g2 : 0 < bv st p ∧ bv st p ≤ 127 ∧ p + 1 + bv st p ≤ st.length ∧ out.length + bv st p ≤ 120
        · rw [if_pos g2] at h
          exact cyF_p hs ho f _ _ L (byt_app h1 (byt_take (byt_drop hs))) (by rw [List.length_append, List.length_take]; omega) h
        · rw [if_neg g2] at h; cases h
theorem cyo_p {st ot L : List Int32} (hs : byt st) (ho : byt ot) (h : cyo st ot = some L) : byt L ∧ L.length ≤ 120 := by
  unfold cyo at h
  by_cases g : st.length < 2 ∨ ¬ st.getD 0 0 = nI ot.length
  · rw [if_pos g] at h; cases h
  · rw [if_neg g] at h
    exact cyF_p hs ho _ _ _ L byt_nil (by decide) h
theorem s_carry {c : cM} {ρ : Nat → List Int32} {γ : cM} {a b o : Nat} {K : Int32 → cM → Prop} (h : Rep c ρ γ) (ha : kd a = 1) (hb : kd b = 1) (ho : kd o = 1) (hao : a ≠ o) (hbo : b ≠ o) (hl : ln (o + 1) = 120) (he : ρ o = []) (hby : byt (ρ a)) (hla : (ρ a).length ≤ 120) (hlb : (ρ b).length ≤ 120) (h1 : ∀ L, cyo (ρ a) (ρ b) = some L → ∀ c', Rep c' (fu ρ o L) γ → K 1 c') (h0 : cyo (ρ a) (ρ b) = none → ∀ c' L, Rep c' (fu ρ o L) γ → K 0 c') : f_Diff_carryOut a b o c K := by
  have R0 : Rep c (fu ρ o []) γ := by
    have : fu ρ o [] = ρ := by rw [← he]; exact fu_id
    rw [this]; exact h
  have ca : c a 1 = nI (ρ a).length := (h.1 a ha).1
  have cb : c b 1 = nI (ρ b).length := (h.1 b hb).1
  unfold f_Diff_carryOut
  rw [ca]
  refine ⟨ha, fun g => h0 (by unfold cyo; rw [if_pos (Or.inl ((nI_ltI (b := 2) (by omega) (by decide)).mp g))]) c [] R0, fun g => ?_⟩
  have g1 : ¬ (ρ a).length < 2 := fun q => g (nI_lt (b := 2) q (by decide))
  refine s_at (x := nI 0) h ha ⟨hb, ?_⟩
  rw [atL_nI (by omega) (by omega), cb]
  refine ⟨fun g2 => ?_, fun g2 => h0 (by unfold cyo; rw [if_pos (Or.inr g2)]) c [] R0⟩
  have ec : cyo (ρ a) (ρ b) = cyF (ρ a) (ρ b) (ρ a).length 2 [] := by unfold cyo; rw [if_neg (by intro q; rcases q with q | q; exact g1 q; exact q g2)]
  refine ⟨fun m y c' => ∃ f p out, m + p = (ρ a).length ∧ y = nI p ∧ Rep c' (fu ρ o out) γ ∧ (ρ a).length ≤ p + f ∧ out.length ≤ 120 ∧ cyo (ρ a) (ρ b) = cyF (ρ a) (ρ b) f p out, ⟨(ρ a).length - 2, (ρ a).length, 2, [], by omega, rfl, R0, by omega, by decide, ec⟩, ?_⟩
  rintro m y c12 ⟨f, p, out, hm, rfl, h12, hf, hout, hc⟩
  have ae : fu ρ o out a = ρ a := fu_ne hao
  have be : fu ρ o out b = ρ b := fu_ne hbo
  have c12a : c12 a 1 = nI (ρ a).length := by rw [(h12.1 a ha).1, ae]
  have c12o : c12 o 1 = nI out.length := by rw [(h12.1 o ho).1, fu_self]
  rw [c12a, c12o]
  refine ⟨fun g3 => ⟨ho, ?_⟩, fun g3 => ?_⟩
  · have g4 : (ρ a).length ≤ p := (nI_leI (by omega) (by omega)).mp g3
    rw [cyF_end g4] at hc
    refine s_at (x := nI 1) h12 ha ?_
    rw [ae, atL_nI (by omega) (by omega)]
    unfold cyE at hc
    refine ⟨fun g5 => ?_, fun g5 => ?_⟩
    · rw [if_neg g5] at hc
      exact h0 hc c12 out h12
    · rw [if_pos g5] at hc
      exact h1 out hc c12 h12
  · have g4 : p < (ρ a).length := by
      rcases Nat.lt_or_ge p (ρ a).length with w | w
      · exact w
      · exact absurd (nI_le w (by omega)) g3
    obtain ⟨f', rfl⟩ : ∃ f', f = f' + 1 := ⟨f - 1, by omega⟩
    rw [cyF, if_neg (by omega)] at hc
    have v0 := bv_e hby g4
    refine s_at h12 ha ?_
    rw [ae, atL_nI g4 (by omega), v0.1]
    refine ⟨fun y34 y35 c36 => (y35 = 0 ∧ cyo (ρ a) (ρ b) = none ∧ ∃ L, Rep c36 (fu ρ o L) γ) ∨ (¬ y35 = 0 ∧ ∃ p' out', y34 = nI p' ∧ p < p' ∧ p' ≤ (ρ a).length ∧ Rep c36 (fu ρ o out') γ ∧ out'.length ≤ 120 ∧ cyo (ρ a) (ρ b) = cyF (ρ a) (ρ b) f' p' out'), ?_, fun g5 => ?_, fun g5 => ?_⟩
    · rintro y34 y35 c36 (⟨q1, q2, L, q3⟩ | ⟨q1, p', out', q2, q3, q4, q5, q6, q7⟩)
      · exact ⟨fun w => absurd q1 w, fun _ => h0 q2 c36 L q3⟩
      · exact ⟨fun _ => ⟨(ρ a).length - p', by omega, f', p', out', by omega, q2, q5, by omega, q6, q7⟩, fun w => absurd w q1⟩
    · have g6 : ¬ bv (ρ a) p = 145 := fun q => g5 (by rw [q]; rfl)
      rw [if_neg g6] at hc
      rw [show (1 : Int32) + nI (bv (ρ a) p) = nI (1 + bv (ρ a) p) from nI_add 1 _, nI_add, show nI p + 1 = nI (p + 1) from (nI_succ p).symm]
      have bad : ¬ (0 < bv (ρ a) p ∧ bv (ρ a) p ≤ 127 ∧ p + 1 + bv (ρ a) p ≤ (ρ a).length ∧ out.length + bv (ρ a) p ≤ 120) → cyo (ρ a) (ρ b) = none := fun q => by rw [if_neg q] at hc; exact hc
      refine ⟨fun s c' => (s = 0 ∧ cyo (ρ a) (ρ b) = none ∧ ∃ L, Rep c' (fu ρ o L) γ) ∨ (¬ s = 0 ∧ ∃ p' out', nI (p + (1 + bv (ρ a) p)) = nI p' ∧ p < p' ∧ p' ≤ (ρ a).length ∧ Rep c' (fu ρ o out') γ ∧ out'.length ≤ 120 ∧ cyo (ρ a) (ρ b) = cyF (ρ a) (ρ b) f' p' out'), fun s c' q => q, fun c' => cyo (ρ a) (ρ b) = none ∧ ∃ L, Rep c' (fu ρ o L) γ, fun c' q => Or.inl ⟨rfl, q⟩, fun g7 => ?_, fun g7 => ⟨fun g8 => ?_, fun g8 => ⟨ho, ?_⟩⟩⟩
      · have := (nI_leI (b := 0) (by omega) (by decide)).mp g7
        exact ⟨bad (fun q => by omega), out, h12⟩
      · have := (nI_ltI (a := 127) (by decide) (by omega)).mp g8
        exact ⟨bad (fun q => by omega), out, h12⟩
      · have g9 : 0 < bv (ρ a) p := by
          rcases Nat.eq_zero_or_pos (bv (ρ a) p) with q | q
          · rw [q] at g7; exact absurd (by decide) g7
          · exact q
        have g10 : bv (ρ a) p ≤ 127 := by
          rcases Nat.lt_or_ge 127 (bv (ρ a) p) with q | q
          · exact absurd (nI_lt (a := 127) q (by omega)) g8
          · exact q
        refine s_putPart h12 ho ha hao (by omega) (by omega) (fun q1 q2 c60 h60 => ⟨fun w => absurd w (by decide), fun _ => ?_⟩) (fun q1 => ⟨fun _ => ?_, fun w => absurd rfl w⟩)
        · rw [ae] at q1
          rw [fu_self, hl] at q2
          rw [fu_self, fu_fu, ae] at h60
          rw [if_pos ⟨g9, g10, q1, q2⟩] at hc
          exact Or.inr ⟨by decide, p + 1 + bv (ρ a) p, _, by rw [Nat.add_assoc], by omega, q1, h60, by rw [List.length_append, List.length_take]; omega, hc⟩
        · rw [ae, fu_self, hl] at q1
          exact ⟨bad (fun q => q1 ⟨q.2.2.1, q.2.2.2⟩), out, h12⟩
    · have g6 : bv (ρ a) p = 145 := (nI_eq (b := 145) (by omega) (by decide)).mp g5
      rw [if_pos g6] at hc
      rw [show nI p + 1 = nI (p + 1) from (nI_succ p).symm, show nI p + 2 = nI (p + 2) from nI_add p 2, show nI p + 3 = nI (p + 3) from nI_add p 3]
      have bad : ¬ (p + 2 < (ρ a).length ∧ bv (ρ a) (p + 1) + bv (ρ a) (p + 2) ≤ (ρ b).length ∧ out.length + bv (ρ a) (p + 2) ≤ 120) → cyo (ρ a) (ρ b) = none := fun q => by rw [if_neg q] at hc; exact hc
      refine s_at h12 ha (s_at h12 ha ⟨ho, ?_⟩)
      rw [ae]
      by_cases g7 : p + 2 < (ρ a).length
      · have v1 := bv_e hby (show p + 1 < (ρ a).length by omega)
        have v2 := bv_e hby g7
        rw [atL_nI (show p + 1 < (ρ a).length by omega) (by omega), atL_nI g7 (by omega), v1.1, v2.1]
        refine s_putPart h12 ho hb hbo (by omega) (by omega) (fun q1 q2 c60 h60 => ?_) (fun q1 => ?_)
        · rw [be] at q1
          rw [fu_self, hl] at q2
          rw [fu_self, fu_fu, be] at h60
          rw [if_pos ⟨g7, q1, q2⟩] at hc
          exact Or.inr ⟨by decide, p + 3, _, rfl, by omega, by omega, h60, by rw [List.length_append, List.length_take]; omega, hc⟩
        · rw [be, fu_self, hl] at q1
          exact Or.inl ⟨rfl, bad (fun q => q1 ⟨q.2.1, q.2.2⟩), out, h12⟩
      · rw [atL_out (j := p + 2) (by omega) (by omega)]
        exact s_putPart0 (Or.inr (by decide)) (Or.inl ⟨rfl, bad (fun q => g7 q.1), out, h12⟩)
