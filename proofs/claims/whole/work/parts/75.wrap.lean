def hdW (n : Nat) : List Int32 := [120] ++ [1] ++ [1] ++ lb (nI n) 0 2 ++ lb (nI (65535 - n)) 0 2
def adf (s : Int32 × Int32) (v : Int32) : Int32 × Int32 := (c_rem (s.1 + v) 65521, c_rem (s.2 + c_rem (s.1 + v) 65521) 65521)
def adl (L : List Int32) : Int32 × Int32 := L.foldl adf (1, 0)
def tlW (L : List Int32) : List Int32 := hb (adl L).2 2 ++ hb (adl L).1 2
def wrp (L : List Int32) : List Int32 := hdW L.length ++ L ++ tlW L
theorem hdW_len (n : Nat) : (hdW n).length = 7 := by
  unfold hdW
  rw [List.length_append, List.length_append, List.length_append, List.length_append, lb_len, lb_len]
  rfl
theorem tlW_len (L : List Int32) : (tlW L).length = 4 := by
  unfold tlW
  rw [List.length_append, hb_len, hb_len]
theorem wrp_len (L : List Int32) : (wrp L).length = L.length + 11 := by
  unfold wrp
  rw [List.length_append, List.length_append, hdW_len, tlW_len]
  omega
theorem byt_lb (x : Int32) : ∀ n k, byt (lb x k n)
  | 0, _ => byt_nil
  | n + 1, k => byt_cons (and255 _) (byt_lb x n (k + 1))
theorem byt_1 {b : Nat} (h : b < 256) : byt [nI b] := byt_cons ⟨b, h, rfl⟩ byt_nil
theorem hdW_byt (n : Nat) : byt (hdW n) := byt_app (byt_app (byt_app (byt_app (byt_1 (b := 120) (by decide)) (byt_1 (b := 1) (by decide))) (byt_1 (b := 1) (by decide))) (byt_lb _ 2 0)) (byt_lb _ 2 0)
theorem tlW_byt (L : List Int32) : byt (tlW L) := byt_app (byt_hb _ 2) (byt_hb _ 2)
theorem wrp_byt {L : List Int32} (h : byt L) : byt (wrp L) := byt_app (byt_app (hdW_byt _) h) (tlW_byt _)
theorem adl_s {L : List Int32} {j : Nat} (h : j < L.length) : adl (L.take (j + 1)) = adf (adl (L.take j)) (L.getD j 0) := by
  unfold adl
  rw [List.take_succ, List.foldl_append, List.getD_eq_getElem?_getD, List.getElem?_eq_getElem h]
  rfl
def mkB (t n : Nat) : List Int32 := [nI (n % 16 + 16 * t + (if n ≤ 15 then 0 else 128))] ++ (if n ≤ 15 then [] else [nI (n / 16)])
def dsB (d : Nat) : List Int32 := if 128 ≤ d then [nI (128 + (d - 128) / 128)] ++ [nI ((d - 128) % 128)] else [nI d]
theorem mkB_len (t n : Nat) : (mkB t n).length ≤ 2 := by
  unfold mkB
  rw [List.length_append]
  split
  · exact Nat.le_succ _
  · exact Nat.le_refl _
theorem mkB_byt {t n : Nat} (ht : t ≤ 6) (hn : n ≤ 123) : byt (mkB t n) := by
  unfold mkB
  refine byt_app (byt_1 ?_) ?_
  · split <;> omega
  · split
    · exact byt_nil
    · exact byt_1 (by omega)
theorem dsB_len (d : Nat) : (dsB d).length ≤ 2 := by
  unfold dsB
  split
  · exact Nat.le_refl _
  · exact Nat.le_succ _
theorem dsB_byt {d : Nat} (h : d ≤ 2400) : byt (dsB d) := by
  unfold dsB
  split
  · exact byt_app (byt_1 (by omega)) (byt_1 (by omega))
  · exact byt_1 (by omega)
theorem shr4 {n : Nat} (h : n < 2 ^ 31) : c_shr (nI n) 4 = nI (n / 16) := by
  unfold c_shr
  exact pk_shrN h _ 4 (by decide)
theorem and15 {n : Nat} (h : n < 2 ^ 31) : nI n &&& 15 = nI (n % 16) := pk_andN (by omega) 4 (by decide)
theorem i16 (n : Nat) : (16 : Int32) * nI n = nI (16 * n) := pk_mul 16 n
theorem s_putMark {c : cM} {ρ : Nat → List Int32} {γ : cM} {r t n : Nat} {K : cM → Prop} (h : Rep c ρ γ) (hr : kd r = 1) (ht : t ≤ 6) (hn : n ≤ 123) (hl : (ρ r).length + 2 ≤ ln (r + 1)) (hk : ∀ c', Rep c' (fu ρ r (ρ r ++ mkB t n)) γ → K c') : f_Wri_putMark (nI t) (nI n) r c K := by
  unfold f_Wri_putMark
  rw [shr4 (by omega), and15 (by omega), i16, nI_add]
  refine ⟨fun s => s = nI (if n ≤ 15 then 0 else 128), ?_, fun g => ?_, fun g => ?_⟩
  · rintro s rfl
    rw [nI_add]
    refine ⟨hr, s_put h hr (by omega) (fun c6 h6 => ⟨fun g => ?_, fun g => ?_⟩)⟩
    · have g1 : n / 16 ≤ 0 := (nI_leI (b := 0) (by omega) (by decide)).mp g
      have g2 : n ≤ 15 := by omega
      refine hk c6 ?_
      unfold mkB
      rw [if_pos g2, if_pos g2, List.append_nil]
      rw [if_pos g2] at h6
      exact h6
    · have g2 : ¬ n ≤ 15 := fun w => g (nI_le (b := 0) (by omega) (by decide))
      refine s_put h6 hr (by rw [fu_self, List.length_append, List.length_singleton]; omega) (fun c8 h8 => hk c8 ?_)
      unfold mkB
      rw [fu_self, fu_fu, if_neg g2] at h8
      rw [if_neg g2, if_neg g2, ← List.append_assoc]
      exact h8
  · have g1 : n / 16 ≤ 0 := (nI_leI (b := 0) (by omega) (by decide)).mp g
    rw [if_pos (by omega)]
    rfl
  · have g2 : ¬ n ≤ 15 := fun w => g (nI_le (b := 0) (by omega) (by decide))
    rw [if_neg g2]
    rfl
theorem i128 {d : Nat} (h : 128 ≤ d) : nI d - 128 = nI (d - 128) := pk_sub (b := 128) h
theorem rem128 {n : Nat} (h : n < 2 ^ 31) : c_rem (nI n) 128 = nI (n % 128) := by
  unfold c_rem
  exact pk_rem (d := 128) h (by decide) (by decide)
theorem s_putDistance {c : cM} {ρ : Nat → List Int32} {γ : cM} {r d : Nat} {K : cM → Prop} (h : Rep c ρ γ) (hr : kd r = 1) (hd : d ≤ 2400) (hl : (ρ r).length + 2 ≤ ln (r + 1)) (hk : ∀ c', Rep c' (fu ρ r (ρ r ++ dsB d)) γ → K c') : f_Wri_putDistance (nI d) r c K := by
  unfold f_Wri_putDistance
  refine ⟨fun g => ⟨hr, ?_⟩, fun g => ⟨hr, ?_⟩⟩
  · have g1 : 128 ≤ d := (nI_leI (a := 128) (by decide) (by omega)).mp g
    rw [i128 g1, rem128 (by omega), show nI (d - 128) / 128 = nI ((d - 128) / 128) from pk_div (d := 128) (by omega) (by decide) (by decide), show (128 : Int32) + nI ((d - 128) / 128) = nI (128 + (d - 128) / 128) from nI_add 128 _]
    refine s_put h hr (by omega) (fun c3 h3 => s_put h3 hr (by rw [fu_self, List.length_append, List.length_singleton]; omega) (fun c4 h4 => hk c4 ?_))
    unfold dsB
    rw [fu_self, fu_fu] at h4
    rw [if_pos g1, ← List.append_assoc]
    exact h4
  · have g1 : ¬ 128 ≤ d := fun w => g (nI_le (a := 128) w (by omega))
    refine s_put h hr (by omega) (fun c3 h3 => hk c3 ?_)
    unfold dsB
    rw [if_neg g1]
    exact h3
theorem s_putTail {c : cM} {ρ : Nat → List Int32} {γ : cM} {q r : Nat} {K : cM → Prop} (h : Rep c ρ γ) (hq : kd q = 1) (hr : kd r = 1) (hl : (ρ r).length + 4 ≤ ln (r + 1)) (hk : ∀ c', Rep c' (fu ρ r (ρ r ++ tlW (ρ q))) γ → K c') : f_Wrap_putTail q r c K := by
  obtain ⟨w1, w2, w3⟩ := h.1 q hq
  have w4 := (row_k hq).2.2
  unfold f_Wrap_putTail
  refine ⟨fun m y5 y6 y7 c' => ∃ j, m = (ρ q).length - j ∧ j ≤ (ρ q).length ∧ y7 = nI j ∧ (y5, y6) = adl ((ρ q).take j) ∧ c' = c, ⟨(ρ q).length, 0, rfl, Nat.zero_le _, rfl, rfl, rfl⟩, ?_⟩
  rintro m y5 y6 y7 c8 ⟨j, hm, hj, rfl, e, rfl⟩
  rw [w1]
  refine ⟨hq, fun g => ⟨hr, ?_⟩, fun g => ?_⟩
  · have g1 : (ρ q).length ≤ j := (nI_leI (by omega) (by omega)).mp g
    rw [List.take_of_length_le g1] at e
    have e1 : y5 = (adl (ρ q)).1 := by rw [← e]
    have e2 : y6 = (adl (ρ q)).2 := by rw [← e]
    rw [e1, e2]
    refine s_putHigh (n := 2) h hr (by decide) (by omega) (fun c12 h12 => s_putHigh (n := 2) h12 hr (by decide) (by rw [fu_self, List.length_append, hb_len]; omega) (fun c13 h13 => hk c13 ?_))
    rw [fu_self, fu_fu, List.append_assoc] at h13
    exact h13
  · have g1 : j < (ρ q).length := by
      rcases Nat.lt_or_ge j (ρ q).length with w | w
      · exact w
      · exact absurd (nI_le w (by omega)) g
    refine s_at h hq ⟨m - 1, by omega, j + 1, by omega, by omega, (nI_succ j).symm, ?_, rfl⟩
    rw [atL_nI g1 (by omega), adl_s g1, ← e]
    rfl
theorem s_putHead {c : cM} {ρ : Nat → List Int32} {γ : cM} {r n : Nat} {K : cM → Prop} (h : Rep c ρ γ) (hr : kd r = 1) (hn : n ≤ 123) (hl : (ρ r).length + 7 ≤ ln (r + 1)) (hk : ∀ c', Rep c' (fu ρ r (ρ r ++ hdW n)) γ → K c') : f_Wrap_putHead (nI n) r c K := by
  unfold f_Wrap_putHead
  rw [show (65535 : Int32) - nI n = nI (65535 - n) from pk_sub (a := 65535) (by omega)]
  refine ⟨hr, s_put h hr (by omega) (fun c2 h2 => s_put h2 hr (by rw [fu_self, List.length_append, List.length_singleton]; omega) (fun c3 h3 => ?_))⟩
  rw [fu_self, fu_fu] at h3
  refine s_put h3 hr (by rw [fu_self, List.length_append, List.length_append, List.length_singleton]; simp only [List.length_singleton]; omega) (fun c4 h4 => ?_)
  rw [fu_self, fu_fu] at h4
  refine s_putLow (n := 2) h4 hr (by decide) (by rw [fu_self, List.length_append, List.length_append, List.length_append]; simp only [List.length_singleton]; omega) (fun c5 h5 => ?_)
  rw [fu_self, fu_fu] at h5
  refine s_putLow (n := 2) h5 hr (by decide) (by rw [fu_self, List.length_append, List.length_append, List.length_append, List.length_append, lb_len]; simp only [List.length_singleton]; omega) (fun c6 h6 => hk c6 ?_)
  rw [fu_self, fu_fu] at h6
  unfold hdW
  simp only [List.append_assoc] at h6 ⊢
  exact h6
theorem s_putWrapped {c : cM} {ρ : Nat → List Int32} {γ : cM} {q r : Nat} {K : cM → Prop} (h : Rep c ρ γ) (hq : kd q = 1) (hr : kd r = 1) (hne : q ≠ r) (hn : (ρ q).length ≤ 123) (hl : (ρ r).length + (ρ q).length + 11 ≤ ln (r + 1)) (hk : ∀ c', Rep c' (fu ρ r (ρ r ++ wrp (ρ q))) γ → K c') : f_Wri_putWrapped q r c K := by
  unfold f_Wri_putWrapped
  rw [(h.1 q hq).1]
  refine ⟨hq, s_putHead h hr hn (by omega) (fun c2 h2 => ⟨hr, ?_⟩)⟩
  have g2 : c2 q 1 = nI (ρ q).length := by have := (h2.1 q hq).1; rw [fu_ne hne] at this; exact this
  have qe : fu ρ r (ρ r ++ hdW (ρ q).length) q = ρ q := fu_ne hne
  rw [g2]
  refine s_putPart (a := 0) h2 hr hq hne (by decide) (by omega) ?_ ?_
  · intro _ _ c4 h4
    rw [fu_self, fu_fu, qe, List.drop_zero, List.take_of_length_le (Nat.le_refl _)] at h4
    have qe4 : fu ρ r (ρ r ++ hdW (ρ q).length ++ ρ q) q = ρ q := fu_ne hne
    refine s_putTail h4 hq hr (by rw [fu_self, List.length_append, List.length_append, hdW_len]; omega) (fun c6 h6 => hk c6 ?_)
    rw [fu_self, fu_fu, qe4] at h6
    unfold wrp
    simp only [List.append_assoc] at h6 ⊢
    exact h6
  · intro w
    refine absurd ⟨?_, ?_⟩ w
    · rw [qe]; omega
    · rw [fu_self, List.length_append, hdW_len]; omega
