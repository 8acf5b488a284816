def Mch (x : List Int32) (f : Nat) (y : List Int32) (p k : Nat) : Prop := f + k < x.length ∧ p + k < y.length ∧ x.getD (f + k) 0 = y.getD (p + k) 0
def cpl : List Int32 → List Int32 → Nat
  | a :: l, b :: m => if a = b then cpl l m + 1 else 0
  | [], _ => 0
  | _ :: _, [] => 0
/-- how many bytes agree from two places on -/
def alk (x : List Int32) (f : Nat) (y : List Int32) (p : Nat) : Nat := cpl (x.drop f) (y.drop p)
theorem dr_c {x : List Int32} {f : Nat} (h : f < x.length) : x.drop f = x.getD f 0 :: x.drop (f + 1) := by
  rw [List.drop_eq_getElem_cons h, List.getD_eq_getElem?_getD, List.getElem?_eq_getElem h]
  rfl
theorem cpl_nil2 : ∀ l : List Int32, cpl l [] = 0
  | [] => rfl
  | _ :: _ => rfl
theorem alk_0 {x y : List Int32} {f p : Nat} (h : ¬ Mch x f y p 0) : alk x f y p = 0 := by
  unfold alk
  by_cases hx : f < x.length
  · by_cases hy : p < y.length
    · rw [dr_c hx, dr_c hy, cpl]
      exact if_neg (fun e => h ⟨hx, hy, e⟩)
    · rw [List.drop_of_length_le (show y.length ≤ p by omega), cpl_nil2]
  · rw [List.drop_of_length_le (show x.length ≤ f by omega)]
    rfl
theorem alk_s {x y : List Int32} {f p : Nat} (h : Mch x f y p 0) : alk x f y p = alk x (f + 1) y (p + 1) + 1 := by
  unfold alk
  obtain ⟨h1, h2, h3⟩ := h
  rw [Nat.add_zero] at h1 h2 h3
  rw [Nat.add_zero] at h3
  rw [dr_c h1, dr_c h2, cpl, if_pos h3]
theorem Mch_s {x y : List Int32} {f p k : Nat} : Mch x f y p (k + 1) ↔ Mch x (f + 1) y (p + 1) k := by
  unfold Mch
  rw [show f + (k + 1) = f + 1 + k by omega, show p + (k + 1) = p + 1 + k by omega]
theorem alk_eq {x y : List Int32} : ∀ (n f p : Nat), (∀ k, k < n → Mch x f y p k) → ¬ Mch x f y p n → alk x f y p = n
  | 0, f, p, _, h => alk_0 h
  | n + 1, f, p, h1, h2 => by
    rw [alk_s (h1 0 (by omega)), alk_eq n (f + 1) (p + 1) (fun k hk => Mch_s.mp (h1 (k + 1) (by omega))) (fun w => h2 (Mch_s.mpr w))]
theorem alk_m {x y : List Int32} : ∀ (k f p : Nat), k < alk x f y p → Mch x f y p k
  | 0, f, p, h => Classical.byContradiction (fun w => by rw [alk_0 w] at h; exact absurd h (Nat.not_lt_zero _))
  | k + 1, f, p, h => by
    have h0 : Mch x f y p 0 := Classical.byContradiction (fun w => by rw [alk_0 w] at h; exact absurd h (Nat.not_lt_zero _))
    rw [alk_s h0] at h
    exact Mch_s.mpr (alk_m k (f + 1) (p + 1) (by omega))
theorem alk_le {x y : List Int32} {f p : Nat} : alk x f y p = 0 ∨ f + alk x f y p ≤ x.length ∧ p + alk x f y p ≤ y.length := by
  rcases Nat.eq_zero_or_pos (alk x f y p) with h | h
  · exact Or.inl h
  · obtain ⟨h1, h2, -⟩ := alk_m (x := x) (y := y) (alk x f y p - 1) f p (by omega)
    exact Or.inr ⟨by omega, by omega⟩
theorem s_alike {c : cM} {ρ : Nat → List Int32} {γ : cM} {r q f p : Nat} {K : Int32 → cM → Prop} (h : Rep c ρ γ) (hr : kd r = 1) (hq : kd q = 1) (hf : f < 5000) (hp : p < 5000) (hk : K (nI (alk (ρ r) f (ρ q) p)) c) : f_Diff_alike r (nI f) q (nI p) c K := by
  obtain ⟨k1, k2, k3⟩ := row_k hr
  obtain ⟨l1, l2, l3⟩ := row_k hq
  obtain ⟨w1, w2, w3⟩ := h.1 r hr
  obtain ⟨v1, v2, v3⟩ := h.1 q hq
  unfold f_Diff_alike
  rw [k1, l1, w1, v1]
  refine ⟨fun m y => ∃ n, m + n = 5000 ∧ n ≤ (ρ r).length ∧ y = nI n ∧ ∀ k, k < n → Mch (ρ r) f (ρ q) p k, ⟨5000, 0, rfl, Nat.zero_le _, rfl, fun k hk => absurd hk (Nat.not_lt_zero _)⟩, ?_⟩
  rintro m y ⟨n, hm, hn, rfl, hall⟩
  have out : ¬ Mch (ρ r) f (ρ q) p n → K (nI n) c := fun w => by
    rw [alk_eq n f p hall w] at hk
    exact hk
  rw [nI_add, nI_add]
  refine ⟨hr, fun g => out (fun w => ?_), fun g => ⟨hq, fun g2 => out (fun w => ?_), fun g2 => ?_⟩⟩
  · have := (nI_leI (by omega) (by omega)).mp g
    have := w.1
    omega
  · have := (nI_leI (by omega) (by omega)).mp g2
    have := w.2.1
    omega
  · have h1 : f + n < (ρ r).length := by
      rcases Nat.lt_or_ge (f + n) (ρ r).length with w | w
      · exact w
      · exact absurd (nI_le w (by omega)) g
    have h2 : p + n < (ρ q).length := by
      rcases Nat.lt_or_ge (p + n) (ρ q).length with w | w
      · exact w
      · exact absurd (nI_le w (by omega)) g2
    rw [nI_clamp (show f + n < 2 ^ 31 by omega), nI_clamp (show p + n < 2 ^ 31 by omega), w3 _ h1, v3 _ h2]
    refine ⟨k2, vp_in_nI (by omega) (by omega), l2, vp_in_nI (by omega) (by omega), fun g3 => out (fun w => g3 w.2.2), fun g3 => ⟨m - 1, by omega, n + 1, by omega, by omega, (nI_succ n).symm, fun k hk2 => ?_⟩⟩
    by_cases e : k = n
    · rw [e]; exact ⟨h1, h2, g3⟩
    · exact hall k (by omega)
/-- the first place of those that agree longest, and how long -/
def bpl (x y : List Int32) (p : Nat) : Nat → Nat × Nat
  | 0 => (0, 0)
  | n + 1 => if alk x n y p ≤ (bpl x y p n).2 then bpl x y p n else (n, alk x n y p)
def bst (x y : List Int32) (p : Nat) : Nat × Nat := bpl x y p x.length
theorem bpl_p (x y : List Int32) (p : Nat) : ∀ n, (∀ q, q < n → alk x q y p ≤ (bpl x y p n).2) ∧ ((bpl x y p n = (0, 0)) ∨ ((bpl x y p n).1 < n ∧ alk x (bpl x y p n).1 y p = (bpl x y p n).2 ∧ ∀ q, q < (bpl x y p n).1 → alk x q y p < (bpl x y p n).2))
  | 0 => ⟨fun q hq => absurd hq (Nat.not_lt_zero _), Or.inl rfl⟩
  | n + 1 => by
    obtain ⟨h1, h2⟩ := bpl_p x y p n
    rw [bpl]
    by_cases g : alk x n y p ≤ (bpl x y p n).2
    · rw [if_pos g]
      refine ⟨fun q hq => ?_, ?_⟩
      · by_cases e : q = n
        · rw [e]; exact g
        · exact h1 q (by omega)
      · rcases h2 with w | ⟨w1, w2⟩
        · exact Or.inl w
        · exact Or.inr ⟨by omega, w2⟩
    · rw [if_neg g]
      refine ⟨fun q hq => ?_, Or.inr ⟨Nat.lt_succ_self _, rfl, fun q hq => ?_⟩⟩
      · by_cases e : q = n
        · rw [e]; exact Nat.le_refl _
        · have := h1 q (by omega)
          show _ ≤ alk x n y p
          omega
      · have := h1 q hq
        show _ < alk x n y p
        omega
theorem bst_u {x y : List Int32} {p w b : Nat} (h1 : ∀ q, q < x.length → alk x q y p ≤ b) (h2 : (x.length = 0 ∧ w = 0 ∧ b = 0) ∨ (w < x.length ∧ alk x w y p = b ∧ ∀ q, q < w → alk x q y p < b)) : bst x y p = (w, b) := by
  unfold bst
  obtain ⟨g1, g2⟩ := bpl_p x y p x.length
  rcases h2 with ⟨a1, a2, a3⟩ | ⟨a1, a2, a3⟩
  · rcases g2 with e | ⟨e, -⟩
    · rw [e, a2, a3]
    · omega
  · rcases g2 with e | ⟨e1, e2, e3⟩
    · rw [e] at g1 ⊢
      have h3 := g1 w a1
      have h5 : b = 0 := by
        have : alk x w y p ≤ 0 := h3
        omega
      have h4 : w = 0 := by
        rcases Nat.eq_zero_or_pos w with q | q
        · exact q
        · have := a3 0 q
          omega
      rw [h4, h5]
    · generalize bpl x y p x.length = B at g1 e1 e2 e3
      have h3 := g1 w a1
      have h4 := h1 B.1 e1
      have h5 : B.2 = b := by omega
      have h6 : B.1 = w := by
        rcases Nat.lt_trichotomy B.1 w with q | q | q
        · have := a3 B.1 q
          omega
        · exact q
        · have := e3 w q
          omega
      rw [← h5, ← h6]
theorem bst_a {x y : List Int32} {p : Nat} : alk x (bst x y p).1 y p = (bst x y p).2 := by
  unfold bst
  obtain ⟨g1, g2⟩ := bpl_p x y p x.length
  rcases g2 with e | ⟨e1, e2, e3⟩
  · rw [e] at g1 ⊢
    rcases Nat.eq_zero_or_pos x.length with q | q
    · show alk x 0 y p = 0
      refine alk_0 (fun w => ?_)
      have := w.1
      omega
    · have : alk x 0 y p ≤ 0 := g1 0 q
      show alk x 0 y p = 0
      omega
  · exact e2
theorem bst_l {x y : List Int32} {p : Nat} : (bst x y p).1 ≤ x.length := by
  unfold bst
  obtain ⟨g1, g2⟩ := bpl_p x y p x.length
  rcases g2 with e | ⟨e1, e2, e3⟩
  · rw [e]; exact Nat.zero_le _
  · omega
theorem s_bestPlace {c : cM} {ρ : Nat → List Int32} {γ : cM} {r q p : Nat} {K : Int32 → cM → Prop} (h : Rep c ρ γ) (hr : kd r = 1) (hq : kd q = 1) (hp : p < 5000) (hk : K (nI (bst (ρ r) (ρ q) p).1) c) : f_Diff_bestPlace r q (nI p) c K := by
  obtain ⟨k1, k2, k3⟩ := row_k hr
  obtain ⟨w1, w2, w3⟩ := h.1 r hr
  unfold f_Diff_bestPlace
  refine ⟨fun m y5 y6 y7 c' => ∃ n, m = (ρ r).length - n ∧ n ≤ (ρ r).length ∧ y7 = nI n ∧ y5 = nI (bpl (ρ r) (ρ q) p n).1 ∧ y6 = nI (bpl (ρ r) (ρ q) p n).2 ∧ c' = c, ⟨_, 0, rfl, Nat.zero_le _, rfl, rfl, rfl, rfl⟩, ?_⟩
  rintro m y5 y6 y7 c8 ⟨n, rfl, hn, rfl, rfl, rfl, rfl⟩
  rw [w1]
  refine ⟨hr, fun g => ?_, fun g => s_alike h hr hq (by omega) hp ?_⟩
  · have en : n = (ρ r).length := by
      have := (nI_leI (by omega) (by omega)).mp g
      omega
    rw [en]
    exact hk
  · have hn2 : n < (ρ r).length := by
      rcases Nat.lt_or_ge n (ρ r).length with w | w
      · exact w
      · exact absurd (nI_le w (by omega)) g
    have hb1 : (bpl (ρ r) (ρ q) p n).2 < 3000 := by
      rcases (bpl_p (ρ r) (ρ q) p n).2 with e | ⟨e1, e2, e3⟩
      · rw [e]; decide
      · rw [← e2]
        rcases alk_le (x := ρ r) (y := ρ q) (f := (bpl (ρ r) (ρ q) p n).1) (p := p) with e | e
        · omega
        · omega
    have hb2 : alk (ρ r) n (ρ q) p < 3000 := by
      rcases alk_le (x := ρ r) (y := ρ q) (f := n) (p := p) with e | e
      · omega
      · omega
    refine ⟨fun a b => a = nI (bpl (ρ r) (ρ q) p (n + 1)).1 ∧ b = nI (bpl (ρ r) (ρ q) p (n + 1)).2, fun a b w => ⟨(ρ r).length - (n + 1), by omega, n + 1, rfl, by omega, (nI_succ n).symm, w.1, w.2, rfl⟩, fun g2 => ?_, fun g2 => ?_⟩
    · have := (nI_leI (by omega) (by omega)).mp g2
      rw [bpl, if_pos this]
      exact ⟨rfl, rfl⟩
    · rw [bpl, if_neg (fun w => g2 (nI_le w (by omega)))]
      exact ⟨rfl, rfl⟩
def pn (y : List Int32) (p fr : Nat) : List Int32 := if fr = 0 then [] else nI fr :: (y.drop (p - fr)).take fr
theorem pn_len {y : List Int32} {p fr : Nat} (h1 : fr ≤ p) (h2 : p ≤ y.length) : (pn y p fr).length ≤ fr + 1 ∧ (fr = 0 → (pn y p fr).length = 0) ∧ (¬ fr = 0 → (pn y p fr).length = fr + 1) := by
  unfold pn
  by_cases e : fr = 0
  · rw [if_pos e]
    exact ⟨Nat.zero_le _, fun _ => rfl, fun w => absurd e w⟩
  · rw [if_neg e, List.length_cons, List.length_take, List.length_drop]
    exact ⟨by omega, fun w => absurd w e, fun _ => by omega⟩
theorem s_putNew {c : cM} {ρ : Nat → List Int32} {γ : cM} {r q p fr : Nat} {K : cM → Prop} (h : Rep c ρ γ) (hr : kd r = 1) (hq : kd q = 1) (hne : q ≠ r) (h1 : fr ≤ p) (h2 : p ≤ (ρ q).length) (hl : (ρ r).length + fr + 1 ≤ ln (r + 1)) (hk : ∀ c', Rep c' (fu ρ r (ρ r ++ pn (ρ q) p fr)) γ → K c') : f_Diff_putNew q (nI (p - fr)) (nI fr) r c K := by
  have hql := (h.1 q hq).2.1
  have hql3 := (row_k hq).2.2
  have hrl3 := (row_k hr).2.2
  unfold f_Diff_putNew
  by_cases e : fr = 0
  · subst e
    refine ⟨fun _ => hk c ?_, fun g => absurd (by decide) g⟩
    unfold pn
    rw [if_pos rfl, List.append_nil, fu_id]
    exact h
  · refine ⟨fun g => absurd g (nI_nle (by omega) (by omega)), fun _ => ⟨hr, s_put h hr (by omega) (fun c3 h3 => ?_)⟩⟩
    refine s_putPart h3 hr hq hne (by omega) (by omega) (fun _ _ c4 h4 => hk c4 ?_) (fun w => ?_)
    · rw [fu_self, fu_fu, fu_ne hne, List.append_assoc] at h4
      unfold pn
      rw [if_neg e]
      exact h4
    · rw [fu_ne hne, fu_self, List.length_append, List.length_singleton] at w
      exact absurd ⟨by omega, by omega⟩ w
def dfF (x y : List Int32) : Nat → List Int32 → Nat → Nat → List Int32
  | 0, A, fr, p => A ++ pn y p fr
  | n + 1, A, fr, p => if y.length ≤ p then A ++ pn y p fr else if (bst x y p).2 < 4 then dfF x y n A (fr + 1) (p + 1) else dfF x y n (A ++ pn y p fr ++ [145] ++ [nI (bst x y p).1] ++ [nI (bst x y p).2]) 0 (p + (bst x y p).2)
theorem dfF_end {x y : List Int32} {n : Nat} {A : List Int32} {fr p : Nat} (h : y.length ≤ p) : dfF x y n A fr p = A ++ pn y p fr := by
  cases n with
  | zero => rfl
  | succ n => rw [dfF, if_pos h]
def dif (x y : List Int32) : List Int32 := dfF x y y.length ([nI x.length] ++ [nI y.length]) 0 0
theorem bst_le {x y : List Int32} {p : Nat} (h : 4 ≤ (bst x y p).2) : p + (bst x y p).2 ≤ y.length := by
  have := bst_a (x := x) (y := y) (p := p)
  rcases alk_le (x := x) (y := y) (f := (bst x y p).1) (p := p) with e | e
  · omega
  · omega
theorem dfF_p {x y : List Int32} (hx : x.length ≤ 120) (hy : y.length ≤ 120) (hb : byt y) : ∀ n A fr p, y.length ≤ p + n → fr ≤ p → p ≤ y.length → A.length + fr ≤ 2 + p → byt A → (dfF x y n A fr p).length ≤ y.length + 3 ∧ byt (dfF x y n A fr p) := by
  have hpn : ∀ fr p, fr ≤ p → p ≤ y.length → byt (pn y p fr) := by
    intro fr p h1 h2
    unfold pn
    split
    · exact byt_nil
    · exact byt_cons ⟨fr, by omega, rfl⟩ (fun b hb2 => hb b (List.mem_of_mem_drop (List.mem_of_mem_take hb2)))
  have hend : ∀ (A : List Int32) fr p, fr ≤ p → p ≤ y.length → A.length + fr ≤ 2 + p → byt A → (A ++ pn y p fr).length ≤ y.length + 3 ∧ byt (A ++ pn y p fr) := by
    intro A fr p h1 h2 h3 h4
    have := (pn_len h1 h2).1
    exact ⟨by rw [List.length_append]; omega, byt_app h4 (hpn fr p h1 h2)⟩
  intro n
  induction n with
  | zero => intro A fr p h0 h1 h2 h3 h4; exact hend A fr p h1 h2 h3 h4
  | succ n ih =>
    intro A fr p h0 h1 h2 h3 h4
    rw [dfF]
    by_cases g : y.length ≤ p
    · rw [if_pos g]; exact hend A fr p h1 h2 h3 h4
    · rw [if_neg g]
      by_cases g2 : (bst x y p).2 < 4
      · rw [if_pos g2]
        exact ih A (fr + 1) (p + 1) (by omega) (by omega) (by omega) (by omega) h4
      · rw [if_neg g2]
        have h5 := bst_le (x := x) (y := y) (p := p) (by omega)
        have h6 := bst_l (x := x) (y := y) (p := p)
        have h7 := (pn_len h1 h2).1
        refine ih _ 0 _ (by omega) (by omega) h5 ?_ ?_
        · rw [List.length_append, List.length_append, List.length_append, List.length_append]
          simp only [List.length_singleton]
          omega
        · refine byt_app (byt_app (byt_app (byt_app h4 (hpn fr p h1 h2)) ?_) ?_) ?_
          · exact byt_cons ⟨145, by decide, rfl⟩ byt_nil
          · exact byt_cons ⟨(bst x y p).1, by omega, rfl⟩ byt_nil
          · exact byt_cons ⟨(bst x y p).2, by omega, rfl⟩ byt_nil
theorem dif_p {x y : List Int32} (hx : x.length ≤ 120) (hy : y.length ≤ 120) (hb : byt y) : (dif x y).length ≤ y.length + 3 ∧ byt (dif x y) :=
  dfF_p hx hy hb y.length _ 0 0 (by omega) (by omega) (by omega) (Nat.le_refl _) (byt_app (byt_cons ⟨x.length, by omega, rfl⟩ byt_nil) (byt_cons ⟨y.length, by omega, rfl⟩ byt_nil))
theorem s_diff {c : cM} {ρ : Nat → List Int32} {γ : cM} {r q o : Nat} {K : cM → Prop} (h : Rep c ρ γ) (hr : kd r = 1) (hq : kd q = 1) (ho : kd o = 1) (hor : r ≠ o) (hoq : q ≠ o) (hl : ln (o + 1) = 123) (hx : (ρ r).length ≤ 120) (hy : (ρ q).length ≤ 120) (hk : ∀ c', Rep c' (fu ρ o (dif (ρ r) (ρ q))) γ → K c') : f_Diff_write r q o c K := by
  unfold f_Diff_write
  refine ⟨ho, s_clear h ho (fun c2 h2 => ⟨hr, ?_⟩)⟩
  have g2 : c2 r 1 = nI (ρ r).length := by have := (h2.1 r hr).1; rw [fu_ne hor] at this; exact this
  rw [g2]
  refine s_put h2 ho (by rw [fu_self, hl]; decide) (fun c4 h4 => ⟨hq, ?_⟩)
  rw [fu_self, fu_fu, List.nil_append] at h4
  have g4 : c4 q 1 = nI (ρ q).length := by have := (h4.1 q hq).1; rw [fu_ne hoq] at this; exact this
  rw [g4]
  refine s_put h4 ho (by rw [fu_self, hl, List.length_singleton]; decide) (fun c6 h6 => ?_)
  rw [fu_self, fu_fu] at h6
  refine ⟨fun m y11 y12 c' => ∃ fuel A fr p, m + p = (ρ q).length ∧ y11 = nI fr ∧ y12 = nI p ∧ Rep c' (fu ρ o A) γ ∧ (ρ q).length ≤ p + fuel ∧ fr ≤ p ∧ A.length + fr ≤ 2 + p ∧ dfF (ρ r) (ρ q) fuel A fr p = dif (ρ r) (ρ q), ⟨(ρ q).length, (ρ q).length, _, 0, 0, rfl, rfl, rfl, h6, by omega, by omega, Nat.le_refl _, rfl⟩, ?_⟩
  rintro m y11 y12 c13 ⟨fuel, A, fr, p, hm, rfl, rfl, h13, hfu, hfr, hA, hD⟩
  have g13 : c13 q 1 = nI (ρ q).length := by have := (h13.1 q hq).1; rw [fu_ne hoq] at this; exact this
  have qe : fu ρ o A q = ρ q := fu_ne hoq
  have re : fu ρ o A r = ρ r := fu_ne hor
  rw [g13, pk_sub hfr]
  refine ⟨fun g => ?_, fun g => ?_⟩
  · have hp : (ρ q).length ≤ p := (nI_leI (by omega) (by omega)).mp g
    refine s_putNew h13 ho hq hoq hfr (by rw [qe]; omega) (by rw [fu_self, hl]; omega) (fun c15 h15 => hk c15 ?_)
    rw [fu_self, fu_fu, qe, ← dfF_end (x := ρ r) (n := fuel) hp, hD] at h15
    exact h15
  · have hp : p < (ρ q).length := by
      rcases Nat.lt_or_ge p (ρ q).length with w | w
      · exact w
      · exact absurd (nI_le w (by omega)) g
    refine s_bestPlace h13 hr hq (by omega) ?_
    rw [qe, re]
    have hbl := bst_l (x := ρ r) (y := ρ q) (p := p)
    refine s_alike h13 hr hq (by omega) (by omega) ?_
    rw [qe, re, bst_a]
    obtain ⟨f', rfl⟩ : ∃ f', fuel = f' + 1 := ⟨fuel - 1, by omega⟩
    rw [dfF, if_neg (by omega)] at hD
    have hb2 : (bst (ρ r) (ρ q) p).2 ≤ 120 := by
      rw [← bst_a]
      rcases alk_le (x := ρ r) (y := ρ q) (f := (bst (ρ r) (ρ q) p).1) (p := p) with e | e
      · omega
      · omega
    refine ⟨fun a b c' => ∃ A fr p', a = nI fr ∧ b = nI p' ∧ p < p' ∧ p' ≤ (ρ q).length ∧ Rep c' (fu ρ o A) γ ∧ fr ≤ p' ∧ A.length + fr ≤ 2 + p' ∧ dfF (ρ r) (ρ q) f' A fr p' = dif (ρ r) (ρ q), ?_, fun g2 => ?_, fun g2 => ?_⟩
    · rintro a b c' ⟨A', fr', p', e1, e2, e3, e4, e5, e6, e7, e8⟩
      exact ⟨(ρ q).length - p', by omega, f', A', fr', p', by omega, e1, e2, e5, by omega, e6, e7, e8⟩
    · have g3 : (bst (ρ r) (ρ q) p).2 < 4 := (nI_ltI (b := 4) (by omega) (by decide)).mp g2
      rw [if_pos g3] at hD
      exact ⟨A, fr + 1, p + 1, (nI_succ fr).symm, (nI_succ p).symm, by omega, by omega, h13, by omega, by omega, hD⟩
    · have g3 : ¬ (bst (ρ r) (ρ q) p).2 < 4 := fun w => g2 (nI_lt w (by decide))
      rw [if_neg g3] at hD
      have h5 := bst_le (x := ρ r) (y := ρ q) (p := p) (by omega)
      have hpl := (pn_len (y := ρ q) hfr (by omega)).1
      refine s_putNew h13 ho hq hoq hfr (by rw [qe]; omega) (by rw [fu_self, hl]; omega) (fun c30 h30 => ?_)
      rw [fu_self, fu_fu, qe] at h30
      refine s_put h30 ho (by rw [fu_self, hl, List.length_append]; omega) (fun c31 h31 => ?_)
      rw [fu_self, fu_fu] at h31
      refine s_put h31 ho (by rw [fu_self, hl, List.length_append, List.length_append, List.length_singleton]; omega) (fun c32 h32 => ?_)
      rw [fu_self, fu_fu] at h32
      refine s_put h32 ho (by rw [fu_self, hl, List.length_append, List.length_append, List.length_append]; simp only [List.length_singleton]; omega) (fun c33 h33 => ?_)
      rw [fu_self, fu_fu] at h33
      refine ⟨_, 0, p + (bst (ρ r) (ρ q) p).2, rfl, nI_add _ _, by omega, h5, h33, by omega, ?_, hD⟩
      rw [List.length_append, List.length_append, List.length_append, List.length_append]
      simp only [List.length_singleton]
      omega
