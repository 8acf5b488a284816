def bv (P : List Int32) (p : Nat) : Nat := (P.getD p 0).toNatClampNeg
theorem bv_e {P : List Int32} (h : byt P) {p : Nat} (hp : p < P.length) : P.getD p 0 = nI (bv P p) ∧ bv P p < 256 := by
  obtain ⟨b, hb, e⟩ := byt_get h hp
  have : bv P p = b := by unfold bv; rw [e, nI_clamp (by omega)]
  rw [this]
  exact ⟨e, hb⟩
def rsb {α β : Type} (r : Int32 ⊕ α) (f : α → Int32 ⊕ β) : Int32 ⊕ β := match r with
  | .inl v => .inl v
  | .inr a => f a
theorem rsb_l {α β : Type} {v : Int32} {f : α → Int32 ⊕ β} : rsb (.inl v) f = .inl v := rfl
theorem rsb_r {α β : Type} {a : α} {f : α → Int32 ⊕ β} : rsb (.inr a) f = f a := rfl
def rdE (P : List Int32) (e : Nat) : List Int32 → Nat → Int32 ⊕ Nat
  | [], p => .inr p
  | b :: L, p => if p < e then (if P.getD p 0 = b then rdE P e L (p + 1) else .inl (-9)) else .inl (-5)
theorem rdE_app (P : List Int32) (e : Nat) (B : List Int32) : ∀ (A : List Int32) (p : Nat), rdE P e (A ++ B) p = rsb (rdE P e A p) (rdE P e B)
  | [], p => rfl
  | b :: A, p => by
    rw [List.cons_append, rdE, rdE]
    by_cases h : p < e
    · rw [if_pos h, if_pos h]
      by_cases h2 : P.getD p 0 = b
      · rw [if_pos h2, if_pos h2]; exact rdE_app P e B A (p + 1)
      · rw [if_neg h2, if_neg h2]; rfl
    · rw [if_neg h, if_neg h]; rfl
theorem rdE_q {P : List Int32} {e : Nat} : ∀ (L : List Int32) (p q : Nat), p ≤ e → rdE P e L p = .inr q → q = p + L.length ∧ q ≤ e
  | [], p, q, hp, h => by cases h; exact ⟨rfl, hp⟩
  | b :: L, p, q, hp, h => by
    rw [rdE] at h
    by_cases h1 : p < e
    · rw [if_pos h1] at h
      by_cases h2 : P.getD p 0 = b
      · rw [if_pos h2] at h
        obtain ⟨e1, e2⟩ := rdE_q L (p + 1) q (by omega) h
        exact ⟨by rw [e1, List.length_cons]; omega, e2⟩
      · rw [if_neg h2] at h; cases h
    · rw [if_neg h1] at h; cases h
def ng (v : Int32) : Prop := v = -5 ∨ v = -6 ∨ v = -7 ∨ v = -8 ∨ v = -9 ∨ v = -10
theorem ng_n {v : Int32} (h : ng v) : ¬ v = 0 ∧ ¬ 0 ≤ v := by
  rcases h with rfl | rfl | rfl | rfl | rfl | rfl <;> decide
theorem rdE_g {P : List Int32} {e : Nat} {v : Int32} : ∀ (L : List Int32) (p : Nat), rdE P e L p = .inl v → ng v
  | [], p, h => by cases h
  | b :: L, p, h => by
    rw [rdE] at h
    by_cases h1 : p < e
    · rw [if_pos h1] at h
      by_cases h2 : P.getD p 0 = b
      · rw [if_pos h2] at h; exact rdE_g L (p + 1) h
      · rw [if_neg h2] at h; cases h; exact Or.inr (Or.inr (Or.inr (Or.inr (Or.inl rfl))))
    · rw [if_neg h1] at h; cases h; exact Or.inl rfl
def wgt (j : Nat) : Nat := if j = 0 then 16 else if j = 1 then 2048 else 65536
def rdN (P : List Int32) : Nat → Nat → Nat → Nat → Option (Nat × Nat)
  | 0, _, _, _ => none
  | f + 1, n, j, p => if bv P p < 128 then some (min (n + bv P p % 128 * wgt j) 121, p + 1) else rdN P f (min (n + bv P p % 128 * wgt j) 121) (j + 1) (p + 1)
def rdS (P : List Int32) (e v p : Nat) : Option (Nat × Nat) := if v < 128 then some (v % 16, p) else rdN P (e - p) (v % 16) 0 p
def szN (P : List Int32) (e v p : Nat) : Int32 ⊕ (Nat × Nat) := (rdS P e v p).elim (.inl (-5)) (fun x => if x.1 ≤ 120 then .inr x else .inl (-7))
theorem rdN_q {P : List Int32} : ∀ (f n j p : Nat) (x : Nat × Nat), rdN P f n j p = some x → x.2 ≤ p + f ∧ p < x.2 ∧ x.1 ≤ 121
  | 0, n, j, p, x, h => by cases h
  | f + 1, n, j, p, x, h => by
    rw [rdN] at h
    by_cases h1 : bv P p < 128
    · rw [if_pos h1] at h
      cases h
      exact ⟨by show p + 1 ≤ p + (f + 1); omega, by show p < p + 1; omega, Nat.min_le_right _ _⟩
    · rw [if_neg h1] at h
      have := rdN_q f _ _ _ x h
      omega
theorem rdS_q {P : List Int32} {e v p : Nat} {x : Nat × Nat} (hp : p ≤ e) (h : rdS P e v p = some x) : p ≤ x.2 ∧ x.2 ≤ e ∧ x.1 ≤ 121 := by
  unfold rdS at h
  by_cases h1 : v < 128
  · rw [if_pos h1] at h
    cases h
    exact ⟨Nat.le_refl _, hp, by show v % 16 ≤ 121; omega⟩
  · rw [if_neg h1] at h
    have := rdN_q _ _ _ _ x h
    omega
theorem szN_q {P : List Int32} {e v p : Nat} {x : Nat × Nat} (hp : p ≤ e) (h : szN P e v p = .inr x) : p ≤ x.2 ∧ x.2 ≤ e ∧ x.1 ≤ 120 := by
  unfold szN at h
  cases e1 : rdS P e v p with
  | none => rw [e1] at h; cases h
  | some y =>
    rw [e1] at h
    have h' : (if y.1 ≤ 120 then (.inr y : Int32 ⊕ (Nat × Nat)) else .inl (-7)) = .inr x := h
    have := rdS_q hp e1
    by_cases g : y.1 ≤ 120
    · rw [if_pos g] at h'
      cases h'
      exact ⟨this.1, this.2.1, g⟩
    · rw [if_neg g] at h'
      cases h'
theorem szN_g {P : List Int32} {e v p : Nat} {w : Int32} (h : szN P e v p = .inl w) : ng w := by
  unfold szN at h
  cases e1 : rdS P e v p with
  | none => rw [e1] at h; cases h; exact Or.inl rfl
  | some y =>
    rw [e1] at h
    have h' : (if y.1 ≤ 120 then (.inr y : Int32 ⊕ (Nat × Nat)) else .inl (-7)) = .inl w := h
    by_cases g : y.1 ≤ 120
    · rw [if_pos g] at h'; cases h'
    · rw [if_neg g] at h'
      cases h'
      exact Or.inr (Or.inr (Or.inl rfl))
theorem cuu {γ : cM} {a j : Nat} {x y : Int32} : c_up (c_up γ a j x) a j y = c_up γ a j y := by
  funext q r
  by_cases h : q = a
  · rw [h]
    by_cases g : r = j
    · rw [g, c_up_self, c_up_self]
    · rw [c_up_at g, c_up_at g, c_up_at g]
  · rw [c_up_ne h, c_up_ne h, c_up_ne h]
theorem cu_id {γ : cM} {a j : Nat} {x : Int32} (h : γ a j = x) : c_up γ a j x = γ := by
  funext q r
  by_cases hq : q = a
  · rw [hq]
    by_cases g : r = j
    · rw [g, c_up_self, h]
    · rw [c_up_at g]
  · rw [c_up_ne hq]
theorem n105 : ¬ rc 105 := nrc (by decide +kernel)
theorem n171 : ¬ rc 171 := nrc (by decide +kernel)
theorem rd_k : rf 105 0 = 106 ∧ rf 105 2 = 171 ∧ rf 105 3 = 172 ∧ rf 105 4 = 174 ∧ kd 106 = 102 ∧ ln 106 = 16 ∧ kd 171 = 100 ∧ ln 171 = 16 ∧ kd 172 = 1 ∧ kd 174 = 1 ∧ ln (172 + 1) = 120 ∧ ln (174 + 1) = 7 := by decide +kernel
theorem rd_t : ∀ i, i < 16 → rf 106 i = 107 + 4 * i ∧ kd (107 + 4 * i) = 3 := by decide +kernel
def En (ρ : Nat → List Int32) (γ : cM) (P : List Int32) (e : Nat) : Prop := ρ 91 = P ∧ byt P ∧ P.length ≤ 2192 ∧ e ≤ P.length ∧ γ 105 6 = nI e
theorem s_next {c : cM} {ρ : Nat → List Int32} {γ : cM} {P : List Int32} {e p : Nat} {K : Int32 → cM → Prop} (h : Rep c ρ (c_up γ 105 5 (nI p))) (hE : En ρ γ P e) (hp : p ≤ e) (h1 : p < e → ∀ c', Rep c' ρ (c_up γ 105 5 (nI (p + 1))) → K (nI (bv P p)) c') (h0 : ¬ p < e → K (-5) c) : f_Rea_nextByte 105 91 c K := by
  obtain ⟨E1, E2, E3, E4, E5⟩ := hE
  have k91 := ps_k2.2.2.2.2.2.1
  have c5 : c 105 5 = nI p := by rw [h.2 105 n105, c_up_self]
  have c6 : c 105 6 = nI e := by rw [h.2 105 n105, c_up_at (by decide)]; exact E5
  unfold f_Rea_nextByte
  rw [c5, c6]
  refine ⟨ps_k3.2.2.1, fun g => ?_, fun g => h0 (fun q => g (nI_lt q (by omega)))⟩
  have g1 : p < e := (nI_ltI (by omega) (by omega)).mp g
  rintro c3 e3
  have R3 := h.up n105 e3
  rw [cuu, show nI p + 1 = nI (p + 1) from (nI_succ p).symm] at R3
  have c35 : c3 105 5 - 1 = nI p := by
    rw [R3.2 105 n105, c_up_self]
    exact pk_sub (b := 1) (by omega)
  rw [c35]
  refine ⟨k91, s_at R3 k91 ?_⟩
  rw [E1, atL_nI (by omega) (by omega), (bv_e E2 (show p < P.length by omega)).1]
  exact h1 g1 c3 R3
theorem s_due {c : cM} {ρ : Nat → List Int32} {γ : cM} {P D : List Int32} {e p : Nat} {K : Int32 → cM → Prop} (h : Rep c ρ (c_up γ 105 5 (nI p))) (hE : En ρ γ P e) (hp : p ≤ e) (hD : ρ 174 = D) (h1 : ∀ q, rdE P e D p = .inr q → ∀ c', Rep c' ρ (c_up γ 105 5 (nI q)) → K 0 c') (h0 : ∀ v, rdE P e D p = .inl v → ∀ c' q, Rep c' ρ (c_up γ 105 5 (nI q)) → K v c') : f_Rea_readDue 105 91 c K := by
  obtain ⟨k0, k2, k3, k4, k106, l106, k171, l171, k172, k174, l173, l175⟩ := rd_k
  obtain ⟨E1, E2, E3, E4, E5⟩ := id hE
  unfold f_Rea_readDue
  rw [k4]
  have hl : D.length ≤ 7 := by have := (h.1 174 k174).2.1; rw [hD, l175] at this; exact this
  refine ⟨fun m y c' => ∃ j q, m + j = D.length ∧ y = nI j ∧ q ≤ e ∧ Rep c' ρ (c_up γ 105 5 (nI q)) ∧ rdE P e (D.drop j) q = rdE P e D p, ⟨D.length, 0, p, rfl, rfl, hp, h, rfl⟩, ?_⟩
  rintro m y c6 ⟨j, q, hm, rfl, hq, h6, hr⟩
  have c6e : c6 174 1 = nI D.length := by rw [(h6.1 174 k174).1, hD]
  rw [c6e]
  refine ⟨ps_k3.2.2.1, k174, fun g => ?_, fun g => ?_⟩
  · have g1 : D.length ≤ j := (nI_leI (by omega) (by omega)).mp g
    rw [List.drop_of_length_le g1] at hr
    exact h1 q hr.symm c6 h6
  · have g1 : j < D.length := by
      rcases Nat.lt_or_ge j D.length with w | w
      · exact w
      · exact absurd (nI_le w (by omega)) g
    rw [dr_c g1, rdE] at hr
    refine s_next h6 hE hq (fun g2 c10 h10 => ⟨fun g3 => ?_, fun g3 => absurd (nI_pos' (by have := (bv_e E2 (show q < P.length by omega)).2; omega)) g3⟩) (fun g2 => ⟨fun g3 => absurd g3 (by decide), fun _ => ?_⟩)
    · rw [if_pos g2] at hr
      refine s_at h10 k174 ?_
      rw [hD, atL_nI g1 (by omega), ← (bv_e E2 (show q < P.length by omega)).1]
      refine ⟨fun g4 => ?_, fun g4 => ?_⟩
      · rw [if_pos g4] at hr
        exact ⟨m - 1, by omega, j + 1, q + 1, by omega, (nI_succ j).symm, by omega, h10, hr⟩
      · rw [if_neg g4] at hr
        exact h0 (-9) hr.symm c10 (q + 1) h10
    · rw [if_neg g2] at hr
      exact h0 (-5) hr.symm c6 q h6
theorem wgt_s (j : Nat) : c_min (nI (wgt j) * 128) 65536 = nI (wgt (j + 1)) := by
  unfold wgt
  by_cases h0 : j = 0
  · subst h0; decide
  · by_cases h1 : j = 1
    · subst h1; decide
    · rw [if_neg h0, if_neg h1, if_neg (by omega), if_neg (by omega)]; decide
theorem wgt_le (j : Nat) : wgt j ≤ 65536 := by
  unfold wgt
  split
  · decide
  · split
    · decide
    · decide
theorem and127 {n : Nat} (h : n < 2 ^ 31) : nI n &&& 127 = nI (n % 128) := pk_andN (by omega) 7 (by decide)
theorem min_n {a b : Nat} (ha : a < 2 ^ 31) (hb : b < 2 ^ 31) : c_min (nI a) (nI b) = nI (min a b) := by
  unfold c_min
  by_cases g : b < a
  · rw [if_pos (nI_lt g ha), Nat.min_eq_right (by omega)]
  · rw [if_neg (fun q => g ((nI_ltI hb ha).mp q)), Nat.min_eq_left (by omega)]
theorem s_number {c : cM} {ρ : Nat → List Int32} {γ : cM} {P : List Int32} {e p v : Nat} {K : Int32 → cM → Prop} (h : Rep c ρ (c_up γ 105 5 (nI p))) (hE : En ρ γ P e) (hp : p ≤ e) (hv : v < 256) (h1 : ∀ n q, szN P e v p = .inr (n, q) → ∀ c', Rep c' ρ (c_up γ 105 5 (nI q)) → K (nI n) c') (h0 : ∀ w, szN P e v p = .inl w → ∀ c' q, Rep c' ρ (c_up γ 105 5 (nI q)) → K w c') : f_Rea_readNumber 105 91 (nI v) c K := by
  obtain ⟨E1, E2, E3, E4, E5⟩ := id hE
  have c5 : c 105 5 = nI p := by rw [h.2 105 n105, c_up_self]
  have c6 : c 105 6 = nI e := by rw [h.2 105 n105, c_up_at (by decide)]; exact E5
  unfold f_Rea_readNumber
  rw [c5, c6, pk_sub hp, and15 (by omega)]
  refine ⟨fun s => s = if v < 128 then 0 else 1, ?_, fun g => (if_pos ((nI_ltI (b := 128) (by omega) (by decide)).mp g)).symm, fun g => (if_neg (fun q => g (nI_lt (b := 128) q (by decide)))).symm⟩
  rintro s rfl
  refine ⟨ps_k3.2.2.1, fun m y10 y11 y12 y13 c' => ∃ f n j q, m = f ∧ y10 = nI n ∧ y11 = nI (wgt j) ∧ y13 = nI f ∧ n ≤ 121 ∧ q + f = e ∧ Rep c' ρ (c_up γ 105 5 (nI q)) ∧ ((y12 = 0 ∧ rdS P e v p = some (n, q)) ∨ (y12 = 1 ∧ rdS P e v p = rdN P f n j q)), ⟨e - p, e - p, v % 16, 0, p, rfl, rfl, rfl, rfl, by omega, by omega, h, ?_⟩, ?_⟩
  · unfold rdS
    by_cases g : v < 128
    · rw [if_pos g, if_pos g]; exact Or.inl ⟨rfl, rfl⟩
    · rw [if_neg g, if_neg g]; exact Or.inr ⟨rfl, rfl⟩
  · rintro m y10 y11 y12 y13 c14 ⟨f, n, j, q, rfl, rfl, rfl, rfl, hn, hqe, h14, hr⟩
    refine ⟨y12 = 0 ∨ m = 0, fun hJ => ⟨fun g => ?_, fun g => ?_⟩, fun g => Or.inl g, fun g => ⟨fun g2 => Or.inr ?_, fun g2 => ?_⟩⟩
    · rcases hr with ⟨-, hr⟩ | ⟨r1, -⟩
      · have ez : szN P e v p = if n ≤ 120 then .inr (n, q) else .inl (-7) := by unfold szN; rw [hr]; rfl
        refine ⟨fun g3 => ?_, fun g3 => ?_⟩
        · have g4 : n ≤ 120 := (nI_leI (b := 120) (by omega) (by decide)).mp g3
          rw [if_pos g4] at ez
          exact h1 n q ez c14 h14
        · have g4 : ¬ n ≤ 120 := fun w => g3 (nI_le (b := 120) w (by decide))
          rw [if_neg g4] at ez
          exact h0 _ ez c14 q h14
      · rw [r1] at g; exact absurd g (by decide)
    · rcases hJ with w | w
      · exact absurd w g
      · rcases hr with ⟨r1, -⟩ | ⟨-, hr⟩
        · exact absurd r1 g
        · subst w
          refine h0 (-5) ?_ c14 q h14
          unfold szN
          rw [hr]
          rfl
    · have := (nI_leI (b := 0) (by omega) (by decide)).mp g2
      omega
    · have g3 : 0 < m := by
        rcases Nat.eq_zero_or_pos m with w | w
        · rw [w] at g2; exact absurd (by decide) g2
        · exact w
      rcases hr with ⟨r1, -⟩ | ⟨-, hr⟩
      · exact absurd r1 g
      · obtain ⟨f, rfl⟩ : ∃ f, m = f + 1 := ⟨m - 1, by omega⟩
        rw [rdN] at hr
        have hb := (bv_e E2 (show q < P.length by omega)).2
        refine s_next h14 hE (by omega) (fun g4 c25 h25 => ?_) (fun g4 => absurd (by omega) g4)
        have hW := wgt_le j
        have hmul : bv P q % 128 * wgt j ≤ 127 * 65536 := Nat.mul_le_mul (by omega) hW
        rw [and127 (by omega), pk_mul, nI_add, show c_min (nI (n + bv P q % 128 * wgt j)) 121 = nI (min (n + bv P q % 128 * wgt j) 121) from min_n (b := 121) (by omega) (by decide), wgt_s, pk_m1]
        refine ⟨fun s => s = if bv P q < 128 then 0 else 1, ?_, fun g5 => (if_pos ((nI_ltI (b := 128) (by omega) (by decide)).mp g5)).symm, fun g5 => (if_neg (fun w => g5 (nI_lt (b := 128) w (by decide)))).symm⟩
        rintro s rfl
        refine ⟨f, by omega, f, _, j + 1, q + 1, rfl, rfl, rfl, rfl, Nat.min_le_right _ _, by omega, h25, ?_⟩
        by_cases g5 : bv P q < 128
        · rw [if_pos g5] at hr ⊢; exact Or.inl ⟨rfl, hr⟩
        · rw [if_neg g5] at hr ⊢; exact Or.inr ⟨rfl, hr⟩
