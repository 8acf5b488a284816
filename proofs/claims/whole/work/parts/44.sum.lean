abbrev sS : Type := (Nat → Int32) × (Nat → Int32) × Nat
def gs (γ : cM) (S : sS) : cM := c_row (c_row (c_up γ 93 3 (nI S.2.2)) 95 S.2.1) 94 S.1
theorem gs_94 {γ : cM} {S : sS} : gs γ S 94 = S.1 := c_row_self
theorem gs_95 {γ : cM} {S : sS} : gs γ S 95 = S.2.1 := by unfold gs; rw [c_row_ne (by decide), c_row_self]
theorem gs_93 {γ : cM} {S : sS} : gs γ S 93 3 = nI S.2.2 := by unfold gs; rw [c_row_ne (by decide), c_row_ne (by decide), c_up_self]
theorem gs_ne {γ : cM} {S : sS} {a : Nat} (h : a ≠ 93 ∧ a ≠ 94 ∧ a ≠ 95) : gs γ S a = γ a := by unfold gs; rw [c_row_ne h.2.1, c_row_ne h.2.2, c_up_ne h.1]
theorem gs_93n {γ : cM} {S : sS} {k : Nat} (h : k ≠ 3) : gs γ S 93 k = γ 93 k := by unfold gs; rw [c_row_ne (by decide), c_row_ne (by decide), c_up_at h]
theorem gs_ext {m : cM} {γ : cM} {S : sS} (h1 : m 94 = S.1) (h2 : m 95 = S.2.1) (h3 : m 93 3 = nI S.2.2) (h4 : ∀ k, k ≠ 3 → m 93 k = γ 93 k) (h5 : ∀ a, a ≠ 93 ∧ a ≠ 94 ∧ a ≠ 95 → m a = γ a) : m = gs γ S := by
  funext a
  by_cases z1 : a = 94
  · subst z1; rw [gs_94, h1]
  · by_cases z2 : a = 95
    · subst z2; rw [gs_95, h2]
    · by_cases z3 : a = 93
      · subst z3
        funext k
        by_cases hk : k = 3
        · rw [hk, gs_93, h3]
        · rw [gs_93n hk, h4 k hk]
      · rw [gs_ne ⟨z3, z1, z2⟩, h5 a ⟨z3, z1, z2⟩]
theorem gs_gs {γ : cM} {S S' : sS} : gs (gs γ S) S' = gs γ S' := gs_ext gs_94 gs_95 gs_93 (fun k hk => by rw [gs_93n hk, gs_93n hk]) (fun a ha => by rw [gs_ne ha, gs_ne ha])
theorem gs_id {γ : cM} {t : Nat} (h : γ 93 3 = nI t) : gs γ (γ 94, γ 95, t) = γ := (gs_ext rfl rfl h (fun _ _ => rfl) (fun _ _ => rfl)).symm
def tkW (W : Nat → Int32) (t : Nat) (v : Int32) : Nat → Int32 := fun b => if b = t % 64 / 4 then c_shl (W (t % 64 / 4)) 8 ||| v else W b
def tk (S : sS) (v : Int32) : sS := if (S.2.2 + 1) % 64 = 0 then (blH S.1 (tkW S.2.1 S.2.2 v), exs (tkW S.2.1 S.2.2 v) 64, S.2.2 + 1) else (S.1, tkW S.2.1 S.2.2 v, S.2.2 + 1)
theorem tk_t (S : sS) (v : Int32) : (tk S v).2.2 = S.2.2 + 1 := by
  unfold tk
  split <;> rfl
theorem tks_t (L : List Int32) : ∀ S : sS, (L.foldl tk S).2.2 = S.2.2 + L.length := by
  induction L with
  | nil => intro S; rfl
  | cons v L ih => intro S; rw [List.foldl_cons, ih, tk_t, List.length_cons]; omega
theorem and63 {n : Nat} (h : n < 2 ^ 31) : nI n &&& 63 = nI (n % 64) := pk_andN (m := 63) (by omega) 6 (by decide)
theorem shr2 {n : Nat} (h : n < 2 ^ 31) : c_shr (nI n) 2 = nI (n / 4) := by
  unfold c_shr
  rw [show (2 : Int32) &&& 31 = 2 from by decide]
  exact pk_shrN h 2 2 (by decide)
theorem s_take {c : cM} {ρ : Nat → List Int32} {γ : cM} {S : sS} {v : Int32} {K : cM → Prop} (h : Rep c ρ (gs γ S)) (ht : S.2.2 < 100000) (hk : ∀ c', Rep c' ρ (gs γ (tk S v)) → K c') : f_Sum_take 93 v c K := by
  have r1 : rf 93 1 = 95 := by decide +kernel
  have q0 : kd 93 = 2 := by decide +kernel
  have q2 : kd 95 = 100 := by decide +kernel
  have l1 : ln 95 = 80 := by decide +kernel
  have n93 : ¬ rc 93 := nrc (by decide +kernel)
  have n95 : ¬ rc 95 := nrc (by decide +kernel)
  have g93 : c 93 3 = nI S.2.2 := by rw [h.2 93 n93, gs_93]
  have g95 : c 95 = S.2.1 := by rw [h.2 95 n95, gs_95]
  unfold f_Sum_take
  rw [r1, l1, g93, and63 (by omega), shr2 (by omega), nI_clamp (by omega), g95]
  refine ⟨q0, q2, vp_in_nI (by omega) (by decide), fun c4 e4 c5 e5 => ?_⟩
  have u4 := h.up n95 e4
  have g4 : c4 93 = c 93 := by rw [e4, c_up_ne (by decide)]
  rw [g4, g93, show (1 : Int32) = nI 1 from rfl, nI_add] at e5
  have u5 := u4.up n93 e5
  have v5 : c5 93 3 = nI (S.2.2 + 1) := by rw [e5, c_up_self]
  have w5 : c_up (c_up (gs γ S) 95 (S.2.2 % 64 / 4) (c_shl (S.2.1 (S.2.2 % 64 / 4)) 8 ||| v)) 93 3 (nI (S.2.2 + 1)) = gs γ (S.1, tkW S.2.1 S.2.2 v, S.2.2 + 1) := by
    funext z
    by_cases z1 : z = 93
    · subst z1
      rw [c_up_row, c_row_self, c_up_ne (by decide)]
      funext k
      by_cases hk3 : k = 3
      · rw [if_pos hk3, hk3, gs_93]
      · rw [if_neg hk3]
        unfold gs
        rw [c_row_ne (by decide), c_row_ne (by decide), c_row_ne (by decide), c_row_ne (by decide), c_up_at hk3, c_up_at hk3]
    · rw [c_up_ne z1]
      by_cases z2 : z = 95
      · subst z2
        rw [c_up_row, c_row_self, gs_95, gs_95]
        rfl
      · rw [c_up_ne z2]
        by_cases z3 : z = 94
        · subst z3
          rw [gs_94, gs_94]
        · rw [gs_ne ⟨z1, z3, z2⟩, gs_ne ⟨z1, z3, z2⟩]
  rw [w5] at u5
  rw [v5, and63 (by omega)]
  unfold tk at hk
  refine ⟨fun h1 => ?_, fun h1 => ?_⟩
  · rw [if_neg (fun e => h1 (by rw [e]; rfl))] at hk
    exact hk c5 u5
  · have e : (S.2.2 + 1) % 64 = 0 := (nI_eq (by omega) (by decide)).mp h1
    rw [if_pos e] at hk
    refine s_stir u5 (fun c7 h7 => hk c7 ?_)
    have w7 : c_row (c_row (gs γ (S.1, tkW S.2.1 S.2.2 v, S.2.2 + 1)) 95 (exs (gs γ (S.1, tkW S.2.1 S.2.2 v, S.2.2 + 1) 95) 64)) 94 (blH (gs γ (S.1, tkW S.2.1 S.2.2 v, S.2.2 + 1) 94) (gs γ (S.1, tkW S.2.1 S.2.2 v, S.2.2 + 1) 95)) = gs γ (blH S.1 (tkW S.2.1 S.2.2 v), exs (tkW S.2.1 S.2.2 v) 64, S.2.2 + 1) := by
      refine gs_ext ?_ ?_ ?_ ?_ ?_
      · rw [c_row_self, gs_94, gs_95]
      · rw [c_row_ne (by decide), c_row_self, gs_95]
      · rw [c_row_ne (by decide), c_row_ne (by decide), gs_93]
      · intro k hk3
        rw [c_row_ne (by decide), c_row_ne (by decide), gs_93n hk3]
      · intro a ha
        rw [c_row_ne ha.2.1, c_row_ne ha.2.2, gs_ne ha]
    rw [w7] at h7
    exact h7
