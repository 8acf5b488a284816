theorem nrc {a : Nat} (h : kd a ≠ 1 ∧ kd (a - 1) ≠ 1) : ¬ rc a := fun g => g.elim (fun g => h.1 g) (fun g => h.2 g.2)
theorem c_row_row {c : cM} {a : Nat} {f g : Nat → Int32} : c_row (c_row c a f) a g = c_row c a g := by
  funext b
  unfold c_row
  by_cases h : b = a
  · rw [if_pos h, if_pos h]
  · rw [if_neg h, if_neg h, if_neg h]
theorem c_row_comm {c : cM} {a b : Nat} {f g : Nat → Int32} (hab : a ≠ b) : c_row (c_row c a f) b g = c_row (c_row c b g) a f := by
  funext x
  unfold c_row
  by_cases h : x = a
  · subst h
    rw [if_neg hab, if_pos rfl, if_pos rfl]
  · by_cases h2 : x = b
    · rw [if_pos h2, if_neg h, if_pos h2]
    · rw [if_neg h2, if_neg h, if_neg h, if_neg h2]
theorem c_row_id {c : cM} {a : Nat} : c_row c a (c a) = c := by
  funext x
  unfold c_row
  by_cases h : x = a
  · rw [if_pos h, h]
  · rw [if_neg h]
def rotl (x k : Int32) : Int32 := c_shl x k ||| c_ushr x (32 - k)
abbrev s5 : Type := Int32 × Int32 × Int32 × Int32 × Int32
def fm (q : Nat) (b c d : Int32) : Int32 := if q = 0 then (b &&& c) ||| ((b ^^^ (-1)) &&& d) else if q = 2 then ((b &&& c) ||| (b &&& d)) ||| (c &&& d) else (b ^^^ c) ^^^ d
def rd (w : Nat → Int32) (t : Nat) (s : s5) : s5 := ((((rotl s.1 5 + fm (t / 20) s.2.1 s.2.2.1 s.2.2.2.1) + s.2.2.2.2) + oc 2 (t / 20)) + w t, s.1, rotl s.2.1 30, s.2.2.1, s.2.2.2.1)
def rds (w : Nat → Int32) (s : s5) : Nat → s5
  | 0 => s
  | n + 1 => rd w n (rds w s n)
def ex1 (w : Nat → Int32) (t : Nat) : Nat → Int32 := fun b => if b = t then rotl (((w (t - 3) ^^^ w (t - 8)) ^^^ w (t - 14)) ^^^ w (t - 16)) 1 else w b
def exs (w : Nat → Int32) : Nat → (Nat → Int32)
  | 0 => w
  | n + 1 => ex1 (exs w n) (16 + n)
def bl5 (H W : Nat → Int32) : s5 := rds (exs W 64) (H 0, H 1, H 2, H 3, H 4) 80
def blH (H W : Nat → Int32) : Nat → Int32 := fun k => if k = 4 then H 4 + (bl5 H W).2.2.2.2 else if k = 3 then H 3 + (bl5 H W).2.2.2.1 else if k = 2 then H 2 + (bl5 H W).2.2.1 else if k = 1 then H 1 + (bl5 H W).2.1 else if k = 0 then H 0 + (bl5 H W).1 else H k
theorem s_mixed {q : Nat} {b c d : Int32} {m : cM} {K : Int32 → cM → Prop} (hq : q < 4) (hk : K (fm q b c d) m) : f_Sum_mixed (nI q) b c d m K := by
  unfold f_Sum_mixed
  unfold fm at hk
  refine ⟨fun h0 => ⟨fun h2 => ?_, fun h2 => ?_⟩, fun h0 => ?_⟩
  · rw [if_neg (fun e => h0 (by rw [e]; rfl)), if_neg (fun e => h2 (by rw [e]; rfl))] at hk
    exact hk
  · have e : q = 2 := (nI_eq (by omega) (by decide)).mp h2
    subst e
    exact hk
  · have e : q = 0 := (nI_eq (by omega) (by decide)).mp h0
    subst e
    exact hk
theorem tn0 : Int32.toNatClampNeg 0 = 0 := by decide
theorem tn1 : Int32.toNatClampNeg 1 = 1 := by decide
theorem tn2 : Int32.toNatClampNeg 2 = 2 := by decide
theorem tn3 : Int32.toNatClampNeg 3 = 3 := by decide
theorem tn4 : Int32.toNatClampNeg 4 = 4 := by decide
theorem tn5 : Int32.toNatClampNeg 5 = 5 := by decide
theorem vin (x : Int32) (j n : Nat) (hx : x = nI j) (h : j < n) (hn : n < 2 ^ 31) : vp_in x n := by rw [hx]; exact vp_in_nI h hn
theorem c_up_row {c : cM} {a j : Nat} {v : Int32} : c_up c a j v = c_row c a (fun b => if b = j then v else c a b) := rfl
theorem s_stir {c : cM} {ρ : Nat → List Int32} {γ : cM} {K : cM → Prop} (h : Rep c ρ γ) (hk : ∀ c', Rep c' ρ (c_row (c_row γ 95 (exs (γ 95) 64)) 94 (blH (γ 94) (γ 95))) → K c') : f_Sum_stir 93 c K := by
  have r0 : rf 93 0 = 94 := by decide +kernel
  have r1 : rf 93 1 = 95 := by decide +kernel
  have q0 : kd 93 = 2 := by decide +kernel
  have q1 : kd 94 = 100 := by decide +kernel
  have q2 : kd 95 = 100 := by decide +kernel
  have q3 : kd 2 = 202 := by decide +kernel
  have l0 : ln 94 = 5 := by decide +kernel
  have l1 : ln 95 = 80 := by decide +kernel
  have l2 : ln 2 = 4 := by decide +kernel
  have n94 : ¬ rc 94 := nrc (by decide +kernel)
  have n95 : ¬ rc 95 := nrc (by decide +kernel)
  unfold f_Sum_stir
  rw [r0, r1, l0, l1, l2, tn0, tn1, tn2, tn3, tn4]
  refine ⟨fun m y c' => ∃ j, m = 64 - j ∧ j ≤ 64 ∧ y = nI (16 + j) ∧ Rep c' ρ (c_row γ 95 (exs (γ 95) j)), ⟨64, 0, rfl, Nat.zero_le _, rfl, by rw [show exs (γ 95) 0 = γ 95 from rfl, c_row_id]; exact h⟩, ?_⟩
  rintro m y c' ⟨j, rfl, hj, rfl, hR⟩
  have g95 : c' 95 = exs (γ 95) j := by rw [hR.2 95 n95, c_row_self]
  have g94 : c' 94 = γ 94 := by rw [hR.2 94 n94, c_row_ne (by decide)]
  refine ⟨fun h1 => ?_, fun h1 => ?_⟩
  · have e : j = 64 := by
      have := (nI_leI (a := 80) (by omega) (by omega)).mp h1
      omega
    subst e
    refine ⟨q0, q1, vin 0 0 5 rfl (by decide) (by decide), vin 1 1 5 rfl (by decide) (by decide), vin 2 2 5 rfl (by decide) (by decide), vin 3 3 5 rfl (by decide) (by decide), vin 4 4 5 rfl (by decide) (by decide), ?_⟩
    rw [g94]
    refine ⟨fun m a b cc d e y c'' => ∃ j, m = 80 - j ∧ j ≤ 80 ∧ y = nI j ∧ (a, b, cc, d, e) = rds (exs (γ 95) 64) (γ 94 0, γ 94 1, γ 94 2, γ 94 3, γ 94 4) j ∧ c'' = c', ⟨80, 0, rfl, Nat.zero_le _, rfl, rfl, rfl⟩, ?_⟩
    rintro m a b cc d e y c'' ⟨i, rfl, hi, rfl, hs, rfl⟩
    refine ⟨fun h2 => ?_, fun h2 => ?_⟩
    · have e2 : i = 80 := by
        have := (nI_leI (a := 80) (by omega) (by omega)).mp h2
        omega
      subst e2
      intro c1 e1 c2 e2 c3 e3 c4 e4 c5 e5
      refine hk c5 ?_
      have hb : (a, b, cc, d, e) = bl5 (γ 94) (γ 95) := hs
      have u1 := hR.up n94 e1
      have u2 := u1.up n94 e2
      have u3 := u2.up n94 e3
      have u4 := u3.up n94 e4
      have u5 := u4.up n94 e5
      have f5 : c5 94 = blH (γ 94) (γ 95) := by
        funext k
        unfold blH
        rw [← hb]
        have v1 : c1 94 = fun b => if b = 0 then γ 94 0 + a else γ 94 b := by rw [e1, c_up_row, c_row_self, g94]
        have v2 : c2 94 = fun b_1 => if b_1 = 1 then γ 94 1 + b else c1 94 b_1 := by rw [e2, c_up_row, c_row_self, v1]; rfl
        have v3 : c3 94 = fun b_1 => if b_1 = 2 then γ 94 2 + cc else c2 94 b_1 := by rw [e3, c_up_row, c_row_self, v2, v1]; rfl
        have v4 : c4 94 = fun b_1 => if b_1 = 3 then γ 94 3 + d else c3 94 b_1 := by rw [e4, c_up_row, c_row_self, v3, v2, v1]; rfl
        rw [e5, c_up_row, c_row_self, v4, v3, v2, v1]
        rfl
      have f6 : ∀ z, ¬ rc z → c5 z = c_row (c_row γ 95 (exs (γ 95) 64)) 94 (blH (γ 94) (γ 95)) z := by
        intro z hz
        by_cases ez : z = 94
        · subst ez; rw [c_row_self]; exact f5
        · rw [c_row_ne ez, e5, c_up_ne ez, e4, c_up_ne ez, e3, c_up_ne ez, e2, c_up_ne ez, e1, c_up_ne ez]
          exact hR.2 z hz
      exact ⟨u5.1, f6⟩
    · have h3 : i < 80 := by
        rcases Nat.lt_or_ge i 80 with g | g
        · exact g
        · exact absurd (nI_le (a := 80) g (by omega)) h2
      have hq : nI i / 20 = nI (i / 20) := by rw [show (20 : Int32) = nI 20 from rfl, pk_div (by omega) (by decide) (by decide)]
      rw [hq, nI_clamp (show i < 2 ^ 31 by omega), nI_clamp (show i / 20 < 2 ^ 31 by omega)]
      unfold f_Sum_turned
      refine s_mixed (by omega) ⟨q3, vp_in_nI (by omega) (by decide), q2, vp_in_nI h3 (by decide), 80 - (i + 1), by omega, i + 1, rfl, by omega, (nI_succ i).symm, ?_, rfl⟩
      rw [g95]
      show _ = rd (exs (γ 95) 64) i (rds (exs (γ 95) 64) (γ 94 0, γ 94 1, γ 94 2, γ 94 3, γ 94 4) i)
      rw [← hs]
      rfl
  · have h2 : j < 64 := by
      rcases Nat.lt_or_ge j 64 with g | g
      · exact g
      · exact absurd (nI_le (a := 80) (b := 16 + j) (by omega) (by omega)) h1
    have s3 : nI (16 + j) - 3 = nI (16 + j - 3) := pk_sub (b := 3) (by omega)
    have s8 : nI (16 + j) - 8 = nI (16 + j - 8) := pk_sub (b := 8) (by omega)
    have s14 : nI (16 + j) - 14 = nI (16 + j - 14) := pk_sub (b := 14) (by omega)
    have s16 : nI (16 + j) - 16 = nI (16 + j - 16) := pk_sub (b := 16) (by omega)
    rw [s3, s8, s14, s16, nI_clamp (show 16 + j - 3 < 2 ^ 31 by omega), nI_clamp (show 16 + j - 8 < 2 ^ 31 by omega), nI_clamp (show 16 + j - 14 < 2 ^ 31 by omega), nI_clamp (show 16 + j - 16 < 2 ^ 31 by omega), nI_clamp (show 16 + j < 2 ^ 31 by omega), g95]
    unfold f_Sum_turned
    refine ⟨q0, q2, vp_in_nI (by omega) (by decide), vp_in_nI (by omega) (by decide), vp_in_nI (by omega) (by decide), vp_in_nI (by omega) (by decide), vp_in_nI (by omega) (by decide), fun c2 e2 => ⟨64 - (j + 1), by omega, j + 1, rfl, by omega, ?_, ?_⟩⟩
    · rw [show 16 + (j + 1) = (16 + j) + 1 by omega, nI_succ]
    · have u := hR.up n95 e2
      rw [c_up_row, c_row_row, c_row_self] at u
      exact u
