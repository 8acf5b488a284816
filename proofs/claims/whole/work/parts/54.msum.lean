def ML (c : cM) (L : List Int32) : Prop := c 176 13 = nI L.length ∧ ∀ k, k < L.length → c 187 k = L.getD k 0
def Fs (c c' : cM) : Prop := (∀ a, a ≠ 176 → a ≠ 187 → a ≠ 188 → a ≠ 189 → c' a = c a) ∧ ∀ k, k ≠ 13 → c' 176 k = c 176 k
theorem Fs.rf (c : cM) : Fs c c := ⟨fun _ _ _ _ _ => rfl, fun _ _ => rfl⟩
theorem Fs.tr {c c' c'' : cM} (h : Fs c c') (g : Fs c' c'') : Fs c c'' := ⟨fun a h1 h2 h3 h4 => (g.1 a h1 h2 h3 h4).trans (h.1 a h1 h2 h3 h4), fun k hk => (g.2 k hk).trans (h.2 k hk)⟩
theorem m_put {c : cM} {L : List Int32} {x : Int32} {K : cM → Prop} (h : ML c L) (hl : L.length < 2560) (hk : ∀ c', ML c' (L ++ [x &&& 255]) → Fs c c' → c' 188 = c 188 → c' 189 = c 189 → K c') : f_Mo_put 176 x c K := by
  unfold f_Mo_put
  rw [mk_k2.2.2.2.2.1, mk_l2.2.2.2.1, h.1, nI_clamp (by omega)]
  refine ⟨mk_k.1, mk_a2.2.2.2.1, vp_in_nI hl (by decide), fun c4 e4 c5 e5 => hk c5 ⟨?_, fun k hk1 => ?_⟩ ⟨fun a h1 h2 h3 h4 => ?_, fun k hk1 => ?_⟩ ?_ ?_⟩
  · rw [e5, c_up_self, e4, c_up_ne (by decide), h.1, List.length_append, List.length_singleton, ← nI_succ]
  · rw [List.length_append, List.length_singleton] at hk1
    rw [e5, c_up_ne (by decide), e4]
    by_cases ek : k = L.length
    · subst ek
      rw [c_up_self, gd_app2 (Nat.le_refl _), Nat.sub_self]
      rfl
    · rw [c_up_at ek, gd_app (by omega)]
      exact h.2 k (by omega)
  · rw [e5, c_up_ne h1, e4, c_up_ne h2]
  · rw [e5, c_up_at hk1, e4, c_up_ne (by decide)]
  · rw [e5, c_up_ne (by decide), e4, c_up_ne (by decide)]
  · rw [e5, c_up_ne (by decide), e4, c_up_ne (by decide)]
theorem m_mixed {t : Nat} {b c d : Int32} {m : cM} {K : Int32 → cM → Prop} (ht : t < 80) (hk : K (fm (t / 20) b c d + oc 2 (t / 20)) m) : f_Mo_mixed (nI t) b c d m K := by
  have o0 : oc 2 0 = 1518500249 := by decide +kernel
  have o1 : oc 2 1 = 1859775393 := by decide +kernel
  have o2 : oc 2 2 = -1894007588 := by decide +kernel
  have o3 : oc 2 3 = -899497514 := by decide +kernel
  have le : ∀ n : Nat, n < 100 → (nI n ≤ nI t ↔ n ≤ t) := fun n hn => nI_leI (by omega) (by omega)
  have q20 : (20 ≤ nI t) ↔ 20 ≤ t := le 20 (by decide)
  have q40 : (40 ≤ nI t) ↔ 40 ≤ t := le 40 (by decide)
  have q60 : (60 ≤ nI t) ↔ 60 ≤ t := le 60 (by decide)
  unfold f_Mo_mixed
  rw [q20, q40, q60]
  unfold fm at hk
  refine ⟨fun g => ⟨fun g2 => ⟨fun g3 => ?_, fun g3 => ?_⟩, fun g2 => ?_⟩, fun g => ?_⟩
  · rw [show t / 20 = 3 by omega, if_neg (by decide), if_neg (by decide), o3, ← Int32.sub_eq_add_neg] at hk
    exact hk
  · rw [show t / 20 = 2 by omega, if_neg (by decide), if_pos rfl, o2, ← Int32.sub_eq_add_neg] at hk
    exact hk
  · rw [show t / 20 = 1 by omega, if_neg (by decide), if_neg (by decide), o1] at hk
    exact hk
  · rw [show t / 20 = 0 by omega, if_pos rfl, o0] at hk
    exact hk
theorem rd_m {w : Nat → Int32} {t : Nat} {a b c d e : Int32} : rd w t (a, b, c, d, e) = (((rotl a 5 + (fm (t / 20) b c d + oc 2 (t / 20))) + e) + w t, a, rotl b 30, c, d) := by
  unfold rd
  show ((((rotl a 5 + fm (t / 20) b c d) + e) + oc 2 (t / 20)) + w t, a, rotl b 30, c, d) = _
  congr 2
  rw [Int32.add_assoc (rotl a 5 + fm (t / 20) b c d), Int32.add_comm e, ← Int32.add_assoc, ← Int32.add_assoc]
theorem m_block {c : cM} {o : Nat} {K : cM → Prop} (ho : o + 64 ≤ 2560) (hk : ∀ c', (∀ k, k < 5 → c' 189 k = blH (c 189) (wOf (c 187) o) k) → (∀ a, a ≠ 188 → a ≠ 189 → c' a = c a) → K c') : f_Mo_block 176 (nI o) c K := by
  obtain ⟨r183, r184, r185, r186, r187, r188, r189⟩ := mk_k2
  obtain ⟨a184, a185, a186, a187, a188, a189⟩ := mk_a2
  obtain ⟨l184, l185, l186, l187, l188, l189⟩ := mk_l2
  unfold f_Mo_block
  rw [r187, r188, r189, l187, l188, l189, tn0, tn1, tn2, tn3, tn4]
  refine ⟨fun m y c' => ∃ j, m = 16 - j ∧ j ≤ 16 ∧ y = nI j ∧ (∀ a, a ≠ 188 → c' a = c a) ∧ ∀ i, i < j → c' 188 i = wOf (c 187) o i, ⟨16, 0, rfl, Nat.zero_le _, rfl, fun _ _ => rfl, fun i hi => absurd hi (Nat.not_lt_zero _)⟩, ?_⟩
  rintro m y c1 ⟨j, rfl, hj, rfl, hf, hw⟩
  refine ⟨fun h1 => ?_, fun h1 => ?_⟩
  · have e16 : j = 16 := by
      have := (nI_leI (a := 16) (by omega) (by omega)).mp h1
      omega
    subst e16
    generalize hW : c1 188 = W
    refine ⟨fun m y c' => ∃ j, m = 64 - j ∧ j ≤ 64 ∧ y = nI (16 + j) ∧ c' = c_row c1 188 (exs W j), ⟨64, 0, rfl, Nat.zero_le _, rfl, by rw [← hW]; exact c_row_id.symm⟩, ?_⟩
    rintro m y c2 ⟨j, rfl, hj2, rfl, rfl⟩
    have g188 : c_row c1 188 (exs W j) 188 = exs W j := c_row_self
    have g189 : c_row c1 188 (exs W j) 189 = c 189 := by rw [c_row_ne (by decide), hf 189 (by decide)]
    refine ⟨fun h2 => ?_, fun h2 => ?_⟩
    · have e64 : j = 64 := by
        have := (nI_leI (a := 80) (by omega) (by omega)).mp h2
        omega
      subst e64
      refine ⟨mk_k.1, a189, vin 0 0 5 rfl (by decide) (by decide), vin 1 1 5 rfl (by decide) (by decide), vin 2 2 5 rfl (by decide) (by decide), vin 3 3 5 rfl (by decide) (by decide), vin 4 4 5 rfl (by decide) (by decide), ?_⟩
      rw [g189]
      refine ⟨fun m a b cc d e y c'' => ∃ j, m = 80 - j ∧ j ≤ 80 ∧ y = nI j ∧ (a, b, cc, d, e) = rds (exs W 64) (c 189 0, c 189 1, c 189 2, c 189 3, c 189 4) j ∧ c'' = c_row c1 188 (exs W 64), ⟨80, 0, rfl, Nat.zero_le _, rfl, rfl, rfl⟩, ?_⟩
      rintro m a b cc d e y c'' ⟨i, rfl, hi, rfl, hs, rfl⟩
      refine ⟨fun h3 => ?_, fun h3 => ?_⟩
      · have e80 : i = 80 := by
          have := (nI_leI (a := 80) (by omega) (by omega)).mp h3
          omega
        subst e80
        intro d1 e1 d2 e2 d3 e3 d4 e4 d5 e5
        have hb : (a, b, cc, d, e) = bl5 (c 189) W := hs
        refine hk d5 (fun k hk5 => ?_) (fun z z1 z2 => ?_)
        · have hc := blH_congr (H := c 189) (H' := c 189) (W := W) (W' := wOf (c 187) o) (fun _ _ => rfl) (fun i hi => by rw [← hW]; exact hw i hi) k hk5
          rw [← hc]
          unfold blH
          rw [← hb]
          have v1 : d1 189 = fun q => if q = 0 then c 189 0 + a else c 189 q := by rw [e1, c_up_row, c_row_self, g189]
          have v2 : d2 189 = fun q => if q = 1 then c 189 1 + b else d1 189 q := by rw [e2, c_up_row, c_row_self, v1]; rfl
          have v3 : d3 189 = fun q => if q = 2 then c 189 2 + cc else d2 189 q := by rw [e3, c_up_row, c_row_self, v2, v1]; rfl
          have v4 : d4 189 = fun q => if q = 3 then c 189 3 + d else d3 189 q := by rw [e4, c_up_row, c_row_self, v3, v2, v1]; rfl
          rw [e5, c_up_row, c_row_self, v4, v3, v2, v1]
          rfl
        · rw [e5, c_up_ne z2, e4, c_up_ne z2, e3, c_up_ne z2, e2, c_up_ne z2, e1, c_up_ne z2, c_row_ne z1]
          exact hf z z1
      · have h4 : i < 80 := by
          rcases Nat.lt_or_ge i 80 with g | g
          · exact g
          · exact absurd (nI_le (a := 80) g (by omega)) h3
        unfold f_Mo_turned
        refine m_mixed h4 ⟨a188, vp_in_nI h4 (by decide), 80 - (i + 1), by omega, i + 1, rfl, by omega, (nI_succ i).symm, ?_, rfl⟩
        rw [nI_clamp (by omega), g188]
        show _ = rd (exs W 64) i (rds (exs W 64) (c 189 0, c 189 1, c 189 2, c 189 3, c 189 4) i)
        rw [← hs, rd_m]
        rfl
    · have h3 : j < 64 := by
        rcases Nat.lt_or_ge j 64 with g | g
        · exact g
        · exact absurd (nI_le (a := 80) (b := 16 + j) (by omega) (by omega)) h2
      have s3 : nI (16 + j) - 3 = nI (16 + j - 3) := pk_sub (b := 3) (by omega)
      have s8 : nI (16 + j) - 8 = nI (16 + j - 8) := pk_sub (b := 8) (by omega)
      have s14 : nI (16 + j) - 14 = nI (16 + j - 14) := pk_sub (b := 14) (by omega)
      have s16 : nI (16 + j) - 16 = nI (16 + j - 16) := pk_sub (b := 16) (by omega)
      rw [s3, s8, s14, s16, nI_clamp (show 16 + j - 3 < 2 ^ 31 by omega), nI_clamp (show 16 + j - 8 < 2 ^ 31 by omega), nI_clamp (show 16 + j - 14 < 2 ^ 31 by omega), nI_clamp (show 16 + j - 16 < 2 ^ 31 by omega), nI_clamp (show 16 + j < 2 ^ 31 by omega), g188]
      unfold f_Mo_turned
      refine ⟨mk_k.1, a188, vp_in_nI (by omega) (by decide), vp_in_nI (by omega) (by decide), vp_in_nI (by omega) (by decide), vp_in_nI (by omega) (by decide), vp_in_nI (by omega) (by decide), fun c3 e3 => ⟨64 - (j + 1), by omega, j + 1, rfl, by omega, ?_, ?_⟩⟩
      · rw [show 16 + (j + 1) = (16 + j) + 1 by omega, nI_succ]
      · rw [e3, c_up_row, c_row_row, c_row_self]
        rfl
  · have h2 : j < 16 := by
      rcases Nat.lt_or_ge j 16 with g | g
      · exact g
      · exact absurd (nI_le (a := 16) g (by omega)) h1
    rw [i4, nI_add, show (3 : Int32) = nI 3 from rfl, show (2 : Int32) = nI 2 from rfl, show (1 : Int32) = nI 1 from rfl, nI_add, nI_add, nI_add, nI_clamp (show o + 4 * j < 2 ^ 31 by omega), nI_clamp (show o + 4 * j + 1 < 2 ^ 31 by omega), nI_clamp (show o + 4 * j + 2 < 2 ^ 31 by omega), nI_clamp (show o + 4 * j + 3 < 2 ^ 31 by omega), nI_clamp (show j < 2 ^ 31 by omega), hf 187 (by decide)]
    refine ⟨mk_k.1, a187, vp_in_nI (by omega) (by decide), vp_in_nI (by omega) (by decide), vp_in_nI (by omega) (by decide), vp_in_nI (by omega) (by decide), a188, vp_in_nI (by omega) (by decide), fun c3 e3 => ⟨16 - (j + 1), by omega, j + 1, rfl, by omega, nI_1 j, fun a ha => ?_, fun i hi => ?_⟩⟩
    · rw [e3, c_up_ne ha]
      exact hf a ha
    · rw [e3]
      by_cases ei : i = j
      · rw [ei, c_up_self]
        rfl
      · rw [c_up_at ei]
        exact hw i (by omega)
