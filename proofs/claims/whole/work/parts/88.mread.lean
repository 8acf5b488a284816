def SH (j : Nat) : Nat := if j = 0 then 4 else if j = 1 then 11 else 18
theorem shl_c : ∀ b, b < 128 → c_shl (nI b) 4 = nI (b * 16) ∧ c_shl (nI b) 11 = nI (b * 2048) := by decide +kernel
def nx (N b j : Nat) : Nat := if b = 0 then N else if j ≤ 1 then N + b * wgt j else 1000
theorem nx_min {N b j : Nat} : min (min (nx N b j) 1000) 121 = min (min N 121 + b * wgt j) 121 := by
  unfold nx wgt
  by_cases h0 : b = 0
  · rw [if_pos h0, h0]; simp only [Nat.zero_mul]; omega
  · rw [if_neg h0]
    by_cases h1 : j = 0
    · rw [if_pos (by omega), if_pos h1]; omega
    · by_cases h2 : j = 1
      · rw [if_pos (by omega), if_neg h1, if_pos h2]; omega
      · rw [if_neg (by omega), if_neg h1, if_neg h2]
        omega
theorem m_sizew {c : cM} {e : Nat} {w x : Int32} {K : Int32 → cM → Prop} (h : Hd c e (.inl w)) (hk : K (x &&& 15) c) : f_Mo_readSize 176 x c K := by
  unfold f_Mo_readSize
  refine ⟨fun m a b y c' => a = x &&& 15 ∧ c' = c, ⟨0, rfl, rfl⟩, ?_⟩
  rintro m a b y c8 ⟨rfl, rfl⟩
  exact ⟨fun _ => hk, fun _ => ⟨mk_k.1, fun _ => hk, fun q => absurd q h.w⟩⟩
theorem m_size {c : cM} {P : List Int32} {e p v : Nat} {K : Int32 → cM → Prop} (hE : Me c P e) (h : Hd c e (.inr p)) (hv : v < 256) (hk : ∀ y c', ((∃ N q, N ≤ 1000 ∧ y = nI N ∧ rdS P e v p = some (min N 121, q) ∧ Hd c' e (.inr q)) ∨ (rdS P e v p = none ∧ Hd c' e (.inl (-5)))) → Fe c c' → K y c') : f_Mo_readSize 176 (nI v) c K := by
  have hp := h.2.2
  obtain ⟨E1, E2, E3, E4, E5⟩ := id hE
  unfold f_Mo_readSize
  rw [and15 (by omega)]
  refine ⟨fun m y5 y6 y7 c' => Fe c c' ∧ ((∃ N j q u, N ≤ 1000 ∧ m + q = e + 1 ∧ y5 = nI N ∧ y6 = nI (SH j) ∧ y7 = nI u ∧ u < 256 ∧ Hd c' e (.inr q) ∧ ((u < 128 ∧ rdS P e v p = some (min N 121, q)) ∨ (¬ u < 128 ∧ rdS P e v p = rdN P (e - q) (min N 121) j q))) ∨ (y7 = 0 ∧ rdS P e v p = none ∧ Hd c' e (.inl (-5)))), ⟨e + 1 - p, Fe.rf c, Or.inl ⟨v % 16, 0, p, v, by omega, by omega, rfl, rfl, rfl, hv, h, ?_⟩⟩, ?_⟩
  · unfold rdS
    by_cases g : v < 128
    · rw [if_pos g, Nat.min_eq_left (by omega)]; exact Or.inl ⟨g, rfl⟩
    · rw [if_neg g, Nat.min_eq_left (by omega)]; exact Or.inr ⟨g, rfl⟩
  · rintro m y5 y6 y7 c8 ⟨f8, (⟨N, j, q, u, hN, hm, rfl, rfl, rfl, hu, h8, hr⟩ | ⟨rfl, hr, h8⟩)⟩
    · refine ⟨fun g => ?_, fun g => ⟨mk_k.1, fun q => absurd h8.2.1 q, fun _ => ?_⟩⟩
      · have g1 : u ≤ 127 := (nI_leI (b := 127) (by omega) (by decide)).mp g
        rcases hr with ⟨-, hr⟩ | ⟨r1, -⟩
        · exact hk _ c8 (Or.inl ⟨N, q, hN, rfl, hr, h8⟩) f8
        · omega
      · have g1 : ¬ u < 128 := fun q => g (nI_le (b := 127) (by omega) (by decide))
        rcases hr with ⟨r1, -⟩ | ⟨-, hr⟩
        · exact absurd r1 g1
        · have hq := h8.2.2
          refine m_next (hE.fe f8) h8 (fun u' c12 h12 f12 => ?_)
          have F12 := f8.tr f12
          rcases h12 with ⟨g2, g3, rfl⟩ | ⟨g2, g3, rfl⟩
          · have hb := (bv_e E3 (show q < P.length by omega)).2
            rw [show e - q = (e - (q + 1)) + 1 by omega, rdN] at hr
            rw [and127 (by omega)]
            have hs : SH j = 4 ∧ j = 0 ∨ SH j = 11 ∧ j = 1 ∨ SH j = 18 ∧ 2 ≤ j := by
              unfold SH
              by_cases h0 : j = 0
              · rw [if_pos h0]; exact Or.inl ⟨rfl, h0⟩
              · by_cases h1 : j = 1
                · rw [if_neg h0, if_pos h1]; exact Or.inr (Or.inl ⟨rfl, h1⟩)
                · rw [if_neg h0, if_neg h1]; exact Or.inr (Or.inr ⟨rfl, by omega⟩)
            have hnx : nx N (bv P q % 128) j ≤ 1000000 := by
              unfold nx
              have hb2 : bv P q % 128 ≤ 127 := by omega
              split
              · omega
              · split
                · have : wgt j ≤ 2048 := by
                    unfold wgt
                    rcases hs with ⟨-, w⟩ | ⟨-, w⟩ | ⟨-, w⟩
                    · rw [if_pos w]; decide
                    · rw [if_neg (by omega), if_pos w]; decide
                    · omega
                  have := Nat.mul_le_mul hb2 this
                  omega
                · omega
            refine ⟨fun s => s = nI (nx N (bv P q % 128) j), ?_, fun g4 => ⟨fun g5 => ?_, fun g5 => ?_⟩, fun g4 => ?_⟩
            · rintro s rfl
              refine ⟨fun s => s = nI (min (nx N (bv P q % 128) j) 1000), ?_, fun g5 => ?_, fun g5 => ?_⟩
              · rintro s rfl
                refine ⟨fun s => s = nI (SH (j + 1)), ?_, fun g5 => ?_, fun g5 => ?_⟩
                · rintro s rfl
                  refine ⟨m - 1, by omega, F12, Or.inl ⟨min (nx N (bv P q % 128) j) 1000, j + 1, q + 1, bv P q, Nat.min_le_right _ _, by omega, rfl, rfl, rfl, hb, g3, ?_⟩⟩
                  rw [nx_min]
                  by_cases g6 : bv P q < 128
                  · rw [if_pos g6] at hr; exact Or.inl ⟨g6, hr⟩
                  · rw [if_neg g6] at hr; exact Or.inr ⟨g6, hr⟩
                · rcases hs with ⟨w, w2⟩ | ⟨w, w2⟩ | ⟨w, w2⟩
                  · rw [w, w2]; decide
                  · rw [w, w2]; decide
                  · rw [w] at g5; exact absurd g5 (by decide)
                · rcases hs with ⟨w, w2⟩ | ⟨w, w2⟩ | ⟨w, w2⟩
                  · rw [w] at g5; exact absurd (by decide) g5
                  · rw [w] at g5; exact absurd (by decide) g5
                  · unfold SH; rw [if_neg (by omega), if_neg (by omega), if_neg (by omega), if_neg (by omega)]
              · have := (nI_leI (b := 1000) (by omega) (by decide)).mp g5
                rw [Nat.min_eq_left this]
              · have : ¬ nx N (bv P q % 128) j ≤ 1000 := fun w => g5 (nI_le (b := 1000) w (by decide))
                rw [Nat.min_eq_right (by omega)]
                rfl
            · have g6 : ¬ bv P q % 128 = 0 := fun w => g4 (by rw [w]; rfl)
              unfold nx
              rw [if_neg g6]
              rcases hs with ⟨w, w2⟩ | ⟨w, w2⟩ | ⟨w, w2⟩
              · rw [if_pos (by omega), w, w2, show c_shl (nI (bv P q % 128)) (nI 4) = nI (bv P q % 128 * 16) from (shl_c _ (by omega)).1, nI_add]; rfl
              · rw [if_pos (by omega), w, w2, show c_shl (nI (bv P q % 128)) (nI 11) = nI (bv P q % 128 * 2048) from (shl_c _ (by omega)).2, nI_add]; rfl
              · rw [w] at g5; exact absurd g5 (by decide)
            · have g6 : ¬ bv P q % 128 = 0 := fun w => g4 (by rw [w]; rfl)
              unfold nx
              rw [if_neg g6]
              rcases hs with ⟨w, w2⟩ | ⟨w, w2⟩ | ⟨w, w2⟩
              · rw [w] at g5; exact absurd (by decide) g5
              · rw [w] at g5; exact absurd (by decide) g5
              · rw [if_neg (by omega)]; rfl
            · have g6 : bv P q % 128 = 0 := (nI_eq (b := 0) (by omega) (by decide)).mp g4
              unfold nx
              rw [if_pos g6]
          · rw [show e - q = 0 by omega, rdN] at hr
            refine ⟨fun s => True, fun s _ => ⟨fun s => True, fun s _ => ⟨fun s => True, fun s _ => ⟨m - 1, by omega, F12, Or.inr ⟨rfl, hr, g3⟩⟩, fun _ => True.intro, fun _ => True.intro⟩, fun _ => True.intro, fun _ => True.intro⟩, fun _ => ⟨fun _ => True.intro, fun _ => True.intro⟩, fun _ => True.intro⟩
    · exact ⟨fun _ => hk _ c8 (Or.inr ⟨hr, h8⟩) f8, fun q => absurd (by decide) q⟩
