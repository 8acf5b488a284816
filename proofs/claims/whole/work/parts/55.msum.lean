theorem and255N {n : Nat} (h : n < 256) : nI n &&& 255 = nI n := by
  rw [pk_andN (m := 255) (by omega) 8 (by decide), Nat.mod_eq_of_lt h]
theorem byt_and {b : Int32} (h : ∃ j, j < 256 ∧ b = nI j) : b &&& 255 = b := by
  obtain ⟨j, hj, rfl⟩ := h
  exact and255N hj
theorem hb_and (x : Int32) (n : Nat) : (c_ushr x (nI (8 * n)) &&& 255) &&& 255 = c_ushr x (nI (8 * n)) &&& 255 := byt_and (and255 _)
theorem m_sum {c : cM} {L : List Int32} {K : cM → Prop} (h : ML c L) (hl : L.length ≤ 2400) (hk : ∀ c', (∀ k, k < 5 → c' 189 k = sha L k) → Fs c c' → K c') : f_Mo_sum 176 c K := by
  obtain ⟨r183, r184, r185, r186, r187, r188, r189⟩ := mk_k2
  obtain ⟨l184, l185, l186, l187, l188, l189⟩ := mk_l2
  unfold f_Mo_sum
  rw [h.1, i8, r189, l189, tn0, tn1, tn2, tn3, tn4]
  generalize hz : (120 - (L.length + 1) % 64) % 64 = z
  have hz64 : z < 64 := by omega
  have zend : ∀ j, j ≤ z → ((L.length + 1 + j) % 64 = 56 ↔ j = z) := by intro j hj; omega
  refine ⟨mk_k.1, m_put h (by omega) (fun c2 h2 f2 _ _ => ?_)⟩
  rw [show (128 : Int32) &&& 255 = 128 from by decide] at h2
  refine ⟨fun m c' => ∃ j, m = z - j ∧ j ≤ z ∧ ML c' (L ++ [128] ++ List.replicate j 0) ∧ Fs c c', ⟨z, 0, rfl, Nat.zero_le _, by rw [List.replicate_zero, List.append_nil]; exact h2, f2⟩, ?_⟩
  rintro m c3 ⟨j, rfl, hj, h3, f3⟩
  have len3 : (L ++ [128] ++ List.replicate j (0 : Int32)).length = L.length + 1 + j := by rw [List.length_append, List.length_append, List.length_singleton, List.length_replicate]
  have e3 : c_rem (c3 176 13) 64 = nI ((L.length + 1 + j) % 64) := by
    unfold c_rem
    rw [h3.1, len3, show (64 : Int32) = nI 64 from rfl, pk_rem (by omega) (by decide) (by decide)]
  rw [e3]
  refine ⟨fun g => ?_, fun g => ?_⟩
  · have ej : j = z := (zend j hj).mp ((nI_eq (b := 56) (by omega) (by decide)).mp g)
    subst ej
    refine ⟨fun m y c' => ∃ i, m = 4 - i ∧ i ≤ 4 ∧ y = nI i ∧ ML c' (L ++ [128] ++ List.replicate j 0 ++ List.replicate i 0) ∧ Fs c c', ⟨4, 0, rfl, Nat.zero_le _, rfl, by rw [List.replicate_zero (a := (0 : Int32)), List.append_nil]; exact h3, f3⟩, ?_⟩
    rintro m y c4 ⟨i, rfl, hi, rfl, h4, f4⟩
    have len4 : (L ++ [128] ++ List.replicate j (0 : Int32) ++ List.replicate i 0).length = L.length + 1 + j + i := by rw [List.length_append, len3, List.length_replicate]
    refine ⟨fun g4 => ?_, fun g4 => ?_⟩
    · have ei : i = 4 := by
        have := (nI_leI (a := 4) (by omega) (by omega)).mp g4
        omega
      subst ei
      generalize hP : L ++ [128] ++ List.replicate j (0 : Int32) ++ List.replicate 4 0 = P at h4 len4
      refine ⟨fun m y c' => ∃ (A : List Int32), m ≤ 4 ∧ y = nI m - 1 ∧ A ++ hb (nI (8 * L.length)) m = hb (nI (8 * L.length)) 4 ∧ ML c' (P ++ A) ∧ Fs c c', ⟨4, [], Nat.le_refl _, by decide, rfl, by rw [List.append_nil]; exact h4, f4⟩, ?_⟩
      rintro m y c5 ⟨A, hm, rfl, hA, h5, f5⟩
      have hlen : A.length + m = 4 := by
        have := congrArg List.length hA
        rw [List.length_append, hb_len, hb_len] at this
        exact this
      cases m with
      | zero =>
        refine ⟨fun _ => ?_, fun q => absurd (by decide) q⟩
        rw [hb, List.append_nil] at hA
        subst hA
        have hT : P ++ hb (nI (8 * L.length)) 4 = L ++ padT L.length := by
          rw [← hP]
          unfold padT
          rw [hz]
          simp only [List.append_assoc, List.cons_append, List.nil_append]
        rw [hT] at h5
        have hTl : (L ++ padT L.length).length = L.length + 1 + j + 8 := by rw [← hT, List.length_append, hb_len, len4]
        refine ⟨mk_a2.2.2.2.2.2, vin 0 0 5 rfl (by decide) (by decide), fun d1 e1 => ⟨vin 1 1 5 rfl (by decide) (by decide), fun d2 e2 => ⟨vin 2 2 5 rfl (by decide) (by decide), fun d3 e3 => ⟨vin 3 3 5 rfl (by decide) (by decide), fun d4 e4 => ⟨vin 4 4 5 rfl (by decide) (by decide), fun d5 e5 => ?_⟩⟩⟩⟩⟩
        have hn : ∀ a, a ≠ 189 → d5 a = c5 a := fun a ha => by rw [e5, c_up_ne ha, e4, c_up_ne ha, e3, c_up_ne ha, e2, c_up_ne ha, e1, c_up_ne ha]
        have hH : ∀ k, k < 5 → d5 189 k = oc 1 k := by
          intro k hk5
          rcases k with _ | _ | _ | _ | _ | k
          · rw [e5, c_up_at (by decide), e4, c_up_at (by decide), e3, c_up_at (by decide), e2, c_up_at (by decide), e1, c_up_self]; decide +kernel
          · rw [e5, c_up_at (by decide), e4, c_up_at (by decide), e3, c_up_at (by decide), e2, c_up_self]; decide +kernel
          · rw [e5, c_up_at (by decide), e4, c_up_at (by decide), e3, c_up_self]; decide +kernel
          · rw [e5, c_up_at (by decide), e4, c_up_self]; decide +kernel
          · rw [e5, c_up_self]; decide +kernel
          · omega
        have h13 : d5 176 13 = nI (L ++ padT L.length).length := by rw [hn 176 (by decide)]; exact h5.1
        have h64 : (L ++ padT L.length).length % 64 = 0 := by rw [hTl]; omega
        refine ⟨fun m y c' => ∃ b, m + b = 100 ∧ 64 * b ≤ (L ++ padT L.length).length ∧ y = nI (64 * b) ∧ (∀ k, k < 5 → c' 189 k = shB (d5 187) b k) ∧ ∀ a, a ≠ 188 → a ≠ 189 → c' a = d5 a, ⟨100, 0, rfl, Nat.zero_le _, rfl, hH, fun _ _ _ => rfl⟩, ?_⟩
        rintro m y c6 ⟨b, hm6, hb6, rfl, h6, f6⟩
        rw [f6 176 (by decide) (by decide), h13]
        refine ⟨fun g6 => ?_, fun g6 => ?_⟩
        · have eb : (L ++ padT L.length).length = 64 * b := by
            have := (nI_leI (by omega) (by omega)).mp g6
            omega
          refine hk c6 (fun k hk5 => ?_) (f5.tr ⟨fun a h1 h2 h3 h4 => ?_, fun k hk13 => ?_⟩)
          · rw [h6 k hk5]
            unfold sha
            rw [eb, Nat.mul_div_cancel_left _ (by decide)]
            refine shB_congr b (fun q hq => ?_) k hk5
            rw [hn 187 (by decide)]
            exact h5.2 q (by omega)
          · rw [f6 a h3 h4, hn a h4]
          · rw [f6 176 (by decide) (by decide), hn 176 (by decide)]
        · have lb6 : 64 * b < (L ++ padT L.length).length := by
            rcases Nat.lt_or_ge (64 * b) (L ++ padT L.length).length with q | q
            · exact q
            · exact absurd (nI_le q (by omega)) g6
          refine m_block (by omega) (fun c7 h7 f7 => ⟨m - 1, by omega, b + 1, by omega, by omega, ?_, fun k hk5 => ?_, fun a h1 h2 => by rw [f7 a h1 h2]; exact f6 a h1 h2⟩)
          · rw [show (64 : Int32) = nI 64 from rfl, nI_add, show 64 * (b + 1) = 64 * b + 64 by omega]
          · rw [h7 k hk5, f6 187 (by decide) (by decide)]
            exact blH_congr h6 (fun _ _ => rfl) k hk5
      | succ m =>
        rw [nI_pred, i8]
        refine ⟨fun q => absurd q (nI_pos (by omega)), fun _ => m_put h5 (by rw [List.length_append, len4]; omega) (fun c6 h6 f6 _ _ => ⟨m, by omega, A ++ [c_ushr (nI (8 * L.length)) (nI (8 * m)) &&& 255], by omega, ?_, ?_, ?_, f5.tr f6⟩)⟩
        · rw [Int32.sub_eq_add_neg]
        · rw [List.append_assoc]
          exact hA
        · rw [List.append_assoc] at h6
          exact h6
    · have g5 : i < 4 := by
        rcases Nat.lt_or_ge i 4 with q | q
        · exact q
        · exact absurd (nI_le (a := 4) q (by omega)) g4
      refine m_put h4 (by rw [len4]; omega) (fun c5 h5 f5 _ _ => ⟨4 - (i + 1), by omega, i + 1, rfl, by omega, (nI_succ i).symm, ?_, f4.tr f5⟩)
      rw [show (0 : Int32) &&& 255 = 0 from by decide, List.append_assoc, ← List.replicate_succ'] at h5
      exact h5
  · have hjz : ¬ j = z := fun e => g (by rw [(zend j hj).mpr e]; rfl)
    refine m_put h3 (by rw [len3]; omega) (fun c4 h4 f4 _ _ => ⟨z - (j + 1), by omega, j + 1, rfl, by omega, ?_, f3.tr f4⟩)
    rw [show (0 : Int32) &&& 255 = 0 from by decide, List.append_assoc, ← List.replicate_succ'] at h4
    exact h4
theorem dcs_top {n k : Nat} (h : n < 10 ^ (k + 1)) : ∀ m, dcs n (k + 1 + m) = dcs n (k + 1)
  | 0 => rfl
  | m + 1 => by
    show (if 10 ^ (k + 1 + m) ≤ n ∨ k + 1 + m = 0 then [nI (48 + n / 10 ^ (k + 1 + m) % 10)] else []) ++ dcs n (k + 1 + m) = _
    have h1 : 10 ^ (k + 1) ≤ 10 ^ (k + 1 + m) := Nat.pow_le_pow_right (by decide) (by omega)
    rw [if_neg (by omega), List.nil_append, dcs_top h m]
theorem dig_lt (n k : Nat) : 48 + n / 10 ^ k % 10 < 256 := by omega
theorem m_putDec {c : cM} {L : List Int32} {n : Nat} {K : cM → Prop} (h : ML c L) (hn : n < 2 ^ 31) (hl : L.length ≤ 2400) (hk : ∀ c', ML c' (L ++ dcs n 10) → Fs c c' → K c') : f_Mo_putDecimal 176 (nI n) c K := by
  unfold f_Mo_putDecimal
  refine ⟨fun m y => ∃ k, m = 9 - k ∧ k ≤ 9 ∧ y = nI (10 ^ k) ∧ (k = 0 ∨ 10 ^ k ≤ n), ⟨9, 0, rfl, by decide, rfl, Or.inl rfl⟩, ?_⟩
  rintro m y ⟨k, rfl, hk9, rfl, hkn⟩
  have p1 := p10_lt hk9
  have p2 := p10_pos k
  refine ⟨nI_ne0 p2 p1, ?_⟩
  rw [pk_div hn p2 p1]
  have hq : n / 10 ^ k < 2 ^ 31 := by have := Nat.div_le_self n (10 ^ k); omega
  refine ⟨fun g => ?_, fun g => ?_⟩
  · have hd : n / 10 ^ k ≤ 9 := (nI_leI (b := 9) hq (by decide)).mp g
    have hlt : n < 10 ^ (k + 1) := by
      rw [Nat.pow_succ, Nat.mul_comm]
      have := Nat.lt_mul_div_succ n p2
      have h9 : 10 ^ k * (n / 10 ^ k + 1) ≤ 10 ^ k * 10 := Nat.mul_le_mul_left _ (by omega)
      rw [Nat.mul_comm 10]
      omega
    have htop : dcs n 10 = dcs n (k + 1) := by
      have := dcs_top hlt (9 - k)
      rw [show k + 1 + (9 - k) = 10 by omega] at this
      exact this
    have hone : ∀ j, j ≤ k → dcs n (j + 1) = [nI (48 + n / 10 ^ j % 10)] ++ dcs n j := by
      intro j hj
      have : 10 ^ j ≤ n ∨ j = 0 := by
        rcases hkn with q | q
        · right; omega
        · left
          exact Nat.le_trans (Nat.pow_le_pow_right (by decide) hj) q
      rw [dcs, if_pos this]
    refine ⟨fun m y c' => ∃ (A : List Int32), (m = 0 ∧ y = 0 ∨ ∃ j, m = j + 1 ∧ j ≤ k ∧ y = nI (10 ^ j)) ∧ A ++ dcs n m = L ++ dcs n (k + 1) ∧ ML c' A ∧ Fs c c' ∧ A.length ≤ L.length + (k + 1 - m) ∧ m ≤ k + 1, ⟨k + 1, L, Or.inr ⟨k, rfl, Nat.le_refl _, rfl⟩, rfl, h, Fs.rf c, by omega, Nat.le_refl _⟩, ?_⟩
    rintro m y c1 ⟨A, hm, hA, h1, f1, hAl, hmk⟩
    rcases hm with ⟨rfl, rfl⟩ | ⟨j, rfl, hjk, rfl⟩
    · refine ⟨fun _ => hk c1 ?_ f1, fun q => absurd (by decide) q⟩
      rw [dcs, List.append_nil] at hA
      rw [htop, ← hA]
      exact h1
    · have q1 := p10_lt (show j ≤ 9 by omega)
      have q2 := p10_pos j
      rw [hone j hjk] at hA
      refine ⟨fun q => absurd q (nI_nle q2 q1), fun _ => ⟨nI_ne0 q2 q1, mk_k.1, ?_⟩⟩
      rw [dg_eq hn (by omega)]
      refine m_put h1 (by omega) (fun c2 h2 f2 _ _ => ⟨j, by omega, A ++ [nI (48 + n / 10 ^ j % 10)], ?_, by rw [List.append_assoc]; exact hA, ?_, f1.tr f2, ?_, by omega⟩)
      · rcases j with _ | j
        · left
          exact ⟨rfl, by decide⟩
        · right
          refine ⟨j, rfl, by omega, ?_⟩
          rw [show (10 : Int32) = nI 10 from rfl, pk_div q1 (by decide) (by decide), Nat.pow_succ, Nat.mul_div_cancel _ (by decide)]
      · rw [and255N (dig_lt n j)] at h2
        exact h2
      · rw [List.length_append, List.length_singleton]
        omega
  · have hd : 9 < n / 10 ^ k := by
      rcases Nat.lt_or_ge 9 (n / 10 ^ k) with q | q
      · exact q
      · exact absurd (nI_le (b := 9) q (by decide)) g
    have hge : 10 ^ (k + 1) ≤ n := by
      rw [Nat.pow_succ]
      have := Nat.div_mul_le_self n (10 ^ k)
      have h9 : 10 * 10 ^ k ≤ n / 10 ^ k * 10 ^ k := Nat.mul_le_mul_right _ (by omega)
      rw [Nat.mul_comm]
      omega
    have hk8 : k < 9 := by
      rcases Nat.lt_or_ge k 9 with q | q
      · exact q
      · have e : k = 9 := by omega
        subst e
        exact absurd hge (by have : (10 : Nat) ^ (9 + 1) = 10000000000 := by decide
                             omega)
    refine ⟨9 - (k + 1), by omega, k + 1, rfl, by omega, ?_, Or.inr hge⟩
    rw [show (10 : Int32) = nI 10 from rfl, pk_mul, Nat.pow_succ, Nat.mul_comm]
