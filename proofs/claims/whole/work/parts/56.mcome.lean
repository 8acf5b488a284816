theorem MR.loc {c c' : cM} {σ : Sg} (h : MR c σ) (hV : VS σ) (h0 : ∀ k, k = 0 ∨ k = 7 ∨ k = 9 ∨ k = 17 → c' 176 k = c 176 k) (h1 : ∀ i, i < 16 → c' 177 i = c 177 i) (h2 : ∀ i, i < 16 → c' 178 i = c 178 i) (h3 : ∀ q, q < 1920 → c' 179 q = c 179 q) (h4 : ∀ q, q < 80 → c' 180 q = c 180 q) (h5 : ∀ a, a = 183 ∨ a = 184 ∨ a = 185 ∨ a = 186 ∨ a = 190 → c' a = c a) : MR c' σ := by
  obtain ⟨m1, m2, m3, m4, m5, m6, m7⟩ := h
  have hn := hV.2.1
  refine ⟨?_, fun i x hx => ?_, ?_, ?_, ?_, ?_, ?_⟩
  · rw [h0 0 (by omega)]; exact m1
  · have hi := (List.getElem?_eq_some_iff.mp hx).1
    have hxl := (hV.1 x (List.mem_of_getElem? hx)).2.2
    obtain ⟨t1, t2, t3, t4⟩ := m2 i x hx
    refine ⟨by rw [h1 i (by omega)]; exact t1, by rw [h2 i (by omega)]; exact t2, fun k hk => ?_, fun k hk => ?_⟩
    · rw [h3 _ (by omega)]; exact t3 k hk
    · rw [h4 _ (by omega)]; exact t4 k hk
  · rw [h0 7 (by omega), h5 183 (by omega)]; exact m3
  · unfold MD
    rw [h0 9 (by omega), h5 184 (by omega), h5 185 (by omega)]
    exact m4
  · rw [h5 186 (by omega)]; exact m5
  · rw [h0 17 (by omega)]; exact m6
  · rw [h5 190 (by omega)]; exact m7
def slC (c : cM) (i : Nat) (k : Int32) (L : List Int32) : Prop := c 177 i = k ∧ c 178 i = nI L.length ∧ ∀ j, j < L.length → c 179 (120 * i + j) = L.getD j 0
theorem slC.keep {c c' : cM} {i : Nat} {k : Int32} {L : List Int32} (h : slC c i k L) (h1 : c' 177 = c 177) (h2 : c' 178 = c 178) (h3 : c' 179 = c 179) : slC c' i k L := by
  unfold slC
  rw [h1, h2, h3]
  exact h
theorem Fs.sl {c c' : cM} {i : Nat} {k : Int32} {L : List Int32} (h : slC c i k L) (f : Fs c c') : slC c' i k L := h.keep (f.1 177 (by decide) (by decide) (by decide) (by decide)) (f.1 178 (by decide) (by decide) (by decide) (by decide)) (f.1 179 (by decide) (by decide) (by decide) (by decide))
/-- what a call of 'call' leaves -/
def Fc (c c' : cM) (i : Nat) : Prop := (∀ a, a ≠ 176 → a ≠ 180 → a ≠ 187 → a ≠ 188 → a ≠ 189 → c' a = c a) ∧ (∀ k, k ≠ 13 → c' 176 k = c 176 k) ∧ ∀ q, q < 5 * i ∨ 5 * i + 5 ≤ q → c' 180 q = c 180 q
theorem m_call {c : cM} {i : Nat} {k : Int32} {L : List Int32} {K : cM → Prop} (hi : i < 33) (h : slC c i k L) (hb : byt L) (hl : L.length ≤ 120) (hk : ∀ c', (∀ q, q < 5 → c' 180 (5 * i + q) = sha (hdB k L.length ++ L) q) → Fc c c' i → K c') : f_Mo_call 176 (nI i) c K := by
  obtain ⟨s1, s2, s3⟩ := h
  have hd3 := dcs_len L.length (by omega)
  unfold f_Mo_call
  rw [mk_k.2.1, mk_k.2.2.1, mk_k.2.2.2.1, mk_k.2.2.2.2.1, mk_k2.2.2.2.2.2.2, mk_l.1, mk_l.2.1, mk_l.2.2.1, mk_l.2.2.2.1, mk_l2.2.2.2.2.2, nI_clamp (show i < 2 ^ 31 by omega)]
  refine ⟨mk_k.1, fun c2 e2 => ⟨mk_a.1, vp_in_nI hi (by decide), ?_⟩⟩
  have f2 : Fs c c2 := ⟨fun a h1 _ _ _ => by rw [e2, c_up_ne h1], fun q hq => by rw [e2, c_up_at hq]⟩
  have L2 : ML c2 [] := ⟨by rw [e2, c_up_self]; rfl, fun q hq => absurd hq (Nat.not_lt_zero _)⟩
  have k2 : c2 177 i = k := by rw [e2, c_up_ne (by decide)]; exact s1
  rw [k2]
  refine ⟨fun c21 => ∃ W : List Int32, W ++ [32] = (if k = 1 then txO 3 else if k = 2 then txO 4 else txO 5) ∧ W.length ≤ 6 ∧ ML c21 W ∧ Fs c c21, ?_, ?_⟩
  · rintro c21 ⟨W, hW, hWl, h21, f21⟩
    refine m_put h21 (by omega) (fun c24 h24 f24 _ _ => ⟨mk_a.2.1, vp_in_nI hi (by decide), ?_⟩)
    rw [show (32 : Int32) &&& 255 = 32 from by decide, hW] at h24
    have f24' := f21.tr f24
    have z24 : c24 178 i = nI L.length := by rw [f24'.1 178 (by decide) (by decide) (by decide) (by decide)]; exact s2
    rw [z24]
    generalize hT : (if k = 1 then txO 3 else if k = 2 then txO 4 else txO 5) = T at hW h24
    have hTl : T.length ≤ 7 := by rw [← hW, List.length_append, List.length_singleton]; omega
    refine m_putDec h24 (by omega) (by omega) (fun c27 h27 f27 => ?_)
    have f27' := f24'.tr f27
    refine m_put h27 (by rw [List.length_append]; omega) (fun c28 h28 f28 _ _ => ?_)
    have f28' := f27'.tr f28
    have eH : T ++ dcs L.length 10 ++ [(0 : Int32) &&& 255] = hdB k L.length := by unfold hdB; rw [hT]; rfl
    rw [eH] at h28
    have hHl : (hdB k L.length).length ≤ 11 := by rw [← eH, List.length_append, List.length_append, List.length_singleton]; omega
    refine ⟨fun m y c' => ∃ j, m = L.length - j ∧ j ≤ L.length ∧ y = nI j ∧ ML c' (hdB k L.length ++ L.take j) ∧ Fs c c', ⟨L.length, 0, rfl, Nat.zero_le _, rfl, by rw [List.take_zero, List.append_nil]; exact h28, f28'⟩, ?_⟩
    rintro m y c34 ⟨j, rfl, hj, rfl, h34, f34⟩
    have z34 : c34 178 i = nI L.length := by rw [f34.1 178 (by decide) (by decide) (by decide) (by decide)]; exact s2
    rw [z34]
    refine ⟨fun g => ?_, fun g => ?_⟩
    · have ej : j = L.length := by
        have := (nI_leI (by omega) (by omega)).mp g
        omega
      subst ej
      rw [List.take_length] at h34
      refine m_sum h34 (by rw [List.length_append]; omega) (fun c36 h36 f36 => ?_)
      have f36' := f34.tr f36
      refine ⟨fun m y c' => ∃ q, m = 5 - q ∧ q ≤ 5 ∧ y = nI q ∧ (∀ p, p < q → c' 180 (5 * i + p) = sha (hdB k L.length ++ L) p) ∧ (∀ a, a ≠ 180 → c' a = c36 a) ∧ ∀ p, p < 5 * i ∨ 5 * i + 5 ≤ p → c' 180 p = c36 180 p, ⟨5, 0, rfl, Nat.zero_le _, rfl, fun p hp => absurd hp (Nat.not_lt_zero _), fun _ _ => rfl, fun _ _ => rfl⟩, ?_⟩
      rintro m y c42 ⟨q, rfl, hq, rfl, h42, f42, g42⟩
      refine ⟨fun g5 => ?_, fun g5 => ?_⟩
      · have eq5 : q = 5 := by
          have := (nI_leI (a := 5) (by omega) (by omega)).mp g5
          omega
        subst eq5
        refine hk c42 h42 ⟨fun a h1 h2 h3 h4 h5 => ?_, fun p hp => ?_, fun p hp => ?_⟩
        · rw [f42 a h2]; exact f36'.1 a h1 h3 h4 h5
        · rw [f42 176 (by decide)]; exact f36'.2 p hp
        · rw [g42 p hp, f36'.1 180 (by decide) (by decide) (by decide) (by decide)]
      · have hq5 : q < 5 := by
          rcases Nat.lt_or_ge q 5 with w | w
          · exact w
          · exact absurd (nI_le (a := 5) w (by omega)) g5
        rw [show (5 : Int32) = nI 5 from rfl, pk_mul, nI_add, nI_clamp (show q < 2 ^ 31 by omega), nI_clamp (show 5 * i + q < 2 ^ 31 by omega)]
        refine ⟨mk_a2.2.2.2.2.2, vp_in_nI hq5 (by decide), mk_a.2.2.2.1, vp_in_nI (by omega) (by decide), fun c48 e48 => ⟨5 - (q + 1), by omega, q + 1, rfl, by omega, (nI_succ q).symm, fun p hp => ?_, fun a ha => ?_, fun p hp => ?_⟩⟩
        · rw [e48]
          by_cases ep : p = q
          · rw [ep, c_up_self, f42 189 (by decide)]
            exact h36 q hq5
          · rw [c_up_at (by omega)]
            exact h42 p (by omega)
        · rw [e48, c_up_ne ha]
          exact f42 a ha
        · rw [e48, c_up_at (by omega)]
          exact g42 p hp
    · have hjl : j < L.length := by
        rcases Nat.lt_or_ge j L.length with w | w
        · exact w
        · exact absurd (nI_le w (by omega)) g
      rw [show (120 : Int32) = nI 120 from rfl, pk_mul, nI_add, nI_clamp (show 120 * i + j < 2 ^ 31 by omega), f34.1 179 (by decide) (by decide) (by decide) (by decide), s3 j hjl]
      refine ⟨mk_a.2.2.1, vp_in_nI (by omega) (by decide), m_put h34 (by rw [List.length_append, List.length_take]; omega) (fun c51 h51 f51 _ _ => ⟨L.length - (j + 1), by omega, j + 1, rfl, by omega, (nI_succ j).symm, ?_, f34.tr f51⟩)⟩
      have hgb : L.getD j 0 &&& 255 = L.getD j 0 := by
        refine byt_and (hb _ ?_)
        rw [List.getD_eq_getElem?_getD, List.getElem?_eq_getElem hjl]
        exact List.getElem_mem hjl
      rw [hgb, List.append_assoc, ← take_snoc hjl] at h51
      exact h51
  · refine ⟨fun g1 => ⟨fun g2 => ?_, fun g2 => ?_⟩, fun g1 => ?_⟩
    · rw [if_neg g1, if_neg g2]
      refine m_put L2 (by decide) (fun a1 b1 d1 _ _ => m_put b1 (by decide) (fun a2 b2 d2 _ _ => m_put b2 (by decide) (fun a3 b3 d3 _ _ => m_put b3 (by decide) (fun a4 b4 d4 _ _ => ⟨_, ?_, ?_, b4, ((((f2.tr d1).tr d2).tr d3).tr d4)⟩))))
      · decide +kernel
      · decide
    · rw [if_neg g1, if_pos g2]
      refine m_put L2 (by decide) (fun a1 b1 d1 _ _ => m_put b1 (by decide) (fun a2 b2 d2 _ _ => m_put b2 (by decide) (fun a3 b3 d3 _ _ => m_put b3 (by decide) (fun a4 b4 d4 _ _ => ⟨_, ?_, ?_, b4, ((((f2.tr d1).tr d2).tr d3).tr d4)⟩))))
      · decide +kernel
      · decide
    · rw [if_pos g1]
      refine m_put L2 (by decide) (fun a1 b1 d1 _ _ => m_put b1 (by decide) (fun a2 b2 d2 _ _ => m_put b2 (by decide) (fun a3 b3 d3 _ _ => m_put b3 (by decide) (fun a4 b4 d4 _ _ => m_put b4 (by decide) (fun a5 b5 d5 _ _ => m_put b5 (by decide) (fun a6 b6 d6 _ _ => ⟨_, ?_, ?_, b6, ((((((f2.tr d1).tr d2).tr d3).tr d4).tr d5).tr d6)⟩))))))
      · decide +kernel
      · decide
