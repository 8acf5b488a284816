def MW (c : cM) (P : List Int32) : Prop := c 176 17 = nI P.length ∧ ∀ k, k < P.length → c 190 k = P.getD k 0
def Fo (c c' : cM) : Prop := (∀ a, a ≠ 176 → a ≠ 190 → c' a = c a) ∧ ∀ k, k ≠ 17 → c' 176 k = c 176 k
theorem Fo.rf (c : cM) : Fo c c := ⟨fun _ _ _ => rfl, fun _ _ => rfl⟩
theorem Fo.tr {c c' c'' : cM} (h : Fo c c') (g : Fo c' c'') : Fo c c'' := ⟨fun a h1 h2 => (g.1 a h1 h2).trans (h.1 a h1 h2), fun k h1 => (g.2 k h1).trans (h.2 k h1)⟩
def Fp (c c' : cM) : Prop := (∀ a, a ≠ 176 → a ≠ 190 → a ≠ 192 → c' a = c a) ∧ ∀ k, k ≠ 17 → c' 176 k = c 176 k
theorem Fp.rf (c : cM) : Fp c c := ⟨fun _ _ _ _ => rfl, fun _ _ => rfl⟩
theorem Fp.tr {c c' c'' : cM} (h : Fp c c') (g : Fp c' c'') : Fp c c'' := ⟨fun a h1 h2 h3 => (g.1 a h1 h2 h3).trans (h.1 a h1 h2 h3), fun k h1 => (g.2 k h1).trans (h.2 k h1)⟩
theorem Fo.fp {c c' : cM} (h : Fo c c') : Fp c c' := ⟨fun a h1 h2 _ => h.1 a h1 h2, h.2⟩
theorem Fp.mt {c c' : cM} {i : Nat} {x : Th} (h : Fp c c') (m : MT c i x) : MT c' i x := m.keep (h.1 _ (by decide) (by decide) (by decide)) (h.1 _ (by decide) (by decide) (by decide)) (h.1 _ (by decide) (by decide) (by decide)) (h.1 _ (by decide) (by decide) (by decide))
theorem and255_lt {n : Nat} (h : n < 256) : nI n &&& 255 = nI n := by
  rw [show nI n &&& 255 = nI (n % 2 ^ 8) from pk_andN (by omega) 8 (by decide), Nat.mod_eq_of_lt h]
theorem m_write {c : cM} {P : List Int32} {x v : Int32} {K : cM → Prop} (h : MW c P) (hl : P.length < 2400) (hx : x &&& 255 = v) (hk : ∀ c', MW c' (P ++ [v]) → Fo c c' → K c') : f_Mo_write 176 x c K := by
  unfold f_Mo_write
  rw [mk_k3.1, h.1, nI_clamp (show P.length < 2 ^ 31 by omega), hx]
  refine ⟨mk_k.1, mk_a3.1, vp_in_nI (by rw [mk_l3.1]; exact hl) (by rw [mk_l3.1]; decide), ?_⟩
  rintro c4 e4 c5 e5
  have q4 : c4 176 17 = nI P.length := by rw [e4, c_up_ne (by decide)]; exact h.1
  refine hk c5 ⟨?_, fun k hk2 => ?_⟩ ⟨fun a h1 h2 => by rw [e5, c_up_ne h1, e4, c_up_ne h2], fun k h1 => by rw [e5, c_up_at h1, e4, c_up_ne (by decide)]⟩
  · rw [e5, c_up_self, q4, List.length_append, List.length_singleton]
    exact (nI_succ _).symm
  · rw [List.length_append, List.length_singleton] at hk2
    rw [e5, c_up_ne (by decide), e4]
    by_cases e : k = P.length
    · rw [e, c_up_self, gd_app2 (Nat.le_refl _), Nat.sub_self]
      rfl
    · rw [c_up_at e, gd_app (by omega)]
      exact h.2 k (by omega)
theorem m_writeMark {c : cM} {P : List Int32} {t n : Nat} {K : cM → Prop} (h : MW c P) (hl : P.length + 2 ≤ 2400) (ht : t ≤ 6) (hn : n ≤ 123) (hk : ∀ c', MW c' (P ++ mkB t n) → Fo c c' → K c') : f_Mo_writeMark 176 (nI t) (nI n) c K := by
  unfold f_Mo_writeMark
  rw [shr4 (by omega), and15 (by omega), i16, nI_add]
  refine ⟨fun s => s = nI (if n ≤ 15 then 0 else 128), ?_, fun g => ?_, fun g => ?_⟩
  · rintro s rfl
    rw [nI_add]
    refine ⟨mk_k.1, m_write h (by omega) (and255_lt (by split <;> omega)) (fun c6 h6 f6 => ⟨fun g => ?_, fun g => ?_⟩)⟩
    · have g2 : n ≤ 15 := (nI_leI (b := 15) (by omega) (by decide)).mp g
      refine hk c6 ?_ f6
      unfold mkB
      rw [if_pos g2, if_pos g2, List.append_nil]
      rw [if_pos g2] at h6
      exact h6
    · have g2 : ¬ n ≤ 15 := fun w => g (nI_le (b := 15) w (by decide))
      refine m_write h6 (by rw [List.length_append, List.length_singleton]; omega) (and255_lt (by omega)) (fun c8 h8 f8 => hk c8 ?_ (f6.tr f8))
      unfold mkB
      rw [if_neg g2] at h8
      rw [if_neg g2, if_neg g2, ← List.append_assoc]
      exact h8
  · have g2 : n ≤ 15 := (nI_leI (b := 15) (by omega) (by decide)).mp g
    rw [if_pos g2]
    rfl
  · have g2 : ¬ n ≤ 15 := fun w => g (nI_le (b := 15) w (by decide))
    rw [if_neg g2]
    rfl
theorem m_writeDistance {c : cM} {P : List Int32} {d : Nat} {K : cM → Prop} (h : MW c P) (hl : P.length + 2 ≤ 2400) (hd : d ≤ 2400) (hk : ∀ c', MW c' (P ++ dsB d) → Fo c c' → K c') : f_Mo_writeDistance 176 (nI d) c K := by
  unfold f_Mo_writeDistance
  refine ⟨fun g => ⟨mk_k.1, ?_⟩, fun g => ⟨mk_k.1, ?_⟩⟩
  · have g1 : 128 ≤ d := (nI_leI (a := 128) (by decide) (by omega)).mp g
    rw [i128 g1, rem128 (by omega), show nI (d - 128) / 128 = nI ((d - 128) / 128) from pk_div (d := 128) (by omega) (by decide) (by decide), show (128 : Int32) + nI ((d - 128) / 128) = nI (128 + (d - 128) / 128) from nI_add 128 _]
    refine m_write h (by omega) (and255_lt (by omega)) (fun c3 h3 f3 => m_write h3 (by rw [List.length_append, List.length_singleton]; omega) (and255_lt (by omega)) (fun c4 h4 f4 => hk c4 ?_ (f3.tr f4)))
    unfold dsB
    rw [if_pos g1, ← List.append_assoc]
    exact h4
  · have g1 : ¬ 128 ≤ d := fun w => g (nI_le (a := 128) w (by omega))
    refine m_write h (by omega) (and255_lt (by omega)) (fun c3 h3 f3 => hk c3 ?_ f3)
    unfold dsB
    rw [if_neg g1]
    exact h3
theorem ushr_nI {n s : Nat} (hn : n < 2 ^ 31) (hs : s < 32) : c_ushr (nI n) (nI s) = nI (n / 2 ^ s) := by
  rw [i32_nat, ushr_nat _ hs, nI_nat (by omega), nI_nat (Nat.lt_of_le_of_lt (Nat.div_le_self _ _) (by omega))]
theorem shr8 {n : Nat} (h : n < 2 ^ 31) : c_shr (nI n) 8 = nI (n / 256) := by
  unfold c_shr
  exact pk_shrN h _ 8 (by decide)
theorem lb_2 {n : Nat} (h : n < 2 ^ 31) : lb (nI n) 0 2 = [nI n &&& 255] ++ [c_shr (nI n) 8 &&& 255] := by
  show [c_ushr (nI n) (nI 0) &&& 255, c_ushr (nI n) (nI 8) &&& 255] = _
  rw [ushr_nI h (by decide), ushr_nI h (by decide), shr8 h, Nat.pow_zero, Nat.div_one]
  rfl
theorem hb_2 {n : Nat} (h : n < 2 ^ 31) : hb (nI n) 2 = [c_shr (nI n) 8 &&& 255] ++ [nI n &&& 255] := by
  show [c_ushr (nI n) (nI 8) &&& 255, c_ushr (nI n) (nI 0) &&& 255] = _
  rw [ushr_nI h (by decide), ushr_nI h (by decide), shr8 h, Nat.pow_zero, Nat.div_one]
  rfl
theorem rem65521 {n : Nat} (h : n < 2 ^ 31) : c_rem (nI n) 65521 = nI (n % 65521) := by
  unfold c_rem
  exact pk_rem (d := 65521) h (by decide) (by decide)
theorem adf_r : ∀ (L : List Int32) (a b : Nat), a < 65521 → b < 65521 → byt L → ∃ a' b', a' < 65521 ∧ b' < 65521 ∧ L.foldl adf (nI a, nI b) = (nI a', nI b')
  | [], a, b, ha, hb, _ => ⟨a, b, ha, hb, rfl⟩
  | v :: L, a, b, ha, hb, h => by
    obtain ⟨j, hj, rfl⟩ := h v List.mem_cons_self
    have e : adf (nI a, nI b) (nI j) = (nI ((a + j) % 65521), nI ((b + (a + j) % 65521) % 65521)) := by
      unfold adf
      show (c_rem (nI a + nI j) 65521, c_rem (nI b + c_rem (nI a + nI j) 65521) 65521) = _
      rw [nI_add, rem65521 (by omega), nI_add, rem65521 (by omega)]
    obtain ⟨a', b', q1, q2, q3⟩ := adf_r L _ _ (Nat.mod_lt (a + j) (by decide)) (Nat.mod_lt (b + (a + j) % 65521) (by decide)) (fun x hx => h x (List.mem_cons_of_mem _ hx))
    exact ⟨a', b', q1, q2, by rw [List.foldl_cons, e]; exact q3⟩
theorem adl_r {L : List Int32} (h : byt L) : ∃ a b, a < 65521 ∧ b < 65521 ∧ adl L = (nI a, nI b) := adf_r L 1 0 (by decide) (by decide) h
theorem m_writeWrapped {c : cM} {P D : List Int32} {K : cM → Prop} (h : MW c P) (hd : ∀ k, k < D.length → c 192 k = D.getD k 0) (hD : D.length ≤ 123) (hby : byt D) (hl : P.length + D.length + 11 ≤ 2400) (hk : ∀ c', MW c' (P ++ wrp D) → Fo c c' → K c') : f_Mo_writeWrapped 176 (nI D.length) c K := by
  unfold f_Mo_writeWrapped
  rw [show (65535 : Int32) - nI D.length = nI (65535 - D.length) from pk_sub (a := 65535) (by omega)]
  refine ⟨mk_k.1, m_write (v := 120) h (by omega) (by decide) (fun c2 h2 f2 => m_write (v := 1) h2 (by simp only [List.length_append, List.length_singleton]; omega) (by decide) (fun c3 h3 f3 => m_write (v := 1) h3 (by simp only [List.length_append, List.length_singleton]; omega) (by decide) (fun c4 h4 f4 => m_write h4 (by simp only [List.length_append, List.length_singleton]; omega) rfl (fun c5 h5 f5 => m_write h5 (by simp only [List.length_append, List.length_singleton]; omega) rfl (fun c6 h6 f6 => m_write h6 (by simp only [List.length_append, List.length_singleton]; omega) rfl (fun c7 h7 f7 => m_write h7 (by simp only [List.length_append, List.length_singleton]; omega) rfl (fun c8 h8 f8 => ?_)))))))⟩
  have H8 : MW c8 (P ++ hdW D.length) := by
    unfold hdW
    rw [lb_2 (by omega), lb_2 (by omega)]
    simp only [List.append_assoc] at h8 ⊢
    exact h8
  have F8 : Fo c c8 := f2.tr (f3.tr (f4.tr (f5.tr (f6.tr (f7.tr f8)))))
  rw [mk_k3.2.2]
  refine ⟨fun m y13 y14 y15 c' => ∃ j, m + j = D.length ∧ y15 = nI j ∧ (y13, y14) = adl (D.take j) ∧ MW c' (P ++ hdW D.length ++ D.take j) ∧ Fo c c', ⟨D.length, 0, rfl, rfl, rfl, by rw [List.take_zero, List.append_nil]; exact H8, F8⟩, ?_⟩
  rintro m y13 y14 y15 c16 ⟨j, hm, rfl, e, h16, f16⟩
  refine ⟨fun g => ?_, fun g => ?_⟩
  · have g1 : D.length ≤ j := (nI_leI (by omega) (by omega)).mp g
    rw [List.take_of_length_le g1] at e h16
    obtain ⟨a, b, ha, hb2, hab⟩ := adl_r hby
    rw [hab] at e
    have e1 : y13 = nI a := by injection e
    have e2 : y14 = nI b := by injection e
    rw [e1, e2]
    have l16 : (P ++ hdW D.length ++ D).length = P.length + 7 + D.length := by rw [List.length_append, List.length_append, hdW_len]
    refine m_write h16 (by omega) rfl (fun c18 h18 f18 => m_write h18 (by rw [List.length_append, List.length_singleton]; omega) rfl (fun c19 h19 f19 => m_write h19 (by rw [List.length_append, List.length_append, List.length_singleton, List.length_singleton]; omega) rfl (fun c20 h20 f20 => m_write h20 (by rw [List.length_append, List.length_append, List.length_append, List.length_singleton, List.length_singleton, List.length_singleton]; omega) rfl (fun c21 h21 f21 => hk c21 ?_ (f16.tr (f18.tr (f19.tr (f20.tr f21))))))))
    unfold wrp tlW
    rw [hab]
    show MW c21 (P ++ (hdW D.length ++ D ++ (hb (nI b) 2 ++ hb (nI a) 2)))
    rw [hb_2 (by omega), hb_2 (by omega)]
    simp only [List.append_assoc] at h21 ⊢
    exact h21
  · have g1 : j < D.length := by
      rcases Nat.lt_or_ge j D.length with w | w
      · exact w
      · exact absurd (nI_le w (by omega)) g
    have cj : c16 192 j = D.getD j 0 := by rw [f16.1 192 (by decide) (by decide)]; exact hd j g1
    have l16 : (P ++ hdW D.length ++ D.take j).length = P.length + 7 + j := by rw [List.length_append, List.length_append, hdW_len, List.length_take]; omega
    rw [nI_clamp (show j < 2 ^ 31 by omega), cj]
    refine ⟨mk_a3.2.2, vp_in_nI (by rw [mk_l3.2.2]; omega) (by rw [mk_l3.2.2]; decide), m_write h16 (by omega) (byt_at hby g1) (fun c24 h24 f24 => ⟨m - 1, by omega, j + 1, by omega, (nI_succ j).symm, ?_, ?_, f16.tr f24⟩)⟩
    · rw [f24.1 192 (by decide) (by decide), cj, adl_s g1, ← e]
      rfl
    · rw [List.append_assoc] at h24
      have : D.take (j + 1) = D.take j ++ [D.getD j 0] := by
        rw [List.take_succ, List.getD_eq_getElem?_getD, List.getElem?_eq_getElem g1]
        rfl
      rw [this]
      simp only [List.append_assoc] at h24 ⊢
      exact h24
theorem i120 (n : Nat) : (120 : Int32) * nI n = nI (120 * n) := pk_mul 120 n
theorem m_alike {c : cM} {i j f p : Nat} {z x : Th} {K : Int32 → cM → Prop} (hi : i < 33) (hj : j < 33) (hz : MT c i z) (hx : MT c j x) (lz : z.2.1.length ≤ 120) (lx : x.2.1.length ≤ 120) (hf : f < 5000) (hp : p < 5000) (hk : K (nI (alk z.2.1 f x.2.1 p)) c) : f_Mo_alike 176 (nI i) (nI f) (nI j) (nI p) c K := by
  obtain ⟨-, z2, z3, -⟩ := hz
  obtain ⟨-, x2, x3, -⟩ := hx
  unfold f_Mo_alike
  rw [mk_k.2.2.1, mk_k.2.2.2.1, nI_clamp (show i < 2 ^ 31 by omega), nI_clamp (show j < 2 ^ 31 by omega), z2, x2, i120, i120, nI_add, nI_add]
  refine ⟨fun m y => ∃ n, m + n = 5000 ∧ n ≤ z.2.1.length ∧ y = nI n ∧ ∀ k, k < n → Mch z.2.1 f x.2.1 p k, ⟨5000, 0, rfl, Nat.zero_le _, rfl, fun k hk => absurd hk (Nat.not_lt_zero _)⟩, ?_⟩
  rintro m y ⟨n, hm, hn, rfl, hall⟩
  have out : ¬ Mch z.2.1 f x.2.1 p n → K (nI n) c := fun w => by
    rw [alk_eq n f p hall w] at hk
    exact hk
  rw [nI_add, nI_add, nI_add, nI_add]
  refine ⟨mk_k.1, mk_a.2.1, vp_in_nI (by rw [mk_l.2.1]; exact hi) (by rw [mk_l.2.1]; decide), fun g => out (fun w => ?_), fun g => ⟨vp_in_nI (by rw [mk_l.2.1]; exact hj) (by rw [mk_l.2.1]; decide), fun g2 => out (fun w => ?_), fun g2 => ?_⟩⟩
  · have := (nI_leI (by omega) (by omega)).mp g
    have := w.1
    omega
  · have := (nI_leI (by omega) (by omega)).mp g2
    have := w.2.1
    omega
  · have h1 : f + n < z.2.1.length := by
      rcases Nat.lt_or_ge (f + n) z.2.1.length with w | w
      · exact w
      · exact absurd (nI_le w (by omega)) g
    have h2 : p + n < x.2.1.length := by
      rcases Nat.lt_or_ge (p + n) x.2.1.length with w | w
      · exact w
      · exact absurd (nI_le w (by omega)) g2
    rw [nI_clamp (show 120 * i + f + n < 2 ^ 31 by omega), nI_clamp (show 120 * j + p + n < 2 ^ 31 by omega), Nat.add_assoc, Nat.add_assoc, z3 _ h1, x3 _ h2]
    refine ⟨mk_a.2.2.1, vp_in_nI (by rw [mk_l.2.2.1]; omega) (by rw [mk_l.2.2.1]; decide), vp_in_nI (by rw [mk_l.2.2.1]; omega) (by rw [mk_l.2.2.1]; decide), fun g3 => out (fun w => g3 w.2.2), fun g3 => ⟨m - 1, by omega, n + 1, by omega, by omega, (nI_succ n).symm, fun k hk2 => ?_⟩⟩
    by_cases e : k = n
    · rw [e]; exact ⟨h1, h2, g3⟩
    · exact hall k (by omega)
