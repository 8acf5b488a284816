def Fq (c c' : cM) : Prop := (∀ a, a ≠ 176 → a ≠ 187 → a ≠ 188 → a ≠ 189 → a ≠ 190 → c' a = c a) ∧ ∀ k, k ≠ 13 → c' 176 k = c 176 k
theorem hbyte {f : Nat → Int32} {k : Nat} (hk : k < 20) : (c_ushr (f (k / 4)) (24 - (8 * (c_rem (nI k) 4)))) &&& 255 = (ib f 0 5).getD k 0 := by
  have e2 : c_rem (nI k) 4 = nI (k % 4) := by unfold c_rem; rw [show (4 : Int32) = nI 4 from rfl, pk_rem (by omega) (by decide) (by decide)]
  have e3 : (24 : Int32) - nI (8 * (k % 4)) = nI (24 - 8 * (k % 4)) := pk_sub (a := 24) (by omega)
  rw [e2, i8, e3, ib_at hk]
theorem byt_at {L : List Int32} (h : byt L) {j : Nat} (hj : j < L.length) : L.getD j 0 &&& 255 = L.getD j 0 := by
  refine byt_and (h _ ?_)
  rw [List.getD_eq_getElem?_getD, List.getElem?_eq_getElem hj]
  exact List.getElem_mem hj
theorem m_sealPack {c : cM} {P : List Int32} {K : cM → Prop} (h1 : c 176 17 = nI (P.length + 20)) (h2 : P.length + 20 ≤ 2400) (h3 : ∀ k, k < P.length → c 190 k = P.getD k 0) (hb : byt P) (hk : ∀ c', (∀ k, k < P.length + 20 → c' 190 k = (P ++ ib (sha P) 0 5).getD k 0) → Fq c c' → K c') : f_Mo_sealPack 176 c K := by
  have e20 : nI (P.length + 20) - 20 = nI P.length := by
    rw [show (20 : Int32) = nI 20 from rfl, pk_sub (by omega), Nat.add_sub_cancel]
  unfold f_Mo_sealPack
  rw [mk_k2.2.2.2.2.2.2, mk_k3.1, mk_l2.2.2.2.2.2, mk_l3.1]
  refine ⟨mk_k.1, fun c2 e2 => ?_⟩
  have f2 : Fs c c2 := ⟨fun a g1 _ _ _ => by rw [e2, c_up_ne g1], fun q hq => by rw [e2, c_up_at hq]⟩
  have L2 : ML c2 [] := ⟨by rw [e2, c_up_self]; rfl, fun q hq => absurd hq (Nat.not_lt_zero _)⟩
  refine ⟨fun m y c' => ∃ j, m = P.length - j ∧ j ≤ P.length ∧ y = nI j ∧ ML c' (P.take j) ∧ Fs c c', ⟨P.length, 0, rfl, Nat.zero_le _, rfl, by rw [List.take_zero]; exact L2, f2⟩, ?_⟩
  rintro m y c8 ⟨j, rfl, hj, rfl, L8, f8⟩
  rw [f8.2 17 (by decide), h1, e20]
  refine ⟨fun g => ?_, fun g => ?_⟩
  · have ej : j = P.length := by
      have := (nI_leI (by omega) (by omega)).mp g
      omega
    subst ej
    rw [List.take_length] at L8
    refine m_sum L8 (by omega) (fun c10 s10 f10 => ?_)
    have F10 := f8.tr f10
    refine ⟨fun m y c' => ∃ q, m = 20 - q ∧ q ≤ 20 ∧ y = nI q ∧ (∀ k, k < P.length + q → c' 190 k = (P ++ ib (sha P) 0 5).getD k 0) ∧ ∀ a, a ≠ 190 → c' a = c10 a, ⟨20, 0, rfl, Nat.zero_le _, rfl, fun k hk0 => ?_, fun _ _ => rfl⟩, ?_⟩
    · rw [F10.1 190 (by decide) (by decide) (by decide) (by decide), h3 k (by omega), gd_app (by omega)]
    · rintro m y c16 ⟨q, rfl, hq, rfl, h16, f16⟩
      refine ⟨fun g5 => hk c16 ?_ ⟨fun a b1 b2 b3 b4 b5 => ?_, fun k hk13 => ?_⟩, fun g5 => ?_⟩
      · have eq : q = 20 := by
          have := (nI_leI (a := 20) (by omega) (by omega)).mp g5
          omega
        subst eq
        exact h16
      · rw [f16 a b5]; exact F10.1 a b1 b2 b3 b4
      · rw [f16 176 (by decide)]; exact F10.2 k hk13
      · have hq20 : q < 20 := by
          rcases Nat.lt_or_ge q 20 with w | w
          · exact w
          · exact absurd (nI_le (a := 20) w (by omega)) g5
        have e4 : nI q / 4 = nI (q / 4) := by rw [show (4 : Int32) = nI 4 from rfl, pk_div (by omega) (by decide) (by decide)]
        rw [f16 176 (by decide), F10.2 17 (by decide), h1, e20, nI_add, nI_clamp (show P.length + q < 2 ^ 31 by omega), e4, nI_clamp (show q / 4 < 2 ^ 31 by omega), f16 189 (by decide), hbyte (f := c10 189) hq20, ib_congr s10]
        refine ⟨mk_a2.2.2.2.2.2, vp_in_nI (by omega) (by decide), mk_a3.1, vp_in_nI (by omega) (by decide), fun c22 e22 => ⟨20 - (q + 1), by omega, q + 1, rfl, by omega, (nI_succ q).symm, fun k hk1 => ?_, fun a ha => by rw [e22, c_up_ne ha]; exact f16 a ha⟩⟩
        rw [e22]
        by_cases ek : k = P.length + q
        · rw [ek, c_up_self, gd_app2 (by omega), Nat.add_sub_cancel_left]
        · rw [c_up_at ek]
          exact h16 k (by omega)
  · have hjl : j < P.length := by
      rcases Nat.lt_or_ge j P.length with w | w
      · exact w
      · exact absurd (nI_le w (by omega)) g
    rw [nI_clamp (by omega), f8.1 190 (by decide) (by decide) (by decide) (by decide), h3 j hjl]
    refine ⟨mk_a3.1, vp_in_nI (by omega) (by decide), m_put L8 (by rw [List.length_take]; omega) (fun c25 L25 f25 _ _ => ⟨P.length - (j + 1), by omega, j + 1, rfl, by omega, (nI_succ j).symm, ?_, f8.tr f25⟩)⟩
    rw [byt_at hb hjl, ← take_snoc hjl] at L25
    exact L25
theorem Fq.mr {c c' : cM} {σ : Sg} {P : List Int32} (h : MR c σ) (f : Fq c c') (h1 : c' 176 17 = nI P.length) (h2 : ∀ k, k < P.length → c' 190 k = P.getD k 0) : MR c' (σ.1, σ.2.1, σ.2.2.1, σ.2.2.2.1, P) :=
  h.pack P (fun a b1 b2 b3 => f.1 a (by omega) (by omega) (by omega) (by omega) b2) (fun k b1 b2 => f.2 k (by omega)) h1 h2
def selP (P : List Int32) : List Int32 := P ++ ib (sha P) 0 5
theorem selP_len (P : List Int32) : (selP P).length = P.length + 20 := by unfold selP; rw [List.length_append, ib_len5]
theorem selP_byt {P : List Int32} (h : byt P) : byt (selP P) := byt_app h (byt_ib _ _ _)
def selX (σ : Sg) : Int32 × Sg := if 20 ≤ σ.2.2.2.2.length then (1, σ.1, σ.2.1, σ.2.2.1, σ.2.2.2.1, selP (σ.2.2.2.2.take (σ.2.2.2.2.length - 20))) else (0, σ)
theorem selX_V {σ : Sg} (h : VS σ) : VS (selX σ).2 := by
  unfold selX
  split
  · obtain ⟨v1, v2, v3, v4, v5, v6, v7, v8⟩ := h
    refine ⟨v1, v2, v3, v4, v5, v6, ⟨selP_byt (byt_take v7.1), ?_⟩, v8⟩
    show (selP _).length ≤ 2192
    rw [selP_len, List.length_take]
    have := v7.2
    omega
  · exact h
/-- the sum of a row, and its bytes behind it -/
theorem s_seal2 {c : cM} {ρ : Nat → List Int32} {γ : cM} {σ : Sg} {P : List Int32} {K : cM → Prop} (h : Rep c ρ γ) (hC : CR ρ γ σ) (hP : ρ 91 = P) (hl : P.length + 20 ≤ 2192) (hk : ∀ c' γ', Rep c' (fu ρ 91 (selP P)) γ' → CR (fu ρ 91 (selP P)) γ' (σ.1, σ.2.1, σ.2.2.1, σ.2.2.2.1, selP P) → (∀ a, 176 ≤ a → γ' a = γ a) → K c') : f_Sum_ofRow 93 91 (nI P.length) c (fun c6 => f_Row_putInts 91 94 c6 K) := by
  have k91 := ps_k2.2.2.2.2.2.1
  have q94 : kd 94 = 100 := by decide +kernel
  have l94 : ln 94 = 5 := by decide +kernel
  have n94 : ¬ rc 94 := nrc (by decide +kernel)
  refine s_ofRow h k91 (by rw [hP]; exact Nat.le_refl _) (fun c6 h6 => ?_)
  rw [hP, List.take_length] at h6
  refine s_putInts (n := 5) h6 k91 q94 l94 (by decide) n94 (by rw [hP, ps_k3.2.2.2.2]; omega) (fun c7 h7 => ?_)
  rw [gs_94, hP, ib_congr (shS_sha (γ 94) (γ 95) P)] at h7
  refine hk c7 _ h7 ((hC.made (ρ' := ρ) (fun _ _ => rfl) (fun a ha => gs_ne (by omega))).pack (selP P)) (fun a ha => gs_ne (by omega))
theorem s_seal {c : cM} {ρ : Nat → List Int32} {γ : cM} {σ : Sg} {K : Int32 → cM → Prop} (h : Rep c ρ γ) (hC : CR ρ γ σ) (hV : VS σ) (hk : ∀ c' ρ' γ', Rep c' ρ' γ' → CR ρ' γ' (selX σ).2 → (∀ a, 176 ≤ a → γ' a = γ a) → K (selX σ).1 c') : f_P_seal 18 c K := by
  have k91 := ps_k2.2.2.2.2.2.1
  have hl := hV.2.2.2.2.2.2.1.2
  obtain ⟨w1, w2, w3⟩ := h.1 91 k91
  rw [hC.2.2.2.2.1] at w1 w2 w3
  have r0 : rf 93 0 = 94 := by decide +kernel
  unfold f_P_seal
  rw [ps_k.2.2.2.2.1, ps_k.2.2.2.2.2.1, r0, w1]
  refine ⟨ps_k.1, k91, fun g c4 e4 => ⟨ps_k2.2.2.2.2.2.2, ?_⟩, fun g => ?_⟩
  · have h20 : 20 ≤ σ.2.2.2.2.length := (nI_leI (a := 20) (by decide) (by omega)).mp g
    have eX : selX σ = (1, σ.1, σ.2.1, σ.2.2.1, σ.2.2.2.1, selP (σ.2.2.2.2.take (σ.2.2.2.2.length - 20))) := if_pos h20
    rw [show (20 : Int32) = nI 20 from rfl, pk_sub h20] at e4
    rw [eX] at hk
    generalize hP : σ.2.2.2.2.take (σ.2.2.2.2.length - 20) = P at hk
    have lP : P.length = σ.2.2.2.2.length - 20 := by rw [← hP, List.length_take]; omega
    have R4 : Rep c4 (fu ρ 91 P) γ := by
      refine h.row k91 (fun a n1 n2 => by rw [e4, c_up_ne n1]) ⟨?_, ?_, fun j hj2 => ?_⟩
      · rw [e4, c_up_self, lP]
      · rw [lP]; omega
      · rw [e4, c_up_ne (by decide), ← hP, gd_take (by omega)]
        exact w3 j (by omega)
    have v4 : c4 91 1 = nI P.length := by rw [e4, c_up_self, lP]
    rw [v4]
    refine s_seal2 (σ := (σ.1, σ.2.1, σ.2.2.1, σ.2.2.2.1, P)) R4 (hC.pack P) fu_self (by omega) (fun c7 γ7 h7 C7 f7 => hk c7 _ γ7 h7 C7 f7)
  · have eX : selX σ = (0, σ) := if_neg (fun q => g (nI_le q (by omega)))
    rw [eX] at hk
    exact hk c ρ γ h hC (fun _ _ => rfl)
theorem m_seal {c : cM} {σ : Sg} {K : Int32 → cM → Prop} (h : MR c σ) (hV : VS σ) (hk : ∀ c', MR c' (selX σ).2 → (∀ a, a < 176 → c' a = c a) → K (selX σ).1 c') : f_Mo_seal 176 c K := by
  have hl := hV.2.2.2.2.2.2.1.2
  obtain ⟨-, -, -, -, -, m6, m7⟩ := id h
  unfold f_Mo_seal
  rw [m6]
  refine ⟨mk_k.1, fun g => ?_, fun g => ?_⟩
  · have h20 : 20 ≤ σ.2.2.2.2.length := (nI_leI (a := 20) (by decide) (by omega)).mp g
    have eX : selX σ = (1, σ.1, σ.2.1, σ.2.2.1, σ.2.2.2.1, selP (σ.2.2.2.2.take (σ.2.2.2.2.length - 20))) := if_pos h20
    rw [eX] at hk
    generalize hP : σ.2.2.2.2.take (σ.2.2.2.2.length - 20) = P at hk
    have lP : P.length = σ.2.2.2.2.length - 20 := by rw [← hP, List.length_take]; omega
    refine m_sealPack (P := P) (by rw [m6, lP, Nat.sub_add_cancel h20]) (by omega) (fun k hk1 => by rw [m7 k (by omega), ← hP, gd_take (by omega)]) (by rw [← hP]; exact byt_take hV.2.2.2.2.2.2.1.1) (fun c' h1 f1 => hk c' (f1.mr h ?_ (fun k hk1 => h1 k (by rw [selP_len] at hk1; exact hk1))) (fun a ha => f1.1 a (by omega) (by omega) (by omega) (by omega) (by omega)))
    rw [f1.2 17 (by decide), m6, selP_len, lP, Nat.sub_add_cancel h20]
  · have eX : selX σ = (0, σ) := if_neg (fun q => g (nI_le q (by omega)))
    rw [eX] at hk
    exact hk c h (fun _ _ => rfl)
theorem p_seal {c : cM} {σ : Sg} {J : cM → Prop} (h : Inv c σ) (hJ : ∀ c σ, Inv c σ → J c) : f_P_seal 18 c (fun v c1 => kd 176 = 7 ∧ f_Mo_seal 176 c1 (fun v' c2 => Fin2 J v v' c2)) :=
  pairX (FP := fun c K => f_P_seal 18 c K) (FM := fun c K => f_Mo_seal 176 c K) (selX σ) h hJ (selX_V h.2.2) (fun _ _ _ hR hC hk => s_seal hR hC h.2.2 hk) (fun _ _ hM hk => m_seal hM h.2.2 hk)
