theorem pairX {FP FM : cM → (Int32 → cM → Prop) → Prop} {c : cM} {σ : Sg} {J : cM → Prop} (X : Int32 × Sg) (h : Inv c σ) (hJ : ∀ c σ, Inv c σ → J c) (hV : VS X.2) (hC : ∀ ρ γ K, Rep c ρ γ → CR ρ γ σ → (∀ c' ρ' γ', Rep c' ρ' γ' → CR ρ' γ' X.2 → (∀ a, 176 ≤ a → γ' a = γ a) → K X.1 c') → FP c K) (hM : ∀ c' K, MR c' σ → (∀ c'', MR c'' X.2 → (∀ a, a < 176 → c'' a = c' a) → K X.1 c'') → FM c' K) : FP c (fun v c1 => kd 176 = 7 ∧ FM c1 (fun v' c2 => Fin2 J v v' c2)) := by
  obtain ⟨⟨ρ, γ, hR, hCR⟩, hMR, hVS⟩ := h
  refine hC ρ γ _ hR hCR (fun c' ρ' γ' hR' hC' hk => ⟨mk_k.1, hM c' _ (hMR.keep (keepM hR hR' hk)) (fun c'' hM'' hk'' => fin2 rfl (hJ c'' X.2 ⟨keepC ⟨ρ', γ', hR', hC'⟩ hk'', hM'', hV⟩))⟩)
theorem CR.bring {ρ ρ' : Nat → List Int32} {γ γ' : cM} {σ : Sg} {ths : List Th} (h : CR ρ γ σ) (hk : Kp ρ γ ρ' γ') (hs : StR ρ' γ' ths) : CR ρ' γ' (ths, σ.2) := by
  obtain ⟨-, h2, h3, h4, h5, h6⟩ := h
  refine ⟨hs, hk.1.trans h2, fun l hl => ?_, fun b hb => ?_, hk.2.1.trans h5, ?_⟩
  · rw [hk.2.2 90 (by omega)]; exact h3 l hl
  · rw [hk.2.2 85 (by omega)]; exact h4 b hb
  · rw [hk.2.2 18 (by omega)]; exact h6
/-- made's cells may change: what is kept stays -/
theorem CR.made {ρ ρ' : Nat → List Int32} {γ γ' : cM} {σ : Sg} (h : CR ρ γ σ) (hr : ∀ r, r < 93 → ρ' r = ρ r) (hg : ∀ a, a < 93 → γ' a = γ a) : CR ρ' γ' σ := by
  obtain ⟨⟨s1, s2, s3⟩, h2, h3, h4, h5, h6⟩ := h
  refine ⟨⟨by rw [hg 19 (by decide)]; exact s1, s2, fun i x hx => ?_⟩, by rw [hr 88 (by decide)]; exact h2, by rw [hg 90 (by decide)]; exact h3, by rw [hg 85 (by decide)]; exact h4, by rw [hr 91 (by decide)]; exact h5, by rw [hg 18 (by decide)]; exact h6⟩
  have hi := (List.getElem?_eq_some_iff.mp hx).1
  obtain ⟨t1, t2, t3⟩ := s3 i x hx
  exact ⟨by rw [hg _ (by omega)]; exact t1, by rw [hr _ (by omega)]; exact t2, by rw [hg _ (by omega)]; exact t3⟩
def blobX (σ : Sg) : Int32 × Sg := ((bringX σ.1 (mkT 3 σ.2.1)).1, (bringX σ.1 (mkT 3 σ.2.1)).2, if (bringX σ.1 (mkT 3 σ.2.1)).1 < 0 then σ.2.1 else [], σ.2.2)
theorem s_blob {c : cM} {ρ : Nat → List Int32} {γ : cM} {σ : Sg} {K : Int32 → cM → Prop} (h : Rep c ρ γ) (hC : CR ρ γ σ) (hV : VS σ) (hk : ∀ c' ρ' γ', Rep c' ρ' γ' → CR ρ' γ' (blobX σ).2 → (∀ a, 176 ≤ a → γ' a = γ a) → K (blobX σ).1 c') : f_P_blob 18 c K := by
  obtain ⟨k98, -, -, l89, -⟩ := ps_k3
  have k88 := ps_k2.2.2.1
  have hl := hV.2.2.2.1.2
  obtain ⟨a1, a2, a3, a4, a5, a6, -⟩ := thing_k k98
  rw [show (98 + 1 : Nat) = 99 from rfl] at a1 a3
  unfold f_P_blob
  rw [ps_k.2.2.2.2.2.2, ps_k.2.2.1, a1]
  refine ⟨ps_k.1, k98, s_tbegin h k98 (fun c3 h3 => ⟨k88, a3, ?_⟩)⟩
  rw [show (98 + 1 : Nat) = 99 from rfl] at h3
  have g3 : c3 88 1 = nI σ.2.1.length := by have := (h3.1 88 k88).1; rw [fu_ne (by decide), hC.2.1] at this; exact this
  rw [g3, show (0 : Int32) = nI 0 from rfl]
  have hgo : ∀ c6, Rep c6 (fu ρ 99 σ.2.1) (c_up γ 98 0 3) → f_P_bringMade 18 c6 (fun v9 c8 => (v9 < nI 0 → K v9 c8) ∧ (¬ v9 < nI 0 → f_Row_clear 88 c8 (fun c11 => K v9 c11))) := by
    intro c6 h6
    have C6 : CR (fu ρ 99 σ.2.1) (c_up γ 98 0 3) σ := hC.made (fun r hr => fu_ne (by omega)) (fun a ha => c_up_ne (by omega))
    refine s_bringMade h6 C6.1 c_up_self fu_self (fun c8 ρ8 γ8 h8 s8 kp8 => ?_)
    have C8 := C6.bring kp8 s8
    have K8 : ∀ a, 176 ≤ a → γ8 a = γ a := fun a ha => by rw [kp8.2.2 a (by omega), c_up_ne (by omega)]
    refine ⟨fun g => ?_, fun g => s_clear h8 k88 (fun c11 h11 => ?_)⟩
    · have e : (blobX σ).2 = ((bringX σ.1 (mkT 3 σ.2.1)).2, σ.2.1, σ.2.2) := by unfold blobX; rw [if_pos (show (bringX σ.1 (mkT 3 σ.2.1)).1 < 0 from g)]
      rw [e] at hk
      exact hk c8 ρ8 γ8 h8 C8 K8
    · have e : (blobX σ).2 = ((bringX σ.1 (mkT 3 σ.2.1)).2, [], σ.2.2) := by unfold blobX; rw [if_neg (show ¬ (bringX σ.1 (mkT 3 σ.2.1)).1 < 0 from g)]
      rw [e] at hk
      exact hk c11 _ γ8 h11 (C8.typed []) K8
  refine s_putPart h3 a3 k88 (by decide) (by decide) (by omega) (fun _ _ c6 h6 => hgo c6 ?_) (fun h4 => ?_)
  · rw [fu_self, fu_fu, fu_ne (by decide), hC.2.1, List.nil_append, List.drop_zero, List.take_length] at h6
    exact h6
  · refine absurd ⟨?_, ?_⟩ h4
    · rw [fu_ne (by decide), hC.2.1, Nat.zero_add]
      exact Nat.le_refl _
    · rw [fu_self]
      have : ln (99 + 1) = 120 := a6
      rw [this]
      simp only [List.length_nil]
      omega
theorem Fa.mr {c c' : cM} {σ : Sg} (h : MR c σ) (hV : VS σ) (f : Fa c c') : MR c' σ :=
  h.loc hV (fun k _ => by rw [f.1 176 (by decide) (by decide)]) (fun i _ => by rw [f.1 177 (by decide) (by decide)]) (fun i hi => f.2.1 i (by omega)) (fun q hq => f.2.2 q (by omega)) (fun q _ => by rw [f.1 180 (by decide) (by decide)]) (fun a ha => f.1 a (by omega) (by omega))
theorem beg_mr {c c' : cM} {σ : Sg} {k : Int32} (h : MR c σ) (hV : VS σ) (e : c' = c_up (c_up c 177 32 k) 178 32 0) : MR c' σ ∧ slC c' 32 k [] ∧ ∀ a, a ≠ 177 → a ≠ 178 → c' a = c a := by
  refine ⟨h.loc hV (fun q _ => by rw [e, c_up_ne (by decide), c_up_ne (by decide)]) (fun i hi => by rw [e, c_up_ne (by decide), c_up_at (by omega)]) (fun i hi => by rw [e, c_up_at (by omega), c_up_ne (by decide)]) (fun q _ => by rw [e, c_up_ne (by decide), c_up_ne (by decide)]) (fun q _ => by rw [e, c_up_ne (by decide), c_up_ne (by decide)]) (fun a ha => by rw [e, c_up_ne (by omega), c_up_ne (by omega)]), ⟨?_, ?_, fun j hj => absurd hj (Nat.not_lt_zero _)⟩, fun a h1 h2 => by rw [e, c_up_ne h2, c_up_ne h1]⟩
  · rw [e, c_up_ne (by decide), c_up_self]
  · rw [e, c_up_self]; rfl
theorem m_blob {c : cM} {σ : Sg} {K : Int32 → cM → Prop} (h : MR c σ) (hV : VS σ) (hk : ∀ c', MR c' (blobX σ).2 → (∀ a, a < 176 → c' a = c a) → K (blobX σ).1 c') : f_Mo_blob 176 c K := by
  have hl := hV.2.2.2.1.2
  have hb := hV.2.2.2.1.1
  unfold f_Mo_blob
  rw [mk_k2.1, mk_l.2.2.2.2.2.2]
  refine ⟨mk_k.1, m_begin (fun c2 e2 => ?_)⟩
  obtain ⟨M2, S2, f2⟩ := beg_mr h hV e2
  refine ⟨fun m y c' => ∃ j, m = σ.2.1.length - j ∧ j ≤ σ.2.1.length ∧ y = nI j ∧ slC c' 32 3 (σ.2.1.take j) ∧ Fa c2 c', ⟨_, 0, rfl, Nat.zero_le _, rfl, by rw [List.take_zero]; exact S2, Fa.rf c2⟩, ?_⟩
  rintro m y c8 ⟨j, rfl, hj, rfl, S8, f8⟩
  have M8 := f8.mr M2 hV
  rw [M8.2.2.1.1]
  refine ⟨fun g => ?_, fun g => ?_⟩
  · have ej : j = σ.2.1.length := by
      have := (nI_leI (by omega) (by omega)).mp g
      omega
    subst ej
    rw [List.take_length] at S8
    refine m_come M8 hV S8 hb (by omega) (fun c10 h10 l10 => ?_)
    have low : ∀ a, a < 176 → c10 a = c a := fun a ha => by rw [l10 a ha, f8.1 a (by omega) (by omega), f2 a (by omega) (by omega)]
    refine ⟨fun g0 => ?_, fun g0 c13 e13 => ?_⟩
    · have e : (blobX σ).2 = ((bringX σ.1 (mkT 3 σ.2.1)).2, σ.2.1, σ.2.2) := by unfold blobX; rw [if_pos g0]
      rw [e] at hk
      exact hk c10 h10 low
    · have e : (blobX σ).2 = ((bringX σ.1 (mkT 3 σ.2.1)).2, [], σ.2.2) := by unfold blobX; rw [if_neg g0]
      rw [e] at hk
      refine hk c13 (h10.typed [] (fun a h1 _ => by rw [e13, c_up_ne (by omega)]) (fun q hq => by rw [e13, c_up_at hq]) (by rw [e13, c_up_self]; rfl) (fun q hq => absurd hq (Nat.not_lt_zero _))) (fun a ha => by rw [e13, c_up_ne (by omega)]; exact low a ha)
  · have hjl : j < σ.2.1.length := by
      rcases Nat.lt_or_ge j σ.2.1.length with w | w
      · exact w
      · exact absurd (nI_le w (by omega)) g
    rw [nI_clamp (by omega), M8.2.2.1.2 j hjl]
    refine ⟨mk_a.2.2.2.2.2.2, vp_in_nI (by omega) (by decide), m_add S8 (by rw [List.length_take]; omega) (fun c16 S16 f16 => ⟨σ.2.1.length - (j + 1), by omega, j + 1, rfl, by omega, (nI_succ j).symm, ?_, f8.tr f16⟩)⟩
    rw [take_snoc hjl]
    exact S16
theorem blobX_V {σ : Sg} (h : VS σ) : VS (blobX σ).2 := by
  have hT : VT (mkT 3 σ.2.1) := ⟨Or.inr (Or.inr rfl), h.2.2.2.1.1, by have := h.2.2.2.1.2; show σ.2.1.length ≤ 120; omega⟩
  obtain ⟨v1, v2, v3, v4, v5, v6, v7, v8⟩ := h.bring hT
  unfold blobX
  refine ⟨v1, v2, v3, ?_, v5, v6, v7, v8⟩
  show byt (if _ then _ else _) ∧ (if _ then _ else _ : List Int32).length ≤ 64
  split
  · exact v4
  · exact ⟨fun b hb => (by cases hb), Nat.zero_le _⟩
theorem p_blob {c : cM} {σ : Sg} {J : cM → Prop} (h : Inv c σ) (hJ : ∀ c σ, Inv c σ → J c) : f_P_blob 18 c (fun v c1 => kd 176 = 7 ∧ f_Mo_blob 176 c1 (fun v' c2 => Fin2 J v v' c2)) :=
  pairX (blobX σ) h hJ (blobX_V h.2.2) (fun _ _ _ hR hC hk => s_blob hR hC h.2.2 hk) (fun _ _ hM hk => m_blob hM h.2.2 hk)
