theorem m_addDec {c : cM} {k : Int32} {L : List Int32} {n : Nat} {R : cM → Prop} (h : slC c 32 k L) (hn : n < 2 ^ 31) (hl : L.length + 10 ≤ 120) (hk : ∀ c', slC c' 32 k (L ++ dcs n 10) → Fa c c' → R c') : ∃ I37 : Nat → Int32 → Prop, (∃ n, I37 n 1) ∧ ∀ (n38 : Nat) (y41 : Int32), I37 n38 y41 → (¬ y41 = 0 ∧ ((((nI n / y41) ≤ 9) → (∃ I44 : Nat → Int32 → cM → Prop, (∃ n, I44 n y41 c) ∧ ∀ (n45 : Nat) (y48 : Int32) (c49 : cM), I44 n45 y48 c49 → (((y48 ≤ 0) → R c49) ∧ (¬ (y48 ≤ 0) → (¬ y48 = 0 ∧ (f_Mo_add 176 (48 + (c_rem (nI n / y48) 10)) c49 (fun c55 => ∃ m, m < n45 ∧ I44 m (y48 / 10) c55))))))) ∧ (¬ ((nI n / y41) ≤ 9) → (∃ m, m < n38 ∧ I37 m (10 * y41))))) := by
  refine ⟨fun m y => ∃ k, m = 9 - k ∧ k ≤ 9 ∧ y = nI (10 ^ k) ∧ (k = 0 ∨ 10 ^ k ≤ n), ⟨9, 0, rfl, by decide, rfl, Or.inl rfl⟩, ?_⟩
  rintro m y ⟨k2, rfl, hk9, rfl, hkn⟩
  have p1 := p10_lt hk9
  have p2 := p10_pos k2
  refine ⟨nI_ne0 p2 p1, ?_⟩
  rw [pk_div hn p2 p1]
  have hq : n / 10 ^ k2 < 2 ^ 31 := by have := Nat.div_le_self n (10 ^ k2); omega
  refine ⟨fun g => ?_, fun g => ?_⟩
  · have hd : n / 10 ^ k2 ≤ 9 := (nI_leI (b := 9) hq (by decide)).mp g
    have hlt : n < 10 ^ (k2 + 1) := by
      rw [Nat.pow_succ, Nat.mul_comm]
      have := Nat.lt_mul_div_succ n p2
      have h9 : 10 ^ k2 * (n / 10 ^ k2 + 1) ≤ 10 ^ k2 * 10 := Nat.mul_le_mul_left _ (by omega)
      rw [Nat.mul_comm 10]
      omega
    have htop : dcs n 10 = dcs n (k2 + 1) := by
      have := dcs_top hlt (9 - k2)
      rw [show k2 + 1 + (9 - k2) = 10 by omega] at this
      exact this
    have hone : ∀ j, j ≤ k2 → dcs n (j + 1) = [nI (48 + n / 10 ^ j % 10)] ++ dcs n j := by
      intro j hj
      have : 10 ^ j ≤ n ∨ j = 0 := by
        rcases hkn with q | q
        · right; omega
        · left
          exact Nat.le_trans (Nat.pow_le_pow_right (by decide) hj) q
      rw [dcs, if_pos this]
    refine ⟨fun m y c' => ∃ (A : List Int32), (m = 0 ∧ y = 0 ∨ ∃ j, m = j + 1 ∧ j ≤ k2 ∧ y = nI (10 ^ j)) ∧ A ++ dcs n m = L ++ dcs n (k2 + 1) ∧ slC c' 32 k A ∧ Fa c c' ∧ A.length ≤ L.length + (k2 + 1 - m) ∧ m ≤ k2 + 1, ⟨k2 + 1, L, Or.inr ⟨k2, rfl, Nat.le_refl _, rfl⟩, rfl, h, Fa.rf c, by omega, Nat.le_refl _⟩, ?_⟩
    rintro m y c1 ⟨A, hm, hA, h1, f1, hAl, hmk⟩
    rcases hm with ⟨rfl, rfl⟩ | ⟨j, rfl, hjk, rfl⟩
    · refine ⟨fun _ => hk c1 ?_ f1, fun q => absurd (by decide) q⟩
      rw [dcs, List.append_nil] at hA
      rw [htop, ← hA]
      exact h1
    · have q1 := p10_lt (show j ≤ 9 by omega)
      have q2 := p10_pos j
      rw [hone j hjk] at hA
      refine ⟨fun q => absurd q (nI_nle q2 q1), fun _ => ⟨nI_ne0 q2 q1, ?_⟩⟩
      rw [dg_eq hn (by omega)]
      refine m_add h1 (by omega) (fun c2 h2 f2 => ⟨j, by omega, A ++ [nI (48 + n / 10 ^ j % 10)], ?_, by rw [List.append_assoc]; exact hA, h2, f1.tr f2, ?_, by omega⟩)
      · rcases j with _ | j
        · left
          exact ⟨rfl, by decide⟩
        · right
          refine ⟨j, rfl, by omega, ?_⟩
          rw [show (10 : Int32) = nI 10 from rfl, pk_div q1 (by decide) (by decide), Nat.pow_succ, Nat.mul_div_cancel _ (by decide)]
      · rw [List.length_append, List.length_singleton]
        omega
  · have hd : 9 < n / 10 ^ k2 := by
      rcases Nat.lt_or_ge 9 (n / 10 ^ k2) with q | q
      · exact q
      · exact absurd (nI_le (b := 9) q (by decide)) g
    have hge : 10 ^ (k2 + 1) ≤ n := by
      rw [Nat.pow_succ]
      have := Nat.div_mul_le_self n (10 ^ k2)
      have h9 : 10 * 10 ^ k2 ≤ n / 10 ^ k2 * 10 ^ k2 := Nat.mul_le_mul_right _ (by omega)
      rw [Nat.mul_comm]
      omega
    have hk8 : k2 < 9 := by
      rcases Nat.lt_or_ge k2 9 with q | q
      · exact q
      · have e : k2 = 9 := by omega
        subst e
        exact absurd hge (by have : (10 : Nat) ^ (9 + 1) = 10000000000 := by decide
                             omega)
    refine ⟨9 - (k2 + 1), by omega, k2 + 1, rfl, by omega, ?_, Or.inr hge⟩
    rw [show (10 : Int32) = nI 10 from rfl, pk_mul, Nat.pow_succ, Nat.mul_comm]
def comP (ths : List Th) (p : Int32) : List Int32 := if p = -1 then [] else txO 8 ++ ib (nO ths p) 0 5 ++ [10]
def comC (ths : List Th) (t p : Int32) (n : Nat) : List Int32 := ((txO 4 ++ ib (nO ths t) 0 5 ++ [10]) ++ comP ths p) ++ txO 9 ++ dcs n 10 ++ [10]
def comX (σ : Sg) (t p x : Int32) : Int32 × Sg := if kO σ.1 t = 2 ∧ 0 ≤ x ∧ (p = -1 ∨ kO σ.1 p = 1) then ((bringX σ.1 (mkT 1 (comC σ.1 t p x.toNatClampNeg))).1, (bringX σ.1 (mkT 1 (comC σ.1 t p x.toNatClampNeg))).2, σ.2) else (-1, σ)
theorem comP_len (ths : List Th) (p : Int32) : (comP ths p).length ≤ 28 := by
  unfold comP
  split
  · exact Nat.zero_le _
  · rw [List.length_append, List.length_append, ib_len5, tx_l2.2.2.1]
    exact Nat.le_refl _
theorem comC_len (ths : List Th) (t p : Int32) (n : Nat) : (comC ths t p n).length ≤ 68 := by
  unfold comC
  have h1 := comP_len ths p
  have h2 := dcs_len10 n 10
  simp only [List.length_append, ib_len5, tx_len.2.1, tx_l2.2.2.2, List.length_singleton]
  omega
theorem byt_10 : byt [10] := byt_cons ⟨10, by decide, rfl⟩ byt_nil
theorem comC_byt (ths : List Th) (t p : Int32) (n : Nat) : byt (comC ths t p n) := by
  unfold comC comP
  refine byt_app (byt_app (byt_app (byt_app (byt_app (byt_app (byt_txO (by decide) (by decide)) (byt_ib _ _ _)) byt_10) ?_) (byt_txO (by decide) (by decide))) (byt_dcs _ _)) byt_10
  split
  · exact byt_nil
  · exact byt_app (byt_app (byt_txO (by decide) (by decide)) (byt_ib _ _ _)) byt_10
theorem comX_V {σ : Sg} {t p x : Int32} (h : VS σ) : VS (comX σ t p x).2 := by
  unfold comX
  split
  · exact h.bring ⟨Or.inl rfl, comC_byt _ _ _ _, by have := comC_len σ.1 t p x.toNatClampNeg; show (comC σ.1 t p x.toNatClampNeg).length ≤ 120; omega⟩
  · exact h
theorem s_commit {c : cM} {ρ : Nat → List Int32} {γ : cM} {σ : Sg} {t p x : Int32} {K : Int32 → cM → Prop} (h : Rep c ρ γ) (hC : CR ρ γ σ) (hk : ∀ c' ρ' γ', Rep c' ρ' γ' → CR ρ' γ' (comX σ t p x).2 → (∀ a, 176 ≤ a → γ' a = γ a) → K (comX σ t p x).1 c') : f_P_commit 18 t p x c K := by
  obtain ⟨k98, -⟩ := ps_k3
  obtain ⟨a1, a2, a3, a4, a5, a6, -⟩ := thing_k k98
  have l100 : ln (99 + 1) = 120 := a6
  rw [show (98 + 1 : Nat) = 99 from rfl] at a1 a3
  have hn := hC.1.2.1
  have bad : ¬ (kO σ.1 t = 2 ∧ 0 ≤ x ∧ (p = -1 ∨ kO σ.1 p = 1)) → K (-1) c := by
    intro hb
    have e : comX σ t p x = (-1, σ) := if_neg hb
    rw [e] at hk
    exact hk c ρ γ h hC (fun _ _ => rfl)
  unfold f_P_commit
  rw [ps_k.2.1, ps_k.2.2.2.2.2.2, a1]
  refine ⟨ps_k.1, st_k.2.2.2.2.1, s_kindO h hC.1 ⟨fun g => bad (fun q => g q.1), fun g => ⟨fun g2 => ⟨fun c11 => c11 = c ∧ (p = -1 ∨ kO σ.1 p = 1), ?_, fun g3 => ⟨rfl, Or.inl g3⟩, fun g3 => s_kindO h hC.1 ⟨fun g4 => ⟨rfl, Or.inr g4⟩, fun g4 => bad (fun q => q.2.2.elim g3 g4)⟩⟩, fun g2 => bad (fun q => g2 q.2.1)⟩⟩⟩
  rintro c11 ⟨rfl, hp⟩
  have e : comX σ t p x = ((bringX σ.1 (mkT 1 (comC σ.1 t p x.toNatClampNeg))).1, (bringX σ.1 (mkT 1 (comC σ.1 t p x.toNatClampNeg))).2, σ.2) := if_pos ⟨g, g2, hp⟩
  rw [e] at hk
  obtain ⟨j, y, hj, ht, hy⟩ := kO_in hn (by rw [g]; decide)
  have hx0 : ¬ x < 0 := Int32.not_lt.mpr g2
  obtain ⟨n, hn31, hx⟩ := nI_of hx0
  rw [hx, nI_clamp hn31] at hk
  have hnt : nO σ.1 t = y.2.2 := by rw [ht]; exact nO_at hy hn
  refine ⟨k98, s_tbegin h k98 (fun c15 h15 => ?_)⟩
  rw [show (98 + 1 : Nat) = 99 from rfl] at h15
  have C15 : CR (fu ρ 99 []) (c_up γ 98 0 1) σ := hC.made (fun r hr => fu_ne (by omega)) (fun a ha => c_up_ne (by omega))
  generalize hγ : c_up γ 98 0 1 = γ1 at h15 C15
  have g98 : γ1 98 0 = 1 := by rw [← hγ]; exact c_up_self
  have k176 : ∀ a, 176 ≤ a → γ1 a = γ a := fun a ha => by rw [← hγ]; exact c_up_ne (by omega)
  have Cm : ∀ L, CR (fu ρ 99 L) γ1 σ := fun L => by
    have := C15.made (ρ' := fu ρ 99 L) (γ' := γ1) (fun r hr => by rw [fu_ne (by omega), fu_ne (by omega)]) (fun _ _ => rfl)
    exact this
  rw [ht]
  refine s_putNamed (w := 4) h15 C15.1 (by decide) (by decide) (by rw [tx_len.2.1]; decide) hy fu_self (by decide) (fun c16 h16 => ?_)
  rw [fu_fu, List.nil_append, ← hnt] at h16
  generalize hA : txO 4 ++ ib (nO σ.1 t) 0 5 ++ [10] = A at h16
  have hAl : A.length = 26 := by rw [← hA, List.length_append, List.length_append, ib_len5, tx_len.2.1]; rfl
  have hpl := comP_len σ.1 p
  have hdl := dcs_len10 n 10
  refine ⟨fun c19 => Rep c19 (fu ρ 99 (A ++ comP σ.1 p)) γ1, fun c19 h19 => ⟨a3, ?_⟩, fun g3 => ?_, fun g3 => ?_⟩
  · refine s_putText h19 a3 (kd_tx 9 (by decide) (by decide)) (by rw [fu_self, l100, List.length_append, tx_l2.2.2.2]; omega) (fun c23 h23 => ?_)
    rw [fu_self, fu_fu] at h23
    rw [hx]
    refine s_putDec h23 a3 hn31 (by rw [fu_self, l100, List.length_append, List.length_append, tx_l2.2.2.2]; omega) (fun c24 h24 => ?_)
    rw [fu_self, fu_fu] at h24
    refine s_put h24 a3 (by rw [fu_self, l100, List.length_append, List.length_append, List.length_append, tx_l2.2.2.2]; omega) (fun c25 h25 => ?_)
    rw [fu_self, fu_fu] at h25
    have eL : A ++ comP σ.1 p ++ txO 9 ++ dcs n 10 ++ [10] = comC σ.1 t p n := by unfold comC; rw [hA]
    rw [eL] at h25
    refine s_bringMade h25 (Cm _).1 g98 fu_self (fun c26 ρ26 γ26 h26 s26 kp26 => hk c26 ρ26 γ26 h26 ((Cm _).bring kp26 s26) (fun a ha => by rw [kp26.2.2 a (by omega)]; exact k176 a ha))
  · show Rep c16 (fu ρ 99 (A ++ comP σ.1 p)) γ1
    unfold comP
    rw [if_pos g3, List.append_nil]
    exact h16
  · have hkp : kO σ.1 p = 1 := hp.elim (fun q => absurd q g3) id
    obtain ⟨j2, y2, hj2, hp2, hy2⟩ := kO_in hn (by rw [hkp]; decide)
    have hnp : nO σ.1 p = y2.2.2 := by rw [hp2]; exact nO_at hy2 hn
    have eP : comP σ.1 p = txO 8 ++ ib (nO σ.1 p) 0 5 ++ [10] := if_neg g3
    rw [hp2]
    refine s_putNamed (w := 8) h16 (Cm A).1 (by decide) (by decide) (by rw [tx_l2.2.2.1]; decide) hy2 fu_self (by omega) (fun c28 h28 => ?_)
    rw [fu_fu, ← hnp] at h28
    show Rep c28 (fu ρ 99 (A ++ comP σ.1 (nI j2))) γ1
    rw [← hp2, eP, ← List.append_assoc, ← List.append_assoc]
    exact h28
