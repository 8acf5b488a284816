def Hd (c : cM) (e : Nat) : Int32 ⊕ Nat → Prop
  | .inr q => c 176 20 = nI q ∧ c 176 22 = 0 ∧ q ≤ e
  | .inl v => c 176 22 = v ∧ ng v
def Me (c : cM) (P : List Int32) (e : Nat) : Prop := (∀ k, k < P.length → c 190 k = P.getD k 0) ∧ c 176 21 = nI e ∧ byt P ∧ P.length ≤ 2192 ∧ e ≤ P.length
def Fe (c c' : cM) : Prop := (∀ a, a ≠ 176 → c' a = c a) ∧ ∀ k, k ≠ 20 → k ≠ 22 → c' 176 k = c 176 k
theorem Fe.rf (c : cM) : Fe c c := ⟨fun _ _ => rfl, fun _ _ _ => rfl⟩
theorem Fe.tr {c c' c'' : cM} (h : Fe c c') (g : Fe c' c'') : Fe c c'' := ⟨fun a h1 => (g.1 a h1).trans (h.1 a h1), fun k h1 h2 => (g.2 k h1 h2).trans (h.2 k h1 h2)⟩
theorem Me.fe {c c' : cM} {P : List Int32} {e : Nat} (h : Me c P e) (f : Fe c c') : Me c' P e := ⟨fun k hk => by rw [f.1 190 (by decide)]; exact h.1 k hk, by rw [f.2 21 (by decide) (by decide)]; exact h.2.1, h.2.2⟩
theorem Hd.w {c : cM} {e : Nat} {v : Int32} (h : Hd c e (.inl v)) : ¬ c 176 22 = 0 := by rw [h.1]; exact (ng_n h.2).1
theorem m_nextw {c : cM} {e : Nat} {v : Int32} {K : Int32 → cM → Prop} (h : Hd c e (.inl v)) (hk : K 0 c) : f_Mo_next 176 c K := by
  unfold f_Mo_next
  refine ⟨mk_k.1, fun c' => c' = c, ?_, fun _ => rfl, fun g => absurd g h.w⟩
  rintro c5 rfl
  exact ⟨fun g => absurd g h.w, fun _ => hk⟩
theorem m_next {c : cM} {P : List Int32} {e p : Nat} {K : Int32 → cM → Prop} (hE : Me c P e) (h : Hd c e (.inr p)) (hk : ∀ v c', ((p < e ∧ Hd c' e (.inr (p + 1)) ∧ v = nI (bv P p)) ∨ (¬ p < e ∧ Hd c' e (.inl (-5)) ∧ v = 0)) → Fe c c' → K v c') : f_Mo_next 176 c K := by
  obtain ⟨E1, E2, E3, E4, E5⟩ := hE
  obtain ⟨h1, h2, h3⟩ := h
  unfold f_Mo_next
  rw [mk_k3.1, h1, h2, E2, mk_l3.1]
  by_cases g : p < e
  · have ne : ¬ nI p = nI e := fun q => by have := (nI_eq (by omega) (by omega)).mp q; omega
    refine ⟨mk_k.1, fun c' => c' = c, ?_, fun q => absurd rfl q, fun _ => ⟨fun _ => rfl, fun q => absurd q ne⟩⟩
    rintro c5 rfl
    refine ⟨fun _ => ?_, fun q => absurd h2 q⟩
    rintro c9 e9
    rw [h1, show nI p + 1 = nI (p + 1) from (nI_succ p).symm] at e9
    have c9e : c9 176 20 - 1 = nI p := by rw [e9, c_up_self]; exact pk_sub (b := 1) (by omega)
    rw [c9e, nI_clamp (show p < 2 ^ 31 by omega), show c9 190 p = P.getD p 0 by rw [e9, c_up_ne (by decide)]; exact E1 p (by omega)]
    refine ⟨mk_a3.1, vp_in_nI (by omega) (by decide), hk _ c9 (Or.inl ⟨g, ⟨by rw [e9, c_up_self], by rw [e9, c_up_at (by decide)]; exact h2, by omega⟩, (bv_e E3 (by omega)).1⟩) ⟨fun a ha => by rw [e9, c_up_ne ha], fun k h4 h5 => by rw [e9, c_up_at h4]⟩⟩
  · have : p = e := by omega
    subst this
    refine ⟨mk_k.1, fun c' => c' = c_up c 176 22 (-5), ?_, fun q => absurd rfl q, fun _ => ⟨fun q => absurd rfl q, fun _ c13 e13 => e13⟩⟩
    rintro c5 e5
    have w5 : c5 176 22 = -5 := by rw [e5, c_up_self]
    rw [w5]
    exact ⟨fun q => absurd q (by decide), fun _ => hk 0 c5 (Or.inr ⟨g, ⟨w5, Or.inl rfl⟩, rfl⟩) ⟨fun a ha => by rw [e5, c_up_ne ha], fun k h4 h5 => by rw [e5, c_up_at h5]⟩⟩
theorem m_expect {c : cM} {P : List Int32} {e : Nat} {r : Int32 ⊕ Nat} {x v : Int32} {K : cM → Prop} (hE : Me c P e) (h : Hd c e r) (hx : x &&& 255 = v) (hk : ∀ c', Hd c' e (rsb r (rdE P e [v])) → Fe c c' → K c') : f_Mo_expect 176 x c K := by
  unfold f_Mo_expect
  rw [hx]
  refine ⟨mk_k.1, ?_⟩
  cases r with
  | inl w =>
    refine m_nextw h ⟨fun _ => hk c h (Fe.rf c), fun q => absurd q h.w⟩
  | inr p =>
    refine m_next hE h (fun u c2 h2 f2 => ?_)
    have er : rsb (.inr p) (rdE P e [v]) = if p < e then (if P.getD p 0 = v then .inr (p + 1) else .inl (-9)) else (.inl (-5) : Int32 ⊕ Nat) := rfl
    rcases h2 with ⟨g1, g2, rfl⟩ | ⟨g1, g2, rfl⟩
    · rw [if_pos g1] at er
      have hp : P.getD p 0 = nI (bv P p) := (bv_e hE.2.2.1 (by have := hE.2.2.2.2; omega)).1
      rw [hp] at er
      refine ⟨fun q => absurd g2.2.1 q, fun _ => ⟨fun q => ?_, fun q => ?_⟩⟩
      · rw [if_pos q] at er
        exact hk c2 (by rw [er]; exact g2) f2
      · rw [if_neg q] at er
        rintro c6 e6
        refine hk c6 (by rw [er]; exact ⟨by rw [e6, c_up_self], Or.inr (Or.inr (Or.inr (Or.inr (Or.inl rfl))))⟩) (f2.tr ⟨fun a ha => by rw [e6, c_up_ne ha], fun k h4 h5 => by rw [e6, c_up_at h5]⟩)
    · rw [if_neg g1] at er
      exact ⟨fun _ => hk c2 (by rw [er]; exact g2) f2, fun q => absurd q g2.w⟩
theorem m_readWrappedw {c : cM} {e : Nat} {w x : Int32} {K : cM → Prop} (h : Hd c e (.inl w)) (hk : K c) : f_Mo_readWrapped 176 x c K := by
  have ex : ∀ (y : Int32) (K' : cM → Prop), K' c → f_Mo_expect 176 y c K' := fun y K' hk' => by
    unfold f_Mo_expect
    exact ⟨mk_k.1, m_nextw h ⟨fun _ => hk', fun q => absurd q h.w⟩⟩
  unfold f_Mo_readWrapped
  refine ⟨mk_k.1, ex _ _ (ex _ _ (ex _ _ (ex _ _ (ex _ _ (ex _ _ (ex _ _ ?_))))))⟩
  refine ⟨fun m a b y c' => c' = c, ⟨0, rfl⟩, ?_⟩
  rintro m a b y c16 rfl
  have t : f_Mo_expect 176 (c_shr b 8) c16 (fun c26 => f_Mo_expect 176 b c26 (fun c27 => f_Mo_expect 176 (c_shr a 8) c27 (fun c28 => f_Mo_expect 176 a c28 (fun c29 => K c29)))) := ex _ _ (ex _ _ (ex _ _ (ex _ _ hk)))
  exact ⟨_, id, fun _ => t, fun _ => ⟨fun _ => t, fun q => absurd q h.w⟩⟩
def Fdw (c c' : cM) : Prop := (∀ a, a ≠ 176 → a ≠ 192 → c' a = c a) ∧ ∀ k, k ≠ 20 → k ≠ 22 → c' 176 k = c 176 k
theorem Fdw.tr {c c' c'' : cM} (h : Fdw c c') (g : Fdw c' c'') : Fdw c c'' := ⟨fun a h1 h2 => (g.1 a h1 h2).trans (h.1 a h1 h2), fun k h1 h2 => (g.2 k h1 h2).trans (h.2 k h1 h2)⟩
theorem Fe.fd {c c' : cM} (h : Fe c c') : Fdw c c' := ⟨fun a h1 _ => h.1 a h1, h.2⟩
theorem Me.fd {c c' : cM} {P : List Int32} {e : Nat} (h : Me c P e) (f : Fdw c c') : Me c' P e := ⟨fun k hk => by rw [f.1 190 (by decide) (by decide)]; exact h.1 k hk, by rw [f.2 21 (by decide) (by decide)]; exact h.2.1, h.2.2⟩
theorem m_readWrapped {c : cM} {P : List Int32} {e n p : Nat} {K : cM → Prop} (hE : Me c P e) (h : Hd c e (.inr p)) (hn : n ≤ 120) (hk : ∀ c', ((∃ D q, wrR P e n p = .inr (D, q) ∧ Hd c' e (.inr q) ∧ ∀ k, k < D.length → c' 192 k = D.getD k 0) ∨ (∃ w, wrR P e n p = .inl w ∧ Hd c' e (.inl w))) → Fdw c c' → K c') : f_Mo_readWrapped 176 (nI n) c K := by
  have hp := h.2.2
  obtain ⟨E1, E2, E3, E4, E5⟩ := id hE
  unfold f_Mo_readWrapped
  rw [show (65535 : Int32) - nI n = nI (65535 - n) from pk_sub (a := 65535) (by omega)]
  refine ⟨mk_k.1, m_expect (v := 120) hE h (by decide) (fun c2 h2 f2 => ?_)⟩
  have E2' := hE.fe f2
  refine m_expect (v := 1) E2' h2 (by decide) (fun c3 h3 f3 => ?_)
  have E3' := E2'.fe f3
  refine m_expect (v := 1) E3' h3 (by decide) (fun c4 h4 f4 => ?_)
  have E4' := E3'.fe f4
  refine m_expect E4' h4 rfl (fun c5 h5 f5 => ?_)
  have E5' := E4'.fe f5
  refine m_expect E5' h5 rfl (fun c6 h6 f6 => ?_)
  have E6' := E5'.fe f6
  refine m_expect E6' h6 rfl (fun c7 h7 f7 => ?_)
  have E7' := E6'.fe f7
  refine m_expect E7' h7 rfl (fun c8 h8 f8 => ?_)
  have E8' := E7'.fe f8
  have F8 : Fe c c8 := f2.tr (f3.tr (f4.tr (f5.tr (f6.tr (f7.tr f8)))))
  have eh : rdE P e (hdW n) p = rsb (rsb (rsb (rsb (rsb (rsb (rsb (.inr p) (rdE P e [120])) (rdE P e [1])) (rdE P e [1])) (rdE P e [nI n &&& 255])) (rdE P e [c_shr (nI n) 8 &&& 255])) (rdE P e [nI (65535 - n) &&& 255])) (rdE P e [c_shr (nI (65535 - n)) 8 &&& 255]) := by
    unfold hdW
    rw [lb_2 (by omega), lb_2 (by omega)]
    simp only [← List.append_assoc]
    rw [rdE_app, rdE_app, rdE_app, rdE_app, rdE_app, rdE_app, rsb_r]
  rw [← eh] at h8
  rw [mk_k3.2.2, mk_l3.2.2]
  cases e8 : rdE P e (hdW n) p with
  | inl w =>
    rw [e8] at h8
    have ew : wrR P e n p = .inl w := by unfold wrR; rw [e8]; rfl
    have ex : ∀ (y : Int32) (K' : cM → Prop), K' c8 → f_Mo_expect 176 y c8 K' := fun y K' hk' => by
      unfold f_Mo_expect
      exact ⟨mk_k.1, m_nextw h8 ⟨fun _ => hk', fun q => absurd q h8.w⟩⟩
    refine ⟨fun m a b y c' => c' = c8, ⟨0, rfl⟩, ?_⟩
    rintro m a b y c16 rfl
    have t : f_Mo_expect 176 (c_shr b 8) c16 (fun c26 => f_Mo_expect 176 b c26 (fun c27 => f_Mo_expect 176 (c_shr a 8) c27 (fun c28 => f_Mo_expect 176 a c28 (fun c29 => K c29)))) := ex _ _ (ex _ _ (ex _ _ (ex _ _ (hk _ (Or.inr ⟨w, ew, h8⟩) F8.fd))))
    exact ⟨_, id, fun _ => t, fun _ => ⟨fun _ => t, fun q => absurd q h8.w⟩⟩
  | inr q =>
    rw [e8] at h8
    have ew : wrR P e n p = if q + n ≤ e then rsb (rdE P e (tlW ((P.drop q).take n)) (q + n)) (fun q2 => .inr ((P.drop q).take n, q2)) else .inl (-5) := by unfold wrR; rw [e8]; rfl
    refine ⟨fun m y13 y14 y15 c' => Fdw c c' ∧ ((∃ j, m + j = n ∧ y15 = nI j ∧ (y13, y14) = adl ((P.drop q).take j) ∧ Hd c' e (.inr (q + j)) ∧ ∀ k, k < j → c' 192 k = P.getD (q + k) 0) ∨ (¬ q + n ≤ e ∧ Hd c' e (.inl (-5)))), ⟨n, F8.fd, Or.inl ⟨0, rfl, rfl, rfl, h8, fun k hk2 => absurd hk2 (Nat.not_lt_zero _)⟩⟩, ?_⟩
    rintro m y13 y14 y15 c16 ⟨f16, (⟨j, hm, rfl, eab, h16, d16⟩ | ⟨g16, h16⟩)⟩
    · have hqj := h16.2.2
      have E16 := hE.fd f16
      refine ⟨_, id, fun g => ?_, fun g => ⟨fun q => absurd h16.2.1 q, fun _ => ?_⟩⟩
      · have g1 : n ≤ j := (nI_leI (by omega) (by omega)).mp g
        have : j = n := by omega
        subst this
        rw [if_pos hqj] at ew
        have hbD : byt ((P.drop q).take j) := byt_take (byt_drop E3)
        have hlD : ((P.drop q).take j).length = j := by rw [List.length_take, List.length_drop]; omega
        obtain ⟨a, b, ha, hb2, hab⟩ := adl_r hbD
        rw [hab] at eab
        have e1 : y13 = nI a := by injection eab
        have e2 : y14 = nI b := by injection eab
        rw [e1, e2]
        refine m_expect E16 h16 rfl (fun c26 h26 f26 => ?_)
        have E26 := E16.fe f26
        refine m_expect E26 h26 rfl (fun c27 h27 f27 => ?_)
        have E27 := E26.fe f27
        refine m_expect E27 h27 rfl (fun c28 h28 f28 => ?_)
        have E28 := E27.fe f28
        refine m_expect E28 h28 rfl (fun c29 h29 f29 => ?_)
        have F29 := f26.tr (f27.tr (f28.tr f29))
        have et : rdE P e (tlW ((P.drop q).take j)) (q + j) = rsb (rsb (rsb (rsb (.inr (q + j)) (rdE P e [c_shr (nI b) 8 &&& 255])) (rdE P e [nI b &&& 255])) (rdE P e [c_shr (nI a) 8 &&& 255])) (rdE P e [nI a &&& 255]) := by
          unfold tlW
          rw [hab]
          show rdE P e (hb (nI b) 2 ++ hb (nI a) 2) (q + j) = _
          rw [hb_2 (by omega), hb_2 (by omega)]
          simp only [← List.append_assoc]
          rw [rdE_app, rdE_app, rdE_app, rsb_r]
        rw [← et] at h29
        cases e9 : rdE P e (tlW ((P.drop q).take j)) (q + j) with
        | inl w =>
          rw [e9] at h29 ew
          exact hk c29 (Or.inr ⟨w, ew, h29⟩) (f16.tr F29.fd)
        | inr q2 =>
          rw [e9] at h29 ew
          refine hk c29 (Or.inl ⟨_, q2, ew, h29, fun k hk2 => ?_⟩) (f16.tr F29.fd)
          rw [hlD] at hk2
          rw [F29.1 192 (by decide), d16 k hk2, gd_tk hk2]
      · have g1 : j < n := by
          rcases Nat.lt_or_ge j n with w | w
          · exact w
          · exact absurd (nI_le w (by omega)) g
        refine m_next E16 h16 (fun u c31 h31 f31 => ⟨mk_a3.2.2, vp_in_nI (by omega) (by decide), ?_⟩)
        rw [nI_clamp (show j < 2 ^ 31 by omega)]
        rintro c35 e35
        have F35 : Fdw c c35 := f16.tr (f31.fd.tr ⟨fun a h1 h2 => by rw [e35, c_up_ne h2], fun k h1 h2 => by rw [e35, c_up_ne (by decide)]⟩)
        rw [show c35 192 j = u by rw [e35, c_up_self]]
        rcases h31 with ⟨g2, g3, rfl⟩ | ⟨g2, g3, rfl⟩
        · refine ⟨m - 1, by omega, F35, Or.inl ⟨j + 1, by omega, (nI_succ j).symm, ?_, ⟨by rw [e35, c_up_ne (by decide)]; exact g3.1, by rw [e35, c_up_ne (by decide)]; exact g3.2.1, g3.2.2⟩, fun k hk2 => ?_⟩⟩
          · have hv := bv_e E3 (show q + j < P.length by omega)
            rw [← dt_s (show q + j < P.length by omega), hv.1]
            unfold adl
            rw [List.foldl_append]
            show _ = adf (adl ((P.drop q).take j)) (nI (bv P (q + j)))
            rw [← eab]
            rfl
          · rw [e35]
            by_cases ek : k = j
            · rw [ek, c_up_self, (bv_e E3 (show q + j < P.length by omega)).1]
            · rw [c_up_at ek, f31.1 192 (by decide)]; exact d16 k (by omega)
        · exact ⟨m - 1, by omega, F35, Or.inr ⟨by omega, ⟨by rw [e35, c_up_ne (by decide)]; exact g3.1, g3.2⟩⟩⟩
    · rw [if_neg g16] at ew
      have ex : ∀ (y : Int32) (K' : cM → Prop), K' c16 → f_Mo_expect 176 y c16 K' := fun y K' hk' => by
        unfold f_Mo_expect
        exact ⟨mk_k.1, m_nextw h16 ⟨fun _ => hk', fun q => absurd q h16.w⟩⟩
      have t : f_Mo_expect 176 (c_shr y14 8) c16 (fun c26 => f_Mo_expect 176 y14 c26 (fun c27 => f_Mo_expect 176 (c_shr y13 8) c27 (fun c28 => f_Mo_expect 176 y13 c28 (fun c29 => K c29)))) := ex _ _ (ex _ _ (ex _ _ (ex _ _ (hk _ (Or.inr ⟨_, ew, h16⟩) f16))))
      exact ⟨_, id, fun _ => t, fun _ => ⟨fun _ => t, fun q => absurd q h16.w⟩⟩
