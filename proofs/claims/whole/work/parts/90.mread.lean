theorem m_next3 {c : cM} {P : List Int32} {e : Nat} {r : Int32 ⊕ Nat} {K : Int32 → cM → Prop} (hE : Me c P e) (h : Hd c e r) (hk : ∀ v c', ((∃ w, r = .inl w ∧ c' = c ∧ v = 0) ∨ (∃ p, r = .inr p ∧ p < e ∧ Hd c' e (.inr (p + 1)) ∧ v = nI (bv P p)) ∨ (∃ p, r = .inr p ∧ ¬ p < e ∧ Hd c' e (.inl (-5)) ∧ v = 0)) → Fe c c' → K v c') : f_Mo_next 176 c K := by
  cases r with
  | inl w => exact m_nextw h (hk 0 c (Or.inl ⟨w, rfl, rfl, rfl⟩) (Fe.rf c))
  | inr p =>
    refine m_next hE h (fun v c' h' f' => hk v c' ?_ f')
    rcases h' with ⟨q1, q2, q3⟩ | ⟨q1, q2, q3⟩
    · exact Or.inr (Or.inl ⟨p, rfl, q1, q2, q3⟩)
    · exact Or.inr (Or.inr ⟨p, rfl, q1, q2, q3⟩)
theorem m_size3 {c : cM} {P : List Int32} {e v : Nat} {r : Int32 ⊕ Nat} {K : Int32 → cM → Prop} (hE : Me c P e) (h : Hd c e r) (hv : v < 256) (hk : ∀ y c', ((∃ w, r = .inl w ∧ c' = c) ∨ (∃ p N q, r = .inr p ∧ N ≤ 1000 ∧ y = nI N ∧ rdS P e v p = some (min N 121, q) ∧ Hd c' e (.inr q)) ∨ (∃ p, r = .inr p ∧ rdS P e v p = none ∧ Hd c' e (.inl (-5)))) → Fe c c' → K y c') : f_Mo_readSize 176 (nI v) c K := by
  cases r with
  | inl w => exact m_sizew h (hk _ c (Or.inl ⟨w, rfl, rfl⟩) (Fe.rf c))
  | inr p =>
    refine m_size hE h hv (fun y c' h' f' => hk y c' ?_ f')
    rcases h' with ⟨N, q, q1, q2, q3, q4⟩ | ⟨q1, q2⟩
    · exact Or.inr (Or.inl ⟨p, N, q, rfl, q1, q2, q3, q4⟩)
    · exact Or.inr (Or.inr ⟨p, rfl, q1, q2⟩)
theorem rdT_0 {P : List Int32} {e p : Nat} {R : List Rd} (h : ¬ p < e) : rdT P e R p = .inl (-5) := by unfold rdT; rw [if_neg h]
theorem rdT_6 {P : List Int32} {e p : Nat} {R : List Rd} (h : p < e) (h6 : ¬ bv P p / 16 % 8 = 6) (h3 : ¬ (1 ≤ bv P p / 16 % 8 ∧ bv P p / 16 % 8 ≤ 3)) : rdT P e R p = .inl (-6) := by unfold rdT; rw [if_pos h, if_neg h6, if_neg h3]
theorem rdT_sz {P : List Int32} {e p : Nat} {R : List Rd} {w : Int32} (h : p < e) (ht : bv P p / 16 % 8 = 6 ∨ (1 ≤ bv P p / 16 % 8 ∧ bv P p / 16 % 8 ≤ 3)) (hs : szN P e (bv P p) (p + 1) = .inl w) : rdT P e R p = .inl w := by
  unfold rdT
  rw [if_pos h, hs]
  by_cases h6 : bv P p / 16 % 8 = 6
  · rw [if_pos h6]; rfl
  · rw [if_neg h6, if_pos (by omega)]; rfl
theorem rdT_ot {P : List Int32} {e p n q : Nat} {R : List Rd} {w : Int32} (h : p < e) (h6 : bv P p / 16 % 8 = 6) (hs : szN P e (bv P p) (p + 1) = .inr (n, q)) (ho : oth P e R p q = .inl w) : rdT P e R p = .inl w := by
  unfold rdT
  rw [if_pos h, hs, if_pos h6, rsb_r]
  simp only [ho]
  rfl
theorem rdT_w6 {P : List Int32} {e p n q i q' : Nat} {R : List Rd} {w : Int32} (h : p < e) (h6 : bv P p / 16 % 8 = 6) (hs : szN P e (bv P p) (p + 1) = .inr (n, q)) (ho : oth P e R p q = .inr (i, q')) (hw : wrR P e n q' = .inl w) : rdT P e R p = .inl w := by
  unfold rdT
  rw [if_pos h, hs, if_pos h6, rsb_r]
  simp only [ho, rsb_r, hw]
  rfl
theorem rdT_d6 {P : List Int32} {e p n q i q' q3 : Nat} {R : List Rd} {D : List Int32} {x : Rd} (h : p < e) (h6 : bv P p / 16 % 8 = 6) (hs : szN P e (bv P p) (p + 1) = .inr (n, q)) (ho : oth P e R p q = .inr (i, q')) (hw : wrR P e n q' = .inr (D, q3)) (hx : R[i]? = some x) : rdT P e R p = (cyo D x.2.2).elim (.inl (-10)) (fun L => .inr (x.2.1, L, q3)) := by
  unfold rdT
  rw [if_pos h, hs, if_pos h6, rsb_r]
  simp only [ho, rsb_r, hw, gdR hx]
theorem rdT_ww {P : List Int32} {e p n q : Nat} {R : List Rd} {w : Int32} (h : p < e) (h6 : ¬ bv P p / 16 % 8 = 6) (h3 : 1 ≤ bv P p / 16 % 8 ∧ bv P p / 16 % 8 ≤ 3) (hs : szN P e (bv P p) (p + 1) = .inr (n, q)) (hw : wrR P e n q = .inl w) : rdT P e R p = .inl w := by
  unfold rdT
  rw [if_pos h, hs, if_neg h6, if_pos h3, rsb_r]
  simp only [hw]
  rfl
theorem rdT_dw {P : List Int32} {e p n q q3 : Nat} {R : List Rd} {D : List Int32} (h : p < e) (h6 : ¬ bv P p / 16 % 8 = 6) (h3 : 1 ≤ bv P p / 16 % 8 ∧ bv P p / 16 % 8 ≤ 3) (hs : szN P e (bv P p) (p + 1) = .inr (n, q)) (hw : wrR P e n q = .inr (D, q3)) : rdT P e R p = .inr (nI (bv P p / 16 % 8), D, q3) := by
  unfold rdT
  rw [if_pos h, hs, if_neg h6, if_pos h3, rsb_r]
  simp only [hw]
  rfl
def Fm (k : Nat) (c c' : cM) : Prop := (∀ a, a ≠ 176 → a ≠ 177 → a ≠ 178 → a ≠ 179 → a ≠ 191 → a ≠ 192 → c' a = c a) ∧ (∀ f, f ≠ 20 → f ≠ 22 → c' 176 f = c 176 f) ∧ (∀ i, i ≠ 16 + k → c' 177 i = c 177 i) ∧ (∀ i, i ≠ 16 + k → c' 178 i = c 178 i) ∧ (∀ q, q < 120 * (16 + k) ∨ 120 * (16 + k) + 120 ≤ q → c' 179 q = c 179 q) ∧ ∀ i, i ≠ k → c' 191 i = c 191 i
theorem Fdw.fm {k : Nat} {c c4 c' : cM} {v : Int32} (e : c4 = c_up c 191 k v) (f : Fdw c4 c') : Fm k c c' := by
  have o : ∀ a, a ≠ 191 → c4 a = c a := fun a ha => by rw [e, c_up_ne ha]
  refine ⟨fun a h1 h2 h3 h4 h5 h6 => by rw [f.1 a h1 h6, o a h5], fun q h1 h2 => by rw [f.2 q h1 h2, o 176 (by decide)], fun i _ => by rw [f.1 177 (by decide) (by decide), o 177 (by decide)], fun i _ => by rw [f.1 178 (by decide) (by decide), o 178 (by decide)], fun q _ => by rw [f.1 179 (by decide) (by decide), o 179 (by decide)], fun i hi => by rw [f.1 191 (by decide) (by decide), e, c_up_at hi]⟩
theorem m_readThing {c : cM} {P : List Int32} {e p k : Nat} {R : List Rd} {K : cM → Prop} (hE : Me c P e) (h : Hd c e (.inr p)) (hRk : R.length = k) (hk16 : k < 16) (hR : ∀ (i : Nat) (x : Rd), R[i]? = some x → c 191 i = nI x.1 ∧ slC c (16 + i) x.2.1 x.2.2) (hV : ∀ x ∈ R, VR e x) (hI : ∀ (i j : Nat) (x y : Rd), i < j → R[i]? = some x → R[j]? = some y → x.1 < y.1) (hk : ∀ c', ((∃ t L q, rdT P e R p = .inr (t, L, q) ∧ Hd c' e (.inr q) ∧ c' 191 k = nI p ∧ slC c' (16 + k) t L) ∨ (∃ w, rdT P e R p = .inl w ∧ Hd c' e (.inl w))) → Fm k c c' → K c') : f_Mo_readThing 176 (nI k) c K := by
  have l177 : ln 177 = 33 := mk_l.1
  have l178 : ln 178 = 33 := mk_l.2.1
  have l179 : ln 179 = 3960 := mk_l.2.2.1
  have l191 : ln 191 = 16 := mk_l3.2.1
  have l192 : ln 192 = 400 := mk_l3.2.2
  have hp := h.2.2
  obtain ⟨E1, E2, E3, E4, E5⟩ := id hE
  unfold f_Mo_readThing
  rw [mk_k.2.1, mk_k.2.2.1, mk_k.2.2.2.1, mk_k3.2.1, mk_k3.2.2, l177, l178, l179, l191, l192, h.1, show (16 : Int32) + nI k = nI (16 + k) from nI_add 16 k, nI_clamp (show k < 2 ^ 31 by omega), nI_clamp (show 16 + k < 2 ^ 31 by omega)]
  refine ⟨mk_k.1, mk_a3.2.1, vp_in_nI hk16 (by decide), ?_⟩
  rintro c4 e4
  have o4 : ∀ a, a ≠ 191 → c4 a = c a := fun a ha => by rw [e4, c_up_ne ha]
  have H4 : Hd c4 e (.inr p) := ⟨by rw [o4 176 (by decide)]; exact h.1, by rw [o4 176 (by decide)]; exact h.2.1, hp⟩
  have M4 : Me c4 P e := ⟨fun q hq => by rw [o4 190 (by decide)]; exact E1 q hq, by rw [o4 176 (by decide)]; exact E2, E3, E4, E5⟩
  have s4 : c4 191 k = nI p := by rw [e4, c_up_self]
  have R4 : ∀ (i : Nat) (x : Rd), R[i]? = some x → c4 191 i = nI x.1 ∧ slC c4 (16 + i) x.2.1 x.2.2 := fun i x hx => by
    have hi := (List.getElem?_eq_some_iff.mp hx).1
    obtain ⟨x1, x2⟩ := hR i x hx
    exact ⟨by rw [e4, c_up_at (by omega)]; exact x1, x2.keep (o4 _ (by decide)) (o4 _ (by decide)) (o4 _ (by decide))⟩
  refine m_next M4 H4 (fun v6 c5 h5 f5 => ?_)
  obtain ⟨vv, hvv, rfl, h5'⟩ : ∃ vv, vv < 256 ∧ v6 = nI vv ∧ ((p < e ∧ Hd c5 e (.inr (p + 1)) ∧ vv = bv P p) ∨ (¬ p < e ∧ Hd c5 e (.inl (-5)))) := by
    rcases h5 with ⟨q1, q2, q3⟩ | ⟨q1, q2, q3⟩
    · exact ⟨bv P p, (bv_e E3 (by omega)).2, q3, Or.inl ⟨q1, q2, rfl⟩⟩
    · exact ⟨0, by decide, q3, Or.inr ⟨q1, q2⟩⟩
  rw [shr4 (show vv < 2 ^ 31 by omega), and7 (by omega)]
  have ht8 : vv / 16 % 8 < 8 := Nat.mod_lt _ (by decide)
  have tyI : ∀ n, n < 100 → (nI (vv / 16 % 8) = nI n ↔ vv / 16 % 8 = n) := fun n hn => nI_eq (by omega) (by omega)
  refine ⟨fun c13 => Fdw c4 c13 ∧ ∃ r, Hd c13 e r ∧ ((∃ w, r = .inl w ∧ rdT P e R p = .inl w) ∨ (r = .inr (p + 1) ∧ p < e ∧ vv = bv P p ∧ (vv / 16 % 8 = 6 ∨ (1 ≤ vv / 16 % 8 ∧ vv / 16 % 8 ≤ 3)))), ?_, ?_⟩
  · rintro c13 ⟨f13, r, h13, hr⟩
    refine m_size3 (M4.fd f13) h13 hvv (fun v17 c16 h16 f16 => ?_)
    have F16 := f13.tr f16.fd
    refine ⟨fun c21 => Fdw c4 c21 ∧ ∃ r2, Hd c21 e r2 ∧ ((∃ w, r2 = .inl w ∧ rdT P e R p = .inl w) ∨ (∃ n q, r2 = .inr q ∧ n ≤ 120 ∧ v17 = nI n ∧ szN P e (bv P p) (p + 1) = .inr (n, q) ∧ p < e ∧ vv = bv P p ∧ (vv / 16 % 8 = 6 ∨ (1 ≤ vv / 16 % 8 ∧ vv / 16 % 8 ≤ 3)))), ?_, fun g => ?_, fun g => ?_⟩
    · rintro c21 ⟨f21, r2, h21, hr2⟩
      refine ⟨fun y c47 => Fdw c4 c47 ∧ ((∃ w, Hd c47 e (.inl w) ∧ rdT P e R p = .inl w) ∨ (∃ n q q', Hd c47 e (.inr q') ∧ n ≤ 120 ∧ v17 = nI n ∧ szN P e (bv P p) (p + 1) = .inr (n, q) ∧ p < e ∧ vv = bv P p ∧ ((vv / 16 % 8 = 6 ∧ ∃ i, y = nI (16 + i) ∧ i < R.length ∧ oth P e R p q = .inr (i, q')) ∨ (¬ vv / 16 % 8 = 6 ∧ (1 ≤ vv / 16 % 8 ∧ vv / 16 % 8 ≤ 3) ∧ q' = q)))), ?_, fun g => ?_, fun g => ?_⟩
      · rintro y c47 ⟨f47, (⟨w, h47, hw⟩ | ⟨n, q, q', h47, hn, rfl, hs, hpe, hvb, hty⟩)⟩
        · exact m_readWrappedw h47 ⟨fun g => absurd g h47.w, fun _ => hk c47 (Or.inr ⟨w, hw, h47⟩) (f47.fm e4)⟩
        · subst hvb
          refine m_readWrapped (M4.fd f47) h47 hn (fun c50 h50 f50 => ?_)
          have F50 := f47.tr f50
          rcases h50 with ⟨D, q3, ew, h50, d50⟩ | ⟨w, ew, h50⟩
          · have zw := wrR_q h47.2.2 E5 E3 ew
            simp only at zw
            refine ⟨fun _ => ⟨fun g6 => ?_, fun g6 => ?_⟩, fun g => absurd h50.2.1 g⟩
            · have g7 : ¬ bv P p / 16 % 8 = 6 := fun w => g6 ((tyI 6 (by decide)).mpr w)
              rcases hty with ⟨w, -⟩ | ⟨-, h3, rfl⟩
              · exact absurd w g7
              · have eT := rdT_dw (R := R) hpe g7 h3 hs ew
                refine ⟨mk_a.1, vp_in_nI (by omega) (by decide), ?_⟩
                rintro c55 e55
                refine ⟨mk_a.2.1, vp_in_nI (by omega) (by decide), ?_⟩
                rintro c58 e58
                have o58 : ∀ a, a ≠ 177 → a ≠ 178 → c58 a = c50 a := fun a h1 h2 => by rw [e58, c_up_ne h2, e55, c_up_ne h1]
                refine ⟨fun m y c' => ∃ j, m + j = n ∧ y = nI j ∧ (∀ a, a ≠ 179 → c' a = c58 a) ∧ (∀ q, q < 120 * (16 + k) ∨ 120 * (16 + k) + 120 ≤ q → c' 179 q = c58 179 q) ∧ ∀ t, t < j → c' 179 (120 * (16 + k) + t) = D.getD t 0, ⟨n, 0, rfl, rfl, fun _ _ => rfl, fun _ _ => rfl, fun t ht => absurd ht (Nat.not_lt_zero _)⟩, ?_⟩
                rintro m y c64 ⟨j, hm, rfl, a1, a2, a3⟩
                refine ⟨fun g8 => ?_, fun g8 => ?_⟩
                · have g9 : n ≤ j := (nI_leI (by omega) (by omega)).mp g8
                  refine hk c64 (Or.inl ⟨_, D, q3, eT, ⟨?_, ?_, h50.2.2⟩, ?_, ⟨?_, ?_, fun t ht => a3 t (by omega)⟩⟩) ?_
                  · rw [a1 176 (by decide), o58 176 (by decide) (by decide)]; exact h50.1
                  · rw [a1 176 (by decide), o58 176 (by decide) (by decide)]; exact h50.2.1
                  · rw [a1 191 (by decide), o58 191 (by decide) (by decide), F50.1 191 (by decide) (by decide)]; exact s4
                  · rw [a1 177 (by decide), e58, c_up_ne (by decide), e55, c_up_self]
                  · rw [a1 178 (by decide), e58, c_up_self, zw.2.2.1]
                  · have fm := F50.fm e4
                    refine ⟨fun a h1 h2 h3 h4 h5 h6 => by rw [a1 a h4, o58 a h2 h3]; exact fm.1 a h1 h2 h3 h4 h5 h6, fun f h1 h2 => by rw [a1 176 (by decide), o58 176 (by decide) (by decide)]; exact fm.2.1 f h1 h2, fun i hi => by rw [a1 177 (by decide), e58, c_up_ne (by decide), e55, c_up_at hi]; exact fm.2.2.1 i hi, fun i hi => by rw [a1 178 (by decide), e58, c_up_at hi, e55, c_up_ne (by decide)]; exact fm.2.2.2.1 i hi, fun q hq => by rw [a2 q hq, o58 179 (by decide) (by decide)]; exact fm.2.2.2.2.1 q hq, fun i hi => by rw [a1 191 (by decide), o58 191 (by decide) (by decide)]; exact fm.2.2.2.2.2 i hi⟩
                · have g9 : j < n := by
                    rcases Nat.lt_or_ge j n with w | w
                    · exact w
                    · exact absurd (nI_le w (by omega)) g8
                  rw [i120, nI_add, nI_clamp (show 120 * (16 + k) + j < 2 ^ 31 by omega), nI_clamp (show j < 2 ^ 31 by omega), show c64 192 j = D.getD j 0 by rw [a1 192 (by decide), o58 192 (by decide) (by decide)]; exact d50 j (by omega)]
                  refine ⟨mk_a3.2.2, vp_in_nI (by omega) (by decide), mk_a.2.2.1, vp_in_nI (by omega) (by decide), ?_⟩
                  rintro c70 e70
                  refine ⟨m - 1, by omega, j + 1, by omega, (nI_succ j).symm, fun a ha => by rw [e70, c_up_ne ha]; exact a1 a ha, fun q hq => by rw [e70, c_up_at (by omega)]; exact a2 q hq, fun t ht => ?_⟩
                  rw [e70]
                  by_cases et : t = j
                  · rw [et, c_up_self]
                  · rw [c_up_at (by omega)]; exact a3 t (by omega)
            · have g7 : bv P p / 16 % 8 = 6 := (tyI 6 (by decide)).mp g6
              rcases hty with ⟨-, i, rfl, hi, ho⟩ | ⟨w, -⟩
              · obtain ⟨x, hx⟩ := get_some hi
                have eT := rdT_d6 hpe g7 hs ho ew hx
                have vx := hV x (List.mem_of_getElem? hx)
                have sx : slC c50 (16 + i) x.2.1 x.2.2 := (R4 i x hx).2.keep (F50.1 _ (by decide) (by decide)) (F50.1 _ (by decide) (by decide)) (F50.1 _ (by decide) (by decide))
                rw [nI_clamp (show 16 + i < 2 ^ 31 by omega), sx.1]
                refine ⟨mk_a.1, vp_in_nI (by omega) (by decide), vp_in_nI (by omega) (by decide), ?_⟩
                rintro c74 e74
                have o74 : ∀ a, a ≠ 177 → c74 a = c50 a := fun a h1 => by rw [e74, c_up_ne h1]
                rw [← zw.2.2.1]
                refine m_carry (D := D) (ot := x.2.2) (by omega) (by omega) (by omega) (by rw [o74 176 (by decide)]; exact h50.2.1) (by omega) zw.2.2.2 (fun t ht => by rw [o74 192 (by decide)]; exact d50 t ht) (by rw [o74 178 (by decide)]; exact sx.2.1) vx.2.2.1 (fun t ht => by rw [o74 179 (by decide)]; exact sx.2.2 t ht) (fun c75 h75 f75 => ?_)
                have fm := F50.fm e4
                have FM : Fm k c c75 := by
                  refine ⟨fun a h1 h2 h3 h4 h5 h6 => by rw [f75.1 a h1 h3 h4, o74 a h2]; exact fm.1 a h1 h2 h3 h4 h5 h6, fun f h1 h2 => by rw [f75.2.1 f h2, o74 176 (by decide)]; exact fm.2.1 f h1 h2, fun i hi => by rw [f75.1 177 (by decide) (by decide) (by decide), e74, c_up_at hi]; exact fm.2.2.1 i hi, fun i hi => by rw [f75.2.2.1 i hi, o74 178 (by decide)]; exact fm.2.2.2.1 i hi, fun q hq => by rw [f75.2.2.2 q hq, o74 179 (by decide)]; exact fm.2.2.2.2.1 q hq, fun i hi => by rw [f75.1 191 (by decide) (by decide) (by decide), o74 191 (by decide)]; exact fm.2.2.2.2.2 i hi⟩
                rcases h75 with ⟨L, el, w75, s75⟩ | ⟨el, w75⟩
                · rw [el] at eT
                  refine hk c75 (Or.inl ⟨_, L, q3, eT, ⟨by rw [f75.2.1 20 (by decide), o74 176 (by decide)]; exact h50.1, w75, h50.2.2⟩, by rw [f75.1 191 (by decide) (by decide) (by decide), o74 191 (by decide), F50.1 191 (by decide) (by decide)]; exact s4, ⟨by rw [f75.1 177 (by decide) (by decide) (by decide), e74, c_up_self], s75.1, s75.2⟩⟩) FM
                · rw [el] at eT
                  exact hk c75 (Or.inr ⟨_, eT, ⟨w75, Or.inr (Or.inr (Or.inr (Or.inr (Or.inr rfl))))⟩⟩) FM
              · exact absurd g7 w
          · have eT : rdT P e R p = .inl w := by
              rcases hty with ⟨g7, i, -, -, ho⟩ | ⟨g7, h3, rfl⟩
              · exact rdT_w6 hpe g7 hs ho ew
              · exact rdT_ww hpe g7 h3 hs ew
            exact ⟨fun g => absurd g h50.w, fun _ => hk c50 (Or.inr ⟨w, eT, h50⟩) (F50.fm e4)⟩
      · have g7 : ¬ vv / 16 % 8 = 6 := fun w => g ((tyI 6 (by decide)).mpr w)
        rcases hr2 with ⟨w, rfl, hw⟩ | ⟨n, q, rfl, hn, hv17, hs, hpe, hvb, hty⟩
        · exact ⟨f21, Or.inl ⟨w, h21, hw⟩⟩
        · exact ⟨f21, Or.inr ⟨n, q, q, h21, hn, hv17, hs, hpe, hvb, Or.inr ⟨g7, hty.resolve_left g7, rfl⟩⟩⟩
      · have g7 : vv / 16 % 8 = 6 := (tyI 6 (by decide)).mp g
        refine m_next3 (M4.fd f21) h21 (fun v77 c76 h76 f76 => ?_)
        have F76 := f21.tr f76.fd
        have J48e : ∀ (y : Int32) (c' : cM), Fdw c4 c' → (∃ w, Hd c' e (.inl w) ∧ rdT P e R p = .inl w) → Fdw c4 c' ∧ ((∃ w, Hd c' e (.inl w) ∧ rdT P e R p = .inl w) ∨ (∃ n q q', Hd c' e (.inr q') ∧ n ≤ 120 ∧ v17 = nI n ∧ szN P e (bv P p) (p + 1) = .inr (n, q) ∧ p < e ∧ vv = bv P p ∧ ((vv / 16 % 8 = 6 ∧ ∃ i, y = nI (16 + i) ∧ i < R.length ∧ oth P e R p q = .inr (i, q')) ∨ (¬ vv / 16 % 8 = 6 ∧ (1 ≤ vv / 16 % 8 ∧ vv / 16 % 8 ≤ 3) ∧ q' = q)))) := fun y c' q1 q2 => ⟨q1, Or.inl q2⟩
        refine ⟨fun s c82 => Fdw c4 c82 ∧ ((∃ w, Hd c82 e (.inl w) ∧ rdT P e R p = .inl w) ∨ (∃ n q d q', Hd c82 e (.inr q') ∧ n ≤ 120 ∧ v17 = nI n ∧ szN P e (bv P p) (p + 1) = .inr (n, q) ∧ p < e ∧ vv = bv P p ∧ s = nI d ∧ d < 2 ^ 30 ∧ othD P e q = .inr (d, q'))), ?_, fun g8 => ?_, fun g8 => ?_⟩
        · rintro s c82 ⟨f82, (⟨w, h82, hw⟩ | ⟨n, q, d, q', h82, hn, hv17, hs, hpe, hvb, rfl, hd, hod⟩)⟩
          · refine ⟨fun m y89 y90 => ∃ i, m + i = k ∧ y90 = nI i, ⟨k, 0, rfl, rfl⟩, ?_⟩
            rintro m y89 y90 ⟨i, hm, rfl⟩
            refine ⟨fun _ => ⟨fun _ => J48e y89 c82 f82 ⟨w, h82, hw⟩, fun q => absurd q h82.w⟩, fun g9 => ?_⟩
            have g10 : i < k := by
              rcases Nat.lt_or_ge i k with w | w
              · exact w
              · exact absurd (nI_le w (by omega)) g9
            exact ⟨vp_in_nI (by omega) (by decide), fun _ => True, fun s _ => ⟨m - 1, by omega, i + 1, by omega, (nI_succ i).symm⟩, fun _ => True.intro, fun _ => True.intro⟩
          · have st : ∀ i, c82 191 i = c4 191 i := fun i => by rw [f82.1 191 (by decide) (by decide)]
            rw [st k, s4]
            refine ⟨fun m y89 y90 => ∃ i, m + i = k ∧ y90 = nI i ∧ ((y89 = -1 ∧ ∀ (j : Nat) (z : Rd), j < i → R[j]? = some z → ¬ z.1 + d = p) ∨ (∃ j z, j < i ∧ y89 = nI (16 + j) ∧ R[j]? = some z ∧ z.1 + d = p)), ⟨k, 0, rfl, rfl, Or.inl ⟨rfl, fun j z hj => absurd hj (Nat.not_lt_zero _)⟩⟩, ?_⟩
            rintro m y89 y90 ⟨i, hm, rfl, hst⟩
            refine ⟨fun g9 => ⟨fun q => absurd h82.2.1 q, fun _ => ⟨fun g10 => ?_, fun g10 => ?_⟩⟩, fun g9 => ?_⟩
            · have g11 : k ≤ i := (nI_leI (by omega) (by omega)).mp g9
              rcases hst with ⟨rfl, -⟩ | ⟨j, z, hj, rfl, hz, hzd⟩
              · exact absurd g10 (by decide)
              · refine ⟨f82, Or.inr ⟨n, q, q', h82, hn, hv17, hs, hpe, hvb, Or.inl ⟨g7, j, rfl, by omega, ?_⟩⟩⟩
                unfold oth
                rw [hod, rsb_r, fsI_s hz hzd (fun j' y' hj' hy' => by have := hI j' j y' z hj' hy' hz; omega)]
                rfl
            · have g11 : k ≤ i := (nI_leI (by omega) (by omega)).mp g9
              rcases hst with ⟨rfl, hall⟩ | ⟨j, z, hj, rfl, hz, hzd⟩
              · have eo : oth P e R p q = .inl (-8) := by
                  unfold oth
                  rw [hod, rsb_r, fsI_n (fun j z hz => hall j z (by have := (List.getElem?_eq_some_iff.mp hz).1; omega) hz)]
                  rfl
                rintro c94 e94
                refine J48e _ c94 (f82.tr ⟨fun a h1 _ => by rw [e94, c_up_ne h1], fun f h1 h2 => by rw [e94, c_up_at h2]⟩) ⟨-8, ⟨by rw [e94, c_up_self], Or.inr (Or.inr (Or.inr (Or.inl rfl)))⟩, ?_⟩
                subst hvb
                exact rdT_ot hpe g7 hs eo
              · exact absurd (nI_pos' (by omega)) g10
            · have g10 : i < k := by
                rcases Nat.lt_or_ge i k with w | w
                · exact w
                · exact absurd (nI_le w (by omega)) g9
              obtain ⟨z, hz⟩ := get_some (l := R) (j := i) (by omega)
              have vz := (hV z (List.mem_of_getElem? hz)).2.2.2
              rw [nI_clamp (show i < 2 ^ 31 by omega), st i, (R4 i z hz).1, show (16 : Int32) + nI i = nI (16 + i) from nI_add 16 i]
              have de := dst_e (a := z.1) (b := p) (d := d) (by omega) (by omega) hd
              refine ⟨vp_in_nI (by omega) (by decide), fun s => (s = -1 ∧ ∀ (j : Nat) (z : Rd), j < i + 1 → R[j]? = some z → ¬ z.1 + d = p) ∨ (∃ j z, j < i + 1 ∧ s = nI (16 + j) ∧ R[j]? = some z ∧ z.1 + d = p), fun s q => ⟨m - 1, by omega, i + 1, by omega, (nI_succ i).symm, q⟩, fun q => ?_, fun q => Or.inr ⟨i, z, by omega, rfl, hz, de.mp q⟩⟩
              rcases hst with ⟨w1, w2⟩ | ⟨j, z', hj, w1, w2, w3⟩
              · refine Or.inl ⟨w1, fun j z' hj hz' => ?_⟩
                by_cases ej : j = i
                · subst ej; rw [hz] at hz'; cases hz'; exact fun w => q (de.mpr w)
                · exact w2 j z' (by omega) hz'
              · exact Or.inr ⟨j, z', by omega, w1, w2, w3⟩
        · rcases h76 with ⟨w, rfl, rfl, rfl⟩ | ⟨q, rfl, hq, h76, rfl⟩ | ⟨q, rfl, hq, h76, rfl⟩
          · exact absurd g8 (by decide)
          · have hb := (bv_e E3 (show q < P.length by omega)).2
            have g9 : 128 ≤ bv P q := (nI_leI (a := 128) (by decide) (by omega)).mp g8
            refine m_next (M4.fd F76) h76 (fun v101 c100 h100 f100 => ⟨F76.tr f100.fd, ?_⟩)
            rcases hr2 with ⟨w, w1, -⟩ | ⟨n, q2, w1, hn, hv17, hs, hpe, hvb, hty⟩
            · cases w1
            · cases w1
              rcases h100 with ⟨q1, q2', rfl⟩ | ⟨q1, q2', rfl⟩
              · have hb2 := (bv_e E3 (show q + 1 < P.length by omega)).2
                refine Or.inr ⟨n, q, 128 * (bv P q - 127) + bv P (q + 1), q + 2, q2', hn, hv17, hs, hpe, hvb, ?_, by omega, ?_⟩
                · rw [show nI (bv P q) - 127 = nI (bv P q - 127) from pk_sub (b := 127) (by omega), show (128 : Int32) * nI (bv P q - 127) = nI (128 * (bv P q - 127)) from pk_mul 128 _, nI_add]
                · unfold othD; rw [if_pos hq, if_neg (by omega), if_pos q1]
              · refine Or.inl ⟨_, q2', ?_⟩
                subst hvb
                exact rdT_ot hpe g7 hs (by unfold oth othD; rw [if_pos hq, if_neg (by omega), if_neg q1]; rfl)
          · exact absurd g8 (by decide)
        · rcases h76 with ⟨w, rfl, rfl, rfl⟩ | ⟨q, rfl, hq, h76, rfl⟩ | ⟨q, rfl, hq, h76, rfl⟩
          · rcases hr2 with ⟨w', w1, hw⟩ | ⟨n, q2, w1, -⟩
            · cases w1
              exact ⟨F76, Or.inl ⟨w, h21, hw⟩⟩
            · cases w1
          · have hb := (bv_e E3 (show q < P.length by omega)).2
            have g9 : ¬ 128 ≤ bv P q := fun w => g8 (nI_le (a := 128) w (by omega))
            rcases hr2 with ⟨w, w1, -⟩ | ⟨n, q2, w1, hn, hv17, hs, hpe, hvb, hty⟩
            · cases w1
            · cases w1
              exact ⟨F76, Or.inr ⟨n, q, bv P q, q + 1, h76, hn, hv17, hs, hpe, hvb, rfl, by omega, by unfold othD; rw [if_pos hq, if_pos (by omega)]⟩⟩
          · rcases hr2 with ⟨w, w1, -⟩ | ⟨n, q2, w1, hn, hv17, hs, hpe, hvb, hty⟩
            · cases w1
            · cases w1
              refine ⟨F76, Or.inl ⟨_, h76, ?_⟩⟩
              subst hvb
              exact rdT_ot hpe g7 hs (by unfold oth othD; rw [if_neg hq]; rfl)
    · rcases h16 with ⟨w, rfl, rfl⟩ | ⟨p', N, q, rfl, hN, hv17, hrs, h16⟩ | ⟨p', rfl, hrs, h16⟩
      · rcases hr with ⟨w', w1, hw⟩ | ⟨w1, -⟩
        · exact ⟨F16, _, h13, Or.inl ⟨w', w1, hw⟩⟩
        · cases w1
      · exact absurd h16.2.1 g
      · rcases hr with ⟨w', w1, hw⟩ | ⟨w1, hpe, hvb, hty⟩
        · cases w1
        · cases w1
          refine ⟨F16, _, h16, Or.inl ⟨_, rfl, ?_⟩⟩
          subst hvb
          exact rdT_sz hpe hty (by unfold szN; rw [hrs]; rfl)
    · rcases h16 with ⟨w, rfl, rfl⟩ | ⟨p', N, q, rfl, hN, rfl, hrs, h16⟩ | ⟨p', rfl, hrs, h16⟩
      · exact absurd g h13.w
      · rcases hr with ⟨w', w1, hw⟩ | ⟨w1, hpe, hvb, hty⟩
        · cases w1
        · cases w1
          subst hvb
          refine ⟨fun g2 => ?_, fun g2 => ?_⟩
          · have g3 : N ≤ 120 := (nI_leI (b := 120) (by omega) (by decide)).mp g2
            refine ⟨F16, _, h16, Or.inr ⟨N, q, rfl, g3, rfl, ?_, hpe, rfl, hty⟩⟩
            unfold szN
            rw [hrs, Nat.min_eq_left (by omega)]
            exact if_pos g3
          · have g3 : ¬ N ≤ 120 := fun w => g2 (nI_le (b := 120) w (by decide))
            rintro c103 e103
            refine ⟨F16.tr ⟨fun a h1 _ => by rw [e103, c_up_ne h1], fun f h1 h2 => by rw [e103, c_up_at h2]⟩, .inl (-7), ⟨by rw [e103, c_up_self], Or.inr (Or.inr (Or.inl rfl))⟩, Or.inl ⟨_, rfl, ?_⟩⟩
            refine rdT_sz hpe hty ?_
            unfold szN
            rw [hrs]
            exact if_neg (by show ¬ min N 121 ≤ 120; omega)
      · exact absurd g h16.w
  · rcases h5' with ⟨q1, q2, q3⟩ | ⟨q1, q2⟩
    · refine ⟨fun g => absurd q2.2.1 g, fun _ => ?_⟩
      have okk : (vv / 16 % 8 = 6 ∨ (1 ≤ vv / 16 % 8 ∧ vv / 16 % 8 ≤ 3)) → Fdw c4 c5 ∧ ∃ r, Hd c5 e r ∧ ((∃ w, r = .inl w ∧ rdT P e R p = .inl w) ∨ (r = .inr (p + 1) ∧ p < e ∧ vv = bv P p ∧ (vv / 16 % 8 = 6 ∨ (1 ≤ vv / 16 % 8 ∧ vv / 16 % 8 ≤ 3)))) := fun w => ⟨f5.fd, _, q2, Or.inr ⟨rfl, q1, q3, w⟩⟩
      refine ⟨fun g => okk (Or.inr (by have := (tyI 1 (by decide)).mp g; omega)), fun g1 => ⟨fun g => okk (Or.inr (by have := (tyI 2 (by decide)).mp g; omega)), fun g2 => ⟨fun g => okk (Or.inr (by have := (tyI 3 (by decide)).mp g; omega)), fun g3 => ⟨fun g => okk (Or.inl ((tyI 6 (by decide)).mp g)), fun g6 => ?_⟩⟩⟩⟩
      rintro c108 e108
      refine ⟨f5.fd.tr ⟨fun a h1 _ => by rw [e108, c_up_ne h1], fun f h1 h2 => by rw [e108, c_up_at h2]⟩, .inl (-6), ⟨by rw [e108, c_up_self], Or.inr (Or.inl rfl)⟩, Or.inl ⟨_, rfl, ?_⟩⟩
      have n1 : ¬ vv / 16 % 8 = 1 := fun w => g1 ((tyI 1 (by decide)).mpr w)
      have n2 : ¬ vv / 16 % 8 = 2 := fun w => g2 ((tyI 2 (by decide)).mpr w)
      have n3 : ¬ vv / 16 % 8 = 3 := fun w => g3 ((tyI 3 (by decide)).mpr w)
      have n6 : ¬ vv / 16 % 8 = 6 := fun w => g6 ((tyI 6 (by decide)).mpr w)
      subst q3
      exact rdT_6 q1 n6 (by omega)
    · exact ⟨fun _ => ⟨f5.fd, _, q2, Or.inl ⟨_, rfl, rdT_0 q1⟩⟩, fun g => absurd g q2.w⟩
