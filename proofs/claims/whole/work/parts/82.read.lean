abbrev Rd : Type := Nat × Int32 × List Int32
def othD (P : List Int32) (e p : Nat) : Int32 ⊕ (Nat × Nat) := if p < e then (if bv P p < 128 then .inr (bv P p, p + 1) else if p + 1 < e then .inr (128 * (bv P p - 127) + bv P (p + 1), p + 2) else .inl (-5)) else .inl (-5)
def fsI (R : List Rd) (d s : Nat) : Option Nat := R.findIdx? (fun x => decide (x.1 + d = s))
def oth (P : List Int32) (e : Nat) (R : List Rd) (s p : Nat) : Int32 ⊕ (Nat × Nat) := rsb (othD P e p) (fun x => (fsI R x.1 s).elim (.inl (-8)) (fun i => .inr (i, x.2)))
theorem fsI_s {R : List Rd} {d s i : Nat} {x : Rd} (hx : R[i]? = some x) (h : x.1 + d = s) (hb : ∀ (j : Nat) (y : Rd), j < i → R[j]? = some y → ¬ y.1 + d = s) : fsI R d s = some i := by
  unfold fsI
  rw [List.findIdx?_eq_some_iff_getElem]
  have hi := (List.getElem?_eq_some_iff.mp hx).1
  refine ⟨hi, ?_, fun j hj => ?_⟩
  · have e1 : R[i] = x := (List.getElem?_eq_some_iff.mp hx).2
    rw [e1]; exact decide_eq_true h
  · have := hb j (R[j]'(by omega)) hj (List.getElem?_eq_getElem (by omega))
    rw [decide_eq_false this]; exact Bool.false_ne_true
theorem fsI_n {R : List Rd} {d s : Nat} (hb : ∀ (j : Nat) (y : Rd), R[j]? = some y → ¬ y.1 + d = s) : fsI R d s = none := by
  unfold fsI
  rw [List.findIdx?_eq_none_iff]
  intro y hy
  obtain ⟨j, hj⟩ := List.mem_iff_getElem?.mp hy
  exact decide_eq_false (hb j y hj)
theorem fsI_lt {R : List Rd} {d s i : Nat} (h : fsI R d s = some i) : ∃ x, R[i]? = some x ∧ x.1 + d = s := by
  unfold fsI at h
  rw [List.findIdx?_eq_some_iff_getElem] at h
  obtain ⟨hi, h1, -⟩ := h
  exact ⟨R[i], List.getElem?_eq_getElem hi, of_decide_eq_true h1⟩
theorem othD_q {P : List Int32} {e p : Nat} {x : Nat × Nat} (h : othD P e p = .inr x) : p ≤ x.2 ∧ x.2 ≤ e := by
  unfold othD at h
  by_cases g1 : p < e
  · rw [if_pos g1] at h
    by_cases g2 : bv P p < 128
    · rw [if_pos g2] at h; cases h; exact ⟨by show p ≤ p + 1; omega, by show p + 1 ≤ e; omega⟩
    · rw [if_neg g2] at h
      by_cases g3 : p + 1 < e
      · rw [if_pos g3] at h; cases h; exact ⟨by show p ≤ p + 2; omega, by show p + 2 ≤ e; omega⟩
      · rw [if_neg g3] at h; cases h
  · rw [if_neg g1] at h; cases h
theorem othD_g {P : List Int32} {e p : Nat} {w : Int32} (h : othD P e p = .inl w) : w = -5 := by
  unfold othD at h
  by_cases g1 : p < e
  · rw [if_pos g1] at h
    by_cases g2 : bv P p < 128
    · rw [if_pos g2] at h; cases h
    · rw [if_neg g2] at h
      by_cases g3 : p + 1 < e
      · rw [if_pos g3] at h; cases h
      · rw [if_neg g3] at h; cases h; rfl
  · rw [if_neg g1] at h; cases h; rfl
theorem oth_q {P : List Int32} {e s p : Nat} {R : List Rd} {x : Nat × Nat} (h : oth P e R s p = .inr x) : p ≤ x.2 ∧ x.2 ≤ e ∧ x.1 < R.length := by
  unfold oth at h
  cases e1 : othD P e p with
  | inl w => rw [e1] at h; cases h
  | inr y =>
    rw [e1, rsb_r] at h
    cases e2 : fsI R y.1 s with
    | none => rw [e2] at h; cases h
    | some i =>
      rw [e2] at h
      cases h
      obtain ⟨z, hz, -⟩ := fsI_lt e2
      exact ⟨(othD_q e1).1, (othD_q e1).2, (List.getElem?_eq_some_iff.mp hz).1⟩
theorem oth_g {P : List Int32} {e s p : Nat} {R : List Rd} {w : Int32} (h : oth P e R s p = .inl w) : ng w := by
  unfold oth at h
  cases e1 : othD P e p with
  | inl w => rw [e1] at h; cases h; exact Or.inl (othD_g e1)
  | inr y =>
    rw [e1, rsb_r] at h
    cases e2 : fsI R y.1 s with
    | none => rw [e2] at h; cases h; exact Or.inr (Or.inr (Or.inr (Or.inl rfl)))
    | some i => rw [e2] at h; cases h
theorem dst_e {a b d : Nat} (ha : a < 2 ^ 30) (hb : b < 2 ^ 30) (hd : d < 2 ^ 30) : nI a = nI b - nI d ↔ a + d = b := by
  constructor
  · intro h
    have h1 : (nI a).toInt = (nI b - nI d).toInt := by rw [h]
    rw [nI_toInt (by omega), pk_sub_toInt hb hd] at h1
    omega
  · intro h
    rw [pk_sub (by omega), show b - d = a by omega]
theorem s_other {c : cM} {ρ : Nat → List Int32} {γ : cM} {P : List Int32} {e p s : Nat} {R : List Rd} {K : Int32 → cM → Prop} (h : Rep c ρ (c_up γ 105 5 (nI p))) (hE : En ρ γ P e) (hp : p ≤ e) (hk : γ 105 1 = nI R.length) (hR : R.length < 16) (hS : ∀ (i : Nat) (x : Rd), R[i]? = some x → γ 171 i = nI x.1 ∧ x.1 < 2 ^ 30) (hs : γ 171 R.length = nI s) (hs2 : s < 2 ^ 30) (h1 : ∀ i q, oth P e R s p = .inr (i, q) → ∀ c', Rep c' ρ (c_up γ 105 5 (nI q)) → K (nI i) c') (h0 : ∀ w, oth P e R s p = .inl w → ∀ c' q, Rep c' ρ (c_up γ 105 5 (nI q)) → K w c') : f_Rea_readOther 105 91 c K := by
  obtain ⟨k0, k2, k3, k4, k106, l106, k171, l171, k172, k174, l173, l175⟩ := rd_k
  obtain ⟨E1, E2, E3, E4, E5⟩ := id hE
  unfold f_Rea_readOther
  rw [k2, l171]
  refine ⟨ps_k3.2.2.1, s_next h hE hp (fun g1 c2 h2 => ⟨fun g2 => ?_, fun g2 => absurd (nI_pos' (by have := (bv_e E2 (show p < P.length by omega)).2; omega)) g2⟩) (fun g1 => ⟨fun g2 => absurd g2 (by decide), fun _ => h0 (-5) (by unfold oth othD; rw [if_neg g1]; rfl) c p h⟩)⟩
  have hb := (bv_e E2 (show p < P.length by omega)).2
  refine ⟨fun y c' => ∃ d q, y = nI d ∧ d < 2 ^ 30 ∧ othD P e p = .inr (d, q) ∧ Rep c' ρ (c_up γ 105 5 (nI q)), ?_, fun g3 => ?_, fun g3 => ?_⟩
  · rintro y c10 ⟨d, q, rfl, hd, hod, h10⟩
    have c10a : c10 105 1 = nI R.length := by rw [h10.2 105 n105, c_up_at (by decide)]; exact hk
    have c10b : ∀ i, c10 171 i = γ 171 i := fun i => by rw [h10.2 171 n171, c_up_ne (by decide)]
    rw [c10a, nI_clamp (show R.length < 2 ^ 31 by omega), c10b, hs]
    have eo : oth P e R s p = (fsI R d s).elim (.inl (-8)) (fun i => .inr (i, q)) := by unfold oth; rw [hod]; rfl
    refine ⟨fun m y => ∃ i, m + i = R.length ∧ y = nI i ∧ ∀ (j : Nat) (z : Rd), j < i → R[j]? = some z → ¬ z.1 + d = s, ⟨R.length, 0, rfl, rfl, fun j z hj => absurd hj (Nat.not_lt_zero _)⟩, ?_⟩
    rintro m y ⟨i, hm, rfl, hall⟩
    refine ⟨fun g4 => ?_, fun g4 => ?_⟩
    · have g5 : R.length ≤ i := (nI_leI (by omega) (by omega)).mp g4
      rw [fsI_n (fun j z hz => hall j z (by have := (List.getElem?_eq_some_iff.mp hz).1; omega) hz)] at eo
      exact h0 _ eo c10 q h10
    · have g5 : i < R.length := by
        rcases Nat.lt_or_ge i R.length with w | w
        · exact w
        · exact absurd (nI_le w (by omega)) g4
      obtain ⟨z, hz⟩ := get_some g5
      obtain ⟨z1, z2⟩ := hS i z hz
      rw [nI_clamp (show i < 2 ^ 31 by omega), c10b, z1]
      refine ⟨k171, vp_in_nI (by omega) (by decide), vp_in_nI (by omega) (by decide), fun g6 => ⟨m - 1, by omega, i + 1, by omega, (nI_succ i).symm, fun j w hj hw => ?_⟩, fun g6 => ?_⟩
      · by_cases ej : j = i
        · subst ej
          rw [hz] at hw
          cases hw
          exact fun q => g6 ((dst_e z2 hs2 hd).mpr q)
        · exact hall j w (by omega) hw
      · rw [fsI_s hz ((dst_e z2 hs2 hd).mp g6) hall] at eo
        exact h1 i q eo c10 h10
  · have g4 : bv P p < 128 := (nI_ltI (b := 128) (by omega) (by decide)).mp g3
    exact ⟨bv P p, p + 1, rfl, by omega, by unfold othD; rw [if_pos g1, if_pos g4], h2⟩
  · have g4 : ¬ bv P p < 128 := fun q => g3 (nI_lt (b := 128) q (by decide))
    refine s_next h2 hE (by omega) (fun g5 c23 h23 => ?_) (fun g5 => ⟨fun g6 => absurd g6 (by decide), fun _ => h0 (-5) (by unfold oth othD; rw [if_pos g1, if_neg g4, if_neg g5]; rfl) c2 (p + 1) h2⟩)
    have hb2 := (bv_e E2 (show p + 1 < P.length by omega)).2
    refine ⟨fun _ => ⟨128 * (bv P p - 127) + bv P (p + 1), p + 2, ?_, by omega, by unfold othD; rw [if_pos g1, if_neg g4, if_pos g5], h23⟩, fun g6 => absurd (nI_pos' (by omega)) g6⟩
    rw [show nI (bv P p) - 127 = nI (bv P p - 127) from pk_sub (b := 127) (by omega), show (128 : Int32) * nI (bv P p - 127) = nI (128 * (bv P p - 127)) from pk_mul 128 _, nI_add]
def wrR (P : List Int32) (e n p : Nat) : Int32 ⊕ (List Int32 × Nat) := rsb (rdE P e (hdW n) p) (fun q => if q + n ≤ e then rsb (rdE P e (tlW ((P.drop q).take n)) (q + n)) (fun q2 => .inr ((P.drop q).take n, q2)) else .inl (-5))
theorem wrR_q {P : List Int32} {e n p : Nat} {x : List Int32 × Nat} (hp : p ≤ e) (he : e ≤ P.length) (hb : byt P) (h : wrR P e n p = .inr x) : p ≤ x.2 ∧ x.2 ≤ e ∧ x.1.length = n ∧ byt x.1 := by
  unfold wrR at h
  cases e1 : rdE P e (hdW n) p with
  | inl w => rw [e1] at h; cases h
  | inr q =>
    rw [e1, rsb_r] at h
    have q1 := rdE_q _ _ _ hp e1
    by_cases g : q + n ≤ e
    · rw [if_pos g] at h
      cases e2 : rdE P e (tlW ((P.drop q).take n)) (q + n) with
      | inl w => rw [e2] at h; cases h
      | inr q2 =>
        rw [e2] at h
        cases h
        have q3 := rdE_q _ _ _ g e2
        refine ⟨by show p ≤ q2; omega, q3.2, ?_, ?_⟩
        · show ((P.drop q).take n).length = n
          rw [List.length_take, List.length_drop]; omega
        · intro b hb2
          exact hb b (List.mem_of_mem_drop (List.mem_of_mem_take hb2))
    · rw [if_neg g] at h; cases h
theorem wrR_g {P : List Int32} {e n p : Nat} {w : Int32} (h : wrR P e n p = .inl w) : ng w := by
  unfold wrR at h
  cases e1 : rdE P e (hdW n) p with
  | inl v => rw [e1] at h; cases h; exact rdE_g _ _ e1
  | inr q =>
    rw [e1, rsb_r] at h
    by_cases g : q + n ≤ e
    · rw [if_pos g] at h
      cases e2 : rdE P e (tlW ((P.drop q).take n)) (q + n) with
      | inl v => rw [e2] at h; cases h; exact rdE_g _ _ e2
      | inr q2 => rw [e2] at h; cases h
    · rw [if_neg g] at h; cases h; exact Or.inl rfl
def Fx (ρ ρ' : Nat → List Int32) : Prop := ∀ r, r ≠ 172 → r ≠ 174 → ρ' r = ρ r
theorem dt_s {P : List Int32} {q j : Nat} (h : q + j < P.length) : (P.drop q).take j ++ [P.getD (q + j) 0] = (P.drop q).take (j + 1) := by
  rw [take_snoc (L := P.drop q) (by rw [List.length_drop]; omega)]
  congr 2
  rw [List.getD_eq_getElem?_getD, List.getD_eq_getElem?_getD, List.getElem?_drop]
theorem s_readWrapped {c : cM} {ρ : Nat → List Int32} {γ : cM} {P : List Int32} {e p n : Nat} {K : Int32 → cM → Prop} (h : Rep c ρ (c_up γ 105 5 (nI p))) (hE : En ρ γ P e) (hp : p ≤ e) (hn : n ≤ 120) (h1 : ∀ D q, wrR P e n p = .inr (D, q) → ∀ c' ρ', Rep c' ρ' (c_up γ 105 5 (nI q)) → Fx ρ ρ' → ρ' 172 = D → K 0 c') (h0 : ∀ w, wrR P e n p = .inl w → ∀ c' ρ' q, Rep c' ρ' (c_up γ 105 5 (nI q)) → Fx ρ ρ' → K w c') : f_Rea_readWrapped 105 91 (nI n) c K := by
  obtain ⟨k0, k2, k3, k4, k106, l106, k171, l171, k172, k174, l173, l175⟩ := rd_k
  obtain ⟨E1, E2, E3, E4, E5⟩ := id hE
  have en : ∀ ρ', Fx ρ ρ' → En ρ' γ P e := fun ρ' f => ⟨(f 91 (by decide) (by decide)).trans E1, E2, E3, E4, E5⟩
  unfold f_Rea_readWrapped
  rw [k3, k4]
  refine ⟨ps_k3.2.2.1, k174, s_clear h k174 (fun c3 h3 => s_putHead h3 k174 (by omega) (by rw [fu_self, l175]; decide) (fun c4 h4 => ?_))⟩
  rw [fu_self, fu_fu, List.nil_append] at h4
  have F4 : Fx ρ (fu ρ 174 (hdW n)) := fun r _ r2 => fu_ne r2
  refine s_due h4 (en _ F4) hp fu_self ?_ ?_
  · intro q eq c5 h5
    obtain ⟨q1, q2⟩ := rdE_q _ _ _ hp eq
    rw [hdW_len] at q1
    have ew : wrR P e n p = if q + n ≤ e then rsb (rdE P e (tlW ((P.drop q).take n)) (q + n)) (fun q2 => .inr ((P.drop q).take n, q2)) else .inl (-5) := by unfold wrR; rw [eq]; rfl
    refine ⟨fun _ => ⟨k172, s_clear h5 k172 (fun c9 h9 => ?_)⟩, fun g => absurd rfl g⟩
    refine ⟨fun m y c' => ∃ j ρ', m + j = n ∧ y = nI j ∧ q + j ≤ e ∧ Rep c' ρ' (c_up γ 105 5 (nI (q + j))) ∧ Fx ρ ρ' ∧ ρ' 172 = (P.drop q).take j, ⟨n, 0, _, rfl, rfl, by omega, h9, fun r r1 r2 => by rw [fu_ne r1]; exact F4 r r1 r2, by rw [fu_self, List.take_zero]⟩, ?_⟩
    rintro m y c15 ⟨j, ρ1, hm, rfl, hj, h15, f15, d15⟩
    refine ⟨fun g => ?_, fun g => ?_⟩
    · have g1 : n ≤ j := (nI_leI (by omega) (by omega)).mp g
      have : j = n := by omega
      subst this
      refine s_clear h15 k174 (fun c17 h17 => s_putTail h17 k172 k174 (by rw [fu_self, l175]; decide) (fun c18 h18 => ?_))
      rw [fu_self, fu_fu, List.nil_append, fu_ne (by decide), d15] at h18
      have F18 : Fx ρ (fu ρ1 174 (tlW ((P.drop q).take j))) := fun r r1 r2 => by rw [fu_ne r2]; exact f15 r r1 r2
      rw [if_pos hj] at ew
      refine s_due h18 (en _ F18) hj fu_self (fun q9 e9 c19 h19 => ?_) (fun v e9 c19 q9 h19 => ?_)
      · rw [e9] at ew
        exact h1 _ q9 ew c19 _ h19 F18 (by rw [fu_ne (by decide)]; exact d15)
      · rw [e9] at ew
        exact h0 v ew c19 _ q9 h19 F18
    · have g1 : j < n := by
        rcases Nat.lt_or_ge j n with w | w
        · exact w
        · exact absurd (nI_le w (by omega)) g
      refine s_next h15 (en _ f15) hj (fun g2 c21 h21 => ?_) (fun g2 => ⟨fun g3 => absurd g3 (by decide), fun _ => ?_⟩)
      · have hb := bv_e E2 (show q + j < P.length by omega)
        refine ⟨fun _ => ?_, fun g3 => absurd (nI_pos' (by omega)) g3⟩
        refine s_put h21 k172 (by rw [d15, l173, List.length_take]; omega) (fun c24 h24 => ⟨m - 1, by omega, j + 1, _, by omega, (nI_succ j).symm, by omega, h24, fun r r1 r2 => by rw [fu_ne r1]; exact f15 r r1 r2, ?_⟩)
        rw [fu_self, d15, ← hb.1]
        exact dt_s (by omega)
      · rw [if_neg (by omega)] at ew
        exact h0 _ ew c15 ρ1 (q + j) h15 f15
  · intro v ev c5 q h5
    have gv := rdE_g _ _ ev
    refine ⟨fun g => absurd g (ng_n gv).1, fun _ => h0 v (by unfold wrR; rw [ev]; rfl) c5 _ q h5 F4⟩
