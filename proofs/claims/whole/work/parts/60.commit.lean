def kO (ths : List Th) (x : Int32) : Int32 := if x < 0 then -1 else (ths[x.toNatClampNeg]?).elim (-1) (fun y => y.1)
def nO (ths : List Th) (x : Int32) : Nat → Int32 := (ths[x.toNatClampNeg]?).elim (fun _ => 0) (fun y => y.2.2)
theorem kO_at {ths : List Th} {j : Nat} {y : Th} (h : ths[j]? = some y) (hl : ths.length ≤ 16) : kO ths (nI j) = y.1 := by
  have hj := (List.getElem?_eq_some_iff.mp h).1
  unfold kO
  rw [if_neg (nI_pos (by omega)), nI_clamp (by omega), h]
  rfl
theorem nO_at {ths : List Th} {j : Nat} {y : Th} (h : ths[j]? = some y) (hl : ths.length ≤ 16) : nO ths (nI j) = y.2.2 := by
  have hj := (List.getElem?_eq_some_iff.mp h).1
  unfold nO
  rw [nI_clamp (by omega), h]
  rfl
theorem kO_out {ths : List Th} {x : Int32} (h : ∀ j, j < ths.length → x ≠ nI j) : kO ths x = -1 := by
  unfold kO
  by_cases g : x < 0
  · rw [if_pos g]
  · rw [if_neg g]
    obtain ⟨j, hj, rfl⟩ := nI_of g
    rw [nI_clamp hj, List.getElem?_eq_none_iff.mpr (Nat.not_lt.mp (fun q => h j q rfl))]
    rfl
theorem kO_in {ths : List Th} {x : Int32} (hl : ths.length ≤ 16) (h : ¬ kO ths x = -1) : ∃ j y, j < ths.length ∧ x = nI j ∧ ths[j]? = some y := by
  rcases Classical.em (∃ j, j < ths.length ∧ x = nI j) with ⟨j, h1, h2⟩ | g
  · obtain ⟨y, hy⟩ := get_some h1
    exact ⟨j, y, h1, h2, hy⟩
  · exact absurd (kO_out (fun j hj e => g ⟨j, hj, e⟩)) h
theorem s_kindO {c : cM} {ρ : Nat → List Int32} {γ : cM} {ths : List Th} {x : Int32} {K : Int32 → cM → Prop} (h : Rep c ρ γ) (hs : StR ρ γ ths) (hk : K (kO ths x) c) : f_Store_kindOf 19 x c K := by
  refine s_kindOf h hs.1 hs.2.1 (fun j hj e => ?_) (fun g => ?_)
  · obtain ⟨y, hy⟩ := get_some hj
    rw [(hs.2.2 j y hy).1]
    rw [e, kO_at hy hs.2.1] at hk
    exact hk
  · rw [kO_out g] at hk
    exact hk
theorem m_isKindO {c : cM} {σ : Sg} {x k : Int32} {K : Int32 → cM → Prop} (h : MR c σ) (hV : VS σ) (hk1 : ¬ k = -1) (hk : K (pI (kO σ.1 x = k)) c) : f_Mo_isKind 176 x k c K := by
  refine m_isKind h.1 hV.2.1 (fun j hj e g => ?_) (fun g => ?_)
  · obtain ⟨y, hy⟩ := get_some hj
    rw [e, kO_at hy hV.2.1, pI_t (by rw [← (h.2.1 j y hy).1]; exact g)] at hk
    exact hk
  · rw [pI_f (fun q => ?_)] at hk
    · exact hk
    · obtain ⟨j, y, h1, h2, h3⟩ := kO_in hV.2.1 (by rw [q]; exact hk1)
      rw [h2, kO_at h3 hV.2.1] at q
      exact g j h1 h2 (by rw [(h.2.1 j y h3).1]; exact q)
theorem ib_congr {f g : Nat → Int32} (h : sameN f g) : ib f 0 5 = ib g 0 5 := by
  show hb (f 0) 4 ++ (hb (f 1) 4 ++ (hb (f 2) 4 ++ (hb (f 3) 4 ++ (hb (f 4) 4 ++ [])))) = hb (g 0) 4 ++ (hb (g 1) 4 ++ (hb (g 2) 4 ++ (hb (g 3) 4 ++ (hb (g 4) 4 ++ []))))
  rw [h 0 (by decide), h 1 (by decide), h 2 (by decide), h 3 (by decide), h 4 (by decide)]
theorem byt_nil : byt [] := fun _ h => by cases h
theorem byt_cons {b : Int32} {L : List Int32} (hb : ∃ j, j < 256 ∧ b = nI j) (h : byt L) : byt (b :: L) := fun x hx => by
  rcases List.mem_cons.mp hx with q | q
  · rw [q]; exact hb
  · exact h x q
theorem byt_hb (x : Int32) : ∀ n, byt (hb x n)
  | 0 => byt_nil
  | n + 1 => byt_cons (and255 _) (byt_hb x n)
theorem byt_ib (f : Nat → Int32) : ∀ m k, byt (ib f k m)
  | 0, _ => byt_nil
  | m + 1, k => byt_app (byt_hb _ 4) (byt_ib f m (k + 1))
theorem byt_dcs (n : Nat) : ∀ k, byt (dcs n k)
  | 0 => byt_nil
  | k + 1 => by
    rw [dcs]
    refine byt_app ?_ (byt_dcs n k)
    split
    · exact byt_cons ⟨_, dig_lt n k, rfl⟩ byt_nil
    · exact byt_nil
theorem dcs_len10 (n : Nat) : ∀ k, (dcs n k).length ≤ k
  | 0 => Nat.le_refl _
  | k + 1 => by
    rw [dcs, List.length_append]
    have := dcs_len10 n k
    split
    · simp only [List.length_singleton]; omega
    · simp only [List.length_nil]; omega
theorem byt_tx : ∀ i, i < 10 → 3 ≤ i → ∀ j, j < (txO i).length → ((txO i).getD j 0).toNatClampNeg < 256 ∧ (txO i).getD j 0 = nI ((txO i).getD j 0).toNatClampNeg := by decide +kernel
theorem byt_txO {i : Nat} (h1 : 3 ≤ i) (h2 : i < 10) : byt (txO i) := by
  intro b hb
  obtain ⟨j, hj⟩ := List.getElem?_of_mem hb
  have hl := (List.getElem?_eq_some_iff.mp hj).1
  have h3 := byt_tx i h2 h1 j hl
  have e : (txO i).getD j 0 = b := by rw [List.getD_eq_getElem?_getD, hj]; rfl
  rw [e] at h3
  exact ⟨_, h3.1, h3.2⟩
theorem tx_l2 : (txO 6).length = 7 ∧ (txO 7).length = 6 ∧ (txO 8).length = 7 ∧ (txO 9).length = 3 := by decide +kernel
theorem kd_tx : ∀ i, i < 10 → 3 ≤ i → kd i = 200 := by decide +kernel
theorem ib_at {f : Nat → Int32} {k : Nat} (h : k < 20) : (ib f 0 5).getD k 0 = c_ushr (f (k / 4)) (nI (24 - 8 * (k % 4))) &&& 255 := by
  rcases k with _ | _ | _ | _ | _ | _ | _ | _ | _ | _ | _ | _ | _ | _ | _ | _ | _ | _ | _ | _ | k
  all_goals first | rfl | omega
theorem m_nameByte {c : cM} {i k : Nat} {K : Int32 → cM → Prop} (hi : i < 33) (hk2 : k < 20) (hk : K ((ib (nmA c i) 0 5).getD k 0) c) : f_Mo_nameByte 176 (nI i) (nI k) c K := by
  have e1 : nI k / 4 = nI (k / 4) := by rw [show (4 : Int32) = nI 4 from rfl, pk_div (by omega) (by decide) (by decide)]
  have e2 : c_rem (nI k) 4 = nI (k % 4) := by unfold c_rem; rw [show (4 : Int32) = nI 4 from rfl, pk_rem (by omega) (by decide) (by decide)]
  have e3 : (24 : Int32) - nI (8 * (k % 4)) = nI (24 - 8 * (k % 4)) := pk_sub (a := 24) (by omega)
  unfold f_Mo_nameByte
  rw [mk_k.2.2.2.2.1, mk_l.2.2.2.1, e1, e2, i8, e3, show (5 : Int32) = nI 5 from rfl, pk_mul, nI_add, nI_clamp (show 5 * i + k / 4 < 2 ^ 31 by omega)]
  refine ⟨mk_k.1, mk_a.2.2.2.1, vp_in_nI (by omega) (by decide), ?_⟩
  rw [ib_at hk2] at hk
  exact hk
theorem ib_len5 (f : Nat → Int32) : (ib f 0 5).length = 20 := ib_len f 5 0
theorem m_addName {c : cM} {i : Nat} {k : Int32} {L : List Int32} {K : cM → Prop} (hi : i < 33) (h : slC c 32 k L) (hl : L.length + 20 ≤ 120) (hk : ∀ c', slC c' 32 k (L ++ ib (nmA c i) 0 5) → Fa c c' → K c') : f_Mo_addName 176 (nI i) c K := by
  unfold f_Mo_addName
  refine ⟨fun m y c' => ∃ j, m = 20 - j ∧ j ≤ 20 ∧ y = nI j ∧ slC c' 32 k (L ++ (ib (nmA c i) 0 5).take j) ∧ Fa c c', ⟨20, 0, rfl, Nat.zero_le _, rfl, by rw [List.take_zero, List.append_nil]; exact h, Fa.rf c⟩, ?_⟩
  rintro m y c6 ⟨j, rfl, hj, rfl, S6, f6⟩
  refine ⟨fun g => hk c6 ?_ f6, fun g => ⟨mk_k.1, ?_⟩⟩
  · have ej : j = 20 := by
      have := (nI_leI (a := 20) (by omega) (by omega)).mp g
      omega
    subst ej
    rw [List.take_of_length_le (by rw [ib_len5]; exact Nat.le_refl _)] at S6
    exact S6
  · have hj20 : j < 20 := by
      rcases Nat.lt_or_ge j 20 with w | w
      · exact w
      · exact absurd (nI_le (a := 20) w (by omega)) g
    have en : nmA c6 i = nmA c i := by unfold nmA; rw [f6.1 180 (by decide) (by decide)]
    refine m_nameByte hi hj20 ?_
    rw [en]
    refine m_add S6 (by rw [List.length_append, List.length_take, ib_len5]; omega) (fun c11 S11 f11 => ⟨20 - (j + 1), by omega, j + 1, rfl, by omega, (nI_succ j).symm, ?_, f6.tr f11⟩)
    rw [take_snoc (by rw [ib_len5]; exact hj20), ← List.append_assoc]
    exact S11
theorem s_putNamed {c : cM} {ρ : Nat → List Int32} {γ : cM} {ths : List Th} {w j : Nat} {y : Th} {L : List Int32} {K : cM → Prop} (h : Rep c ρ γ) (hs : StR ρ γ ths) (hw1 : 3 ≤ w) (hw2 : w < 10) (hwl : (txO w).length ≤ 7) (hj : ths[j]? = some y) (hL : ρ 99 = L) (hl : L.length + 28 ≤ 120) (hk : ∀ c', Rep c' (fu ρ 99 (L ++ txO w ++ ib y.2.2 0 5 ++ [10])) γ → K c') : f_P_putNamed 18 w (nI j) c K := by
  obtain ⟨k98, -⟩ := ps_k3
  obtain ⟨a1, a2, a3, a4, a5, a6, -⟩ := thing_k k98
  have hjl := (List.getElem?_eq_some_iff.mp hj).1
  have hn := hs.2.1
  obtain ⟨t1, t2⟩ := st_t j (by omega)
  obtain ⟨b1, b2, b3, b4, b5, -⟩ := thing_k t2
  have l100 : ln (99 + 1) = 120 := a6
  rw [show (98 + 1 : Nat) = 99 from rfl] at a1 a3
  unfold f_P_putNamed
  rw [ps_k.2.2.2.2.2.2, ps_k.2.1, a1, st_k.1, st_k.2.2.2.2.2.2.1]
  refine ⟨ps_k.1, k98, a3, s_putText h a3 (kd_tx w hw2 hw1) (by rw [hL, l100]; omega) (fun c4 h4 => ⟨st_k.2.2.2.2.1, s_has h4 hs.1 (by omega) (fun i hi e => ?_) (fun g => absurd rfl (g j hjl))⟩)⟩
  rw [hL] at h4
  rw [nI_clamp (by omega), t1, b2]
  refine ⟨fun c13 => Rep c13 (fu ρ 99 (L ++ txO w ++ ib y.2.2 0 5)) γ, fun c13 h13 => ?_, fun g => absurd g (by decide), fun _ => ⟨st_k.2.2.2.2.2.1, vp_in_nI (by omega) (by decide), t2, s_putInts (n := 5) h4 a3 b4 b5 (by decide) (thing_n t2).2 (by rw [fu_self, l100, List.length_append]; omega) (fun c20 h20 => ?_)⟩⟩
  · refine s_put h13 a3 (by rw [fu_self, l100, List.length_append, List.length_append, ib_len5]; omega) (fun c16 h16 => hk c16 ?_)
    rw [fu_self, fu_fu] at h16
    exact h16
  · rw [fu_self, fu_fu, ib_congr ((hs.2.2 j y hj).2.2)] at h20
    exact h20
