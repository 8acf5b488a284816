theorem lu_n : ∀ i, i < 8 → (((nI (8 * i)).toInt64.toUInt64 &&& Int64.toUInt64 63) % 64).toBitVec.toNat = 8 * i := by decide +kernel
theorem ls_n : ∀ i, i < 8 → (((nI (8 * i)).toInt64 &&& 63).toBitVec.smod 64).toNat = 8 * i := by decide +kernel
theorem lu_bv (x : Int64) {i : Nat} (hi : i < 8) : (Int64.toInt32 (c_lushr x (nI (8 * i)))).toBitVec = (x.toBitVec >>> (8 * i)).setWidth 32 := by
  show ((x.toBitVec >>> (((nI (8 * i)).toInt64.toUInt64 &&& Int64.toUInt64 63) % 64).toBitVec).signExtend 32) = _
  rw [BitVec.ushiftRight_eq', lu_n i hi, BitVec.signExtend_eq_setWidth_of_le _ (by decide)]
theorem ls_bv (x : Int64) {i : Nat} (hi : i < 8) : (Int64.toInt32 (c_lshr x (nI (8 * i)) &&& 255)).toBitVec = (x.toBitVec.sshiftRight (8 * i) &&& 255#64).setWidth 32 := by
  show ((x.toBitVec.sshiftRight' (((nI (8 * i)).toInt64 &&& 63).toBitVec.smod 64) &&& 255#64).signExtend 32) = _
  rw [BitVec.sshiftRight_eq', ls_n i hi, BitVec.signExtend_eq_setWidth_of_le _ (by decide)]
theorem b255 : ∀ k, k < 32 → ((255#64).getLsbD k = decide (k < 8) ∧ (255#32).getLsbD k = decide (k < 8)) := by decide +kernel
theorem ty_eq (x : Int64) {i : Nat} (hi : i < 8) : Int64.toInt32 (c_lushr x (nI (8 * i))) &&& 255 = Int64.toInt32 (c_lshr x (nI (8 * i)) &&& 255) := by
  apply Int32.toBitVec_inj.mp
  rw [Int32.toBitVec_and, lu_bv x hi, ls_bv x hi]
  apply BitVec.eq_of_getLsbD_eq
  intro k hk
  obtain ⟨b1, b2⟩ := b255 k hk
  show ((x.toBitVec >>> (8 * i)).setWidth 32 &&& 255#32).getLsbD k = _
  rw [BitVec.getLsbD_and, b2, BitVec.getLsbD_setWidth, BitVec.getLsbD_setWidth, BitVec.getLsbD_and, b1, BitVec.getLsbD_ushiftRight, BitVec.getLsbD_sshiftRight]
  by_cases h8 : k < 8
  · rw [if_pos (by omega)]
    rw [decide_eq_true hk, decide_eq_false (show ¬ 64 ≤ k by omega), decide_eq_true h8]
    cases x.toBitVec.getLsbD (8 * i + k) <;> rfl
  · simp [h8]
def tyB (x : Int64) : Nat → List Int32
  | 0 => []
  | n + 1 => (Int64.toInt32 (c_lushr x (nI (8 * n))) &&& 255) :: tyB x n
theorem tyB_len (x : Int64) : ∀ n, (tyB x n).length = n
  | 0 => rfl
  | n + 1 => by show (tyB x n).length + 1 = n + 1; rw [tyB_len x n]
theorem and255 (x : Int32) : ∃ j, j < 256 ∧ x &&& 255 = nI j := pk_andE x (m := 255) 8 (by decide)
theorem tyB_byt (x : Int64) : ∀ n, byt (tyB x n)
  | 0 => fun _ h => by cases h
  | n + 1 => fun b hb => by
    rcases List.mem_cons.mp hb with h | h
    · rw [h]; exact and255 _
    · exact tyB_byt x n b h
theorem p_type {c : cM} {σ : Sg} {x : Int64} {y : Int32} {J : cM → Prop} (h : Inv c σ) (hJ : ∀ c σ, Inv c σ → J c) : f_P_type 18 x y c (fun v c1 => kd 176 = 7 ∧ f_Mo_type 176 x y c1 (fun v' c2 => Fin2 J v v' c2)) := by
  have hj := hJ c σ h
  obtain ⟨⟨ρ, γ, hR, hC⟩, hM, hV⟩ := h
  have hl := hV.2.2.2.1.2
  have k88 := ps_k2.2.2.1
  obtain ⟨w1, w2, w3⟩ := hR.1 88 k88
  rw [hC.2.1] at w1 w2 w3
  have b1 : (y < 1 ∨ ¬ y ≤ 8) → kd 176 = 7 ∧ f_Mo_type 176 x y c (fun v' c2 => Fin2 J (-1) v' c2) := by
    intro ho
    unfold f_Mo_type
    refine ⟨mk_k.1, fun _ => fin2 rfl hj, fun g => ⟨fun g2 => ?_, fun _ => fin2 rfl hj⟩⟩
    rcases ho with q | q
    · exact absurd q g
    · exact absurd g2 q
  unfold f_P_type
  rw [ps_k.2.2.1, w1]
  refine ⟨fun g => b1 (Or.inl g), fun g => ⟨fun g2 => ⟨ps_k.1, k88, ?_⟩, fun g2 => b1 (Or.inr g2)⟩⟩
  have gp : ¬ y < 0 := fun q => g (Int32.lt_iff_toInt_lt.mpr (by have := Int32.lt_iff_toInt_lt.mp q; rw [show (0 : Int32).toInt = 0 from rfl] at this; rw [show (1 : Int32).toInt = 1 from rfl]; omega))
  obtain ⟨n, hn1, rfl⟩ := nI_of gp
  have hn8 : n ≤ 8 := (nI_leI (b := 8) hn1 (by decide)).mp g2
  rw [nI_add]
  refine ⟨fun g3 => ?_, fun g3 => ⟨mk_k.1, ?_⟩⟩
  · have h64 : σ.2.1.length + n ≤ 64 := (nI_leI (b := 64) (by omega) (by decide)).mp g3
    refine ⟨fun j z c' => ∃ (A : List Int32), j ≤ n ∧ z = nI j - 1 ∧ A ++ tyB x j = σ.2.1 ++ tyB x n ∧ Rep c' (fu ρ 88 A) γ, ⟨n, σ.2.1, Nat.le_refl _, rfl, rfl, by rw [← hC.2.1, fu_id]; exact hR⟩, ?_⟩
    rintro j z c' ⟨A, hjn, rfl, hA, hR'⟩
    have hlen : A.length + j = σ.2.1.length + n := by
      have := congrArg List.length hA
      rw [List.length_append, List.length_append, tyB_len, tyB_len] at this
      exact this
    cases j with
    | zero =>
      refine ⟨fun _ => ⟨mk_k.1, ?_⟩, fun h1 => absurd (by decide) h1⟩
      rw [tyB, List.append_nil] at hA
      subst hA
      have hM' : MR c' σ := hM.keep (keepM hR hR' (fun _ _ => rfl))
      have hv : c' 88 1 = nI (σ.2.1 ++ tyB x n).length := by have := (hR'.1 88 k88).1; rw [fu_self] at this; exact this
      rw [hv]
      unfold f_Mo_type
      rw [mk_k2.1, mk_l.2.2.2.2.2.2, hM'.2.2.1.1, nI_add]
      refine ⟨fun q => absurd q g, fun _ => ⟨fun _ => ⟨mk_k.1, fun _ => ?_, fun q => absurd g3 q⟩, fun q => absurd g2 q⟩⟩
      refine ⟨fun j z c2 => ∃ (B : List Int32), j ≤ n ∧ z = nI j - 1 ∧ B ++ tyB x j = σ.2.1 ++ tyB x n ∧ c2 176 7 = nI B.length ∧ (∀ k, k < B.length → c2 183 k = B.getD k 0) ∧ (∀ a, a ≠ 176 → a ≠ 183 → c2 a = c' a) ∧ ∀ k, k ≠ 7 → c2 176 k = c' 176 k, ⟨n, σ.2.1, Nat.le_refl _, rfl, rfl, hM'.2.2.1.1, hM'.2.2.1.2, fun _ _ _ => rfl, fun _ _ => rfl⟩, ?_⟩
      rintro j z c2 ⟨B, hjn, rfl, hB, m1, m2, m3, m4⟩
      have hlenB : B.length + j = σ.2.1.length + n := by
        have := congrArg List.length hB
        rw [List.length_append, List.length_append, tyB_len, tyB_len] at this
        exact this
      cases j with
      | zero =>
        rw [tyB, List.append_nil] at hB
        subst hB
        refine ⟨fun _ => fin2 m1.symm (hJ c2 _ ⟨keepC ⟨_, _, hR', hC.typed _⟩ (fun a ha => m3 a (by omega) (by omega)), hM'.typed _ (fun a h1 h2 => m3 a (by omega) h2) m4 m1 m2, ?_⟩), fun h1 => absurd (by decide) h1⟩
        obtain ⟨v1, v2, v3, v4, v5, v6, v7, v8⟩ := hV
        exact ⟨v1, v2, v3, ⟨byt_app v4.1 (tyB_byt x n), by show (σ.2.1 ++ tyB x n).length ≤ 64; rw [List.length_append, tyB_len]; exact h64⟩, v5, v6, v7, v8⟩
      | succ j =>
        rw [nI_pred, m1, nI_clamp (by omega), i8]
        refine ⟨fun h1 => absurd h1 (nI_pos (by omega)), fun _ => ⟨mk_a.2.2.2.2.2.2, vp_in_nI (by omega) (by decide), fun c14 e14 c15 e15 => ⟨j, by omega, B ++ [Int64.toInt32 (c_lushr x (nI (8 * j))) &&& 255], by omega, ?_, ?_, ?_, ?_, ?_, ?_⟩⟩⟩
        · rw [Int32.sub_eq_add_neg]
        · rw [List.append_assoc]; exact hB
        · rw [e15, c_up_self, e14, c_up_ne (by decide), m1, List.length_append, List.length_singleton, ← nI_succ]
        · intro k hk
          rw [List.length_append, List.length_singleton] at hk
          rw [e15, c_up_ne (by decide), e14]
          by_cases ek : k = B.length
          · subst ek
            rw [c_up_self, gd_app2 (Nat.le_refl _), Nat.sub_self, ← ty_eq x (by omega)]
            rfl
          · rw [c_up_at ek, gd_app (by omega)]
            exact m2 k (by omega)
        · intro a h1 h2
          rw [e15, c_up_ne h1, e14, c_up_ne h2]
          exact m3 a h1 h2
        · intro k hk
          rw [e15, c_up_at hk, e14, c_up_ne (by decide)]
          exact m4 k hk
    | succ j =>
      rw [nI_pred, i8]
      refine ⟨fun h1 => absurd h1 (nI_pos (by omega)), fun _ => s_put hR' k88 (by rw [fu_self, ps_k3.2.2.2.1]; omega) (fun c2 h2 => ⟨j, by omega, A ++ [Int64.toInt32 (c_lushr x (nI (8 * j))) &&& 255], by omega, ?_, ?_, ?_⟩)⟩
      · rw [Int32.sub_eq_add_neg]
      · rw [List.append_assoc]; exact hA
      · rw [fu_self, fu_fu] at h2
        exact h2
  · unfold f_Mo_type
    rw [hM.2.2.1.1, nI_add]
    exact ⟨fun q => absurd q g, fun _ => ⟨fun _ => ⟨mk_k.1, fun q => absurd q g3, fun _ => fin2 rfl hj⟩, fun q => absurd g2 q⟩⟩
