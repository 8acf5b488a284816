theorem d_Wri_putMark_0 : decode M_Wri_putMark.2.1 0 = .ok (.iload_n 1, 1) := by decide +kernel
theorem d_Wri_putMark_1 : decode M_Wri_putMark.2.1 1 = .ok (.iconst 4, 1) := by decide +kernel
theorem d_Wri_putMark_2 : decode M_Wri_putMark.2.1 2 = .ok (.ishr, 1) := by decide +kernel
theorem d_Wri_putMark_3 : decode M_Wri_putMark.2.1 3 = .ok (.istore_n 3, 1) := by decide +kernel
theorem d_Wri_putMark_4 : decode M_Wri_putMark.2.1 4 = .ok (.aload_n 2, 1) := by decide +kernel
theorem d_Wri_putMark_5 : decode M_Wri_putMark.2.1 5 = .ok (.iload_n 1, 1) := by decide +kernel
theorem d_Wri_putMark_6 : decode M_Wri_putMark.2.1 6 = .ok (.bipush 15, 2) := by decide +kernel
theorem d_Wri_putMark_8 : decode M_Wri_putMark.2.1 8 = .ok (.iand, 1) := by decide +kernel
theorem d_Wri_putMark_9 : decode M_Wri_putMark.2.1 9 = .ok (.bipush 16, 2) := by decide +kernel
theorem d_Wri_putMark_11 : decode M_Wri_putMark.2.1 11 = .ok (.iload_n 0, 1) := by decide +kernel
theorem d_Wri_putMark_12 : decode M_Wri_putMark.2.1 12 = .ok (.imul, 1) := by decide +kernel
theorem d_Wri_putMark_13 : decode M_Wri_putMark.2.1 13 = .ok (.iadd, 1) := by decide +kernel
theorem d_Wri_putMark_14 : decode M_Wri_putMark.2.1 14 = .ok (.iload_n 3, 1) := by decide +kernel
theorem d_Wri_putMark_15 : decode M_Wri_putMark.2.1 15 = .ok (.ifCond .le 9, 3) := by decide +kernel
theorem d_Wri_putMark_18 : decode M_Wri_putMark.2.1 18 = .ok (.sipush 128, 3) := by decide +kernel
theorem d_Wri_putMark_21 : decode M_Wri_putMark.2.1 21 = .ok (.goto 4, 3) := by decide +kernel
theorem d_Wri_putMark_24 : decode M_Wri_putMark.2.1 24 = .ok (.iconst 0, 1) := by decide +kernel
theorem d_Wri_putMark_25 : decode M_Wri_putMark.2.1 25 = .ok (.iadd, 1) := by decide +kernel
theorem d_Wri_putMark_26 : decode M_Wri_putMark.2.1 26 = .ok (.invokevirtual 85, 3) := by decide +kernel
theorem d_Wri_putMark_29 : decode M_Wri_putMark.2.1 29 = .ok (.iload_n 3, 1) := by decide +kernel
theorem d_Wri_putMark_30 : decode M_Wri_putMark.2.1 30 = .ok (.ifCond .le 8, 3) := by decide +kernel
theorem d_Wri_putMark_33 : decode M_Wri_putMark.2.1 33 = .ok (.aload_n 2, 1) := by decide +kernel
theorem d_Wri_putMark_34 : decode M_Wri_putMark.2.1 34 = .ok (.iload_n 3, 1) := by decide +kernel
theorem d_Wri_putMark_35 : decode M_Wri_putMark.2.1 35 = .ok (.invokevirtual 85, 3) := by decide +kernel
theorem d_Wri_putMark_38 : decode M_Wri_putMark.2.1 38 = .ok (.return_, 1) := by decide +kernel
def f_Wri_putMark (x0 : Int32) (x1 : Int32) (x2 : Nat) (c : cM) (K : cM → Prop) : Prop :=
  ∃ J3 : Int32 → Prop, (∀ (s2 : Int32), J3 s2 → (kd x2 = 1 ∧ (f_Row_put x2 (((x1 &&& 15) + (16 * x0)) + s2) c (fun c6 => (((c_shr x1 4) ≤ 0) → (K c6)) ∧ (¬ ((c_shr x1 4) ≤ 0) → (f_Row_put x2 (c_shr x1 4) c6 (fun c8 => K c8))))))) ∧ ((((c_shr x1 4) ≤ 0) → (J3 0)) ∧ (¬ ((c_shr x1 4) ≤ 0) → (J3 128)))
theorem c_Wri_putMark {x0 : Int32} {x1 : Int32} {x2 : Nat} {c : cM} {K : cM → Prop} (h : f_Wri_putMark x0 x1 x2 c K) : Ct M_Wri_putMark 1 0 0 (wd c) [.int x0, .int x1, .ref x2] (PoV K) := by
  refine Ct.of (by decide +kernel) (Nat.le_of_ble_eq_true rfl) (fun Z T => ?_)
  have F := T.F
  unfold f_Wri_putMark at h
  show Z (wd c) 0 [(0, .int x0), (1, .int x1), (2, .ref x2)] [] 0 0
  refine g_iload_n F (pc := 0) d_Wri_putMark_0 1 rfl (g_iconst (v := 4) F (pc := 1) d_Wri_putMark_1 (by decide) (g_ishr F (pc := 2) d_Wri_putMark_2 (g_istore_n (lv' := [(3, .int (c_shr x1 4)), (0, .int x0), (1, .int x1), (2, .ref x2)]) F (pc := 3) d_Wri_putMark_3 (by decide) rfl (g_aload_n F (pc := 4) d_Wri_putMark_4 3 rfl (g_iload_n F (pc := 5) d_Wri_putMark_5 2 rfl ?_)))))
  refine g_bipush (v := 15) F (pc := 6) d_Wri_putMark_6 (by decide) (g_iand F (pc := 8) d_Wri_putMark_8 (g_bipush (v := 16) F (pc := 9) d_Wri_putMark_9 (by decide) (g_iload_n F (pc := 11) d_Wri_putMark_11 1 rfl (g_imul F (pc := 12) d_Wri_putMark_12 (g_iadd F (pc := 13) d_Wri_putMark_13 ?_)))))
  refine g_iload_n F (pc := 14) d_Wri_putMark_14 0 rfl ?_
  obtain ⟨J3, hJ3, h⟩ := h
  have jn4 : ∀ (s2 : Int32), J3 s2 → Z (wd c) 25 [(2, .ref x2), (3, .int (c_shr x1 4))] [.int s2, .int ((x1 &&& 15) + (16 * x0)), .ref x2] 0 0 := by
    intro s2 h
    replace h := hJ3 s2 h
    refine g_iadd F (pc := 25) d_Wri_putMark_25 ?_
    obtain ⟨o5, h⟩ := h
    refine gc_callVV (As := [.int (((x1 &&& 15) + (16 * x0)) + s2)]) (st := []) F (pc := 26) d_Wri_putMark_26 cb_Wri_85 iv_Row_put np_Row_put o5 vc_1 (c_Row_put h) rfl (by decide) (Nat.le_refl _) (Nat.le_refl _) (Nat.le_of_ble_eq_true rfl) (fun c6 h => ?_)
    refine g_iload_n F (pc := 29) d_Wri_putMark_29 1 rfl ?_
    refine g_if_le (tgt := 38) F (pc := 30) d_Wri_putMark_30 (by decide) (fun b7 => ?_) (fun b7 => ?_)
    · replace h := h.1 b7
      exact g_vret T (pc := 38) d_Wri_putMark_38 rfl (Nat.le_refl _) (Nat.le_refl _) (poV h)
    · replace h := h.2 b7
      refine g_aload_n F (pc := 33) d_Wri_putMark_33 0 rfl (g_iload_n F (pc := 34) d_Wri_putMark_34 1 rfl ?_)
      refine gc_callVV (As := [.int (c_shr x1 4)]) (st := []) F (pc := 35) d_Wri_putMark_35 cb_Wri_85 iv_Row_put np_Row_put o5 vc_1 (c_Row_put h) rfl (by decide) (Nat.le_refl _) (Nat.le_refl _) (Nat.le_of_ble_eq_true rfl) (fun c8 h => ?_)
      exact g_vret T (pc := 38) d_Wri_putMark_38 rfl (Nat.le_refl _) (Nat.le_refl _) (poV h)
  refine g_if_le (tgt := 24) F (pc := 15) d_Wri_putMark_15 (by decide) (fun b1 => ?_) (fun b1 => ?_)
  · replace h := h.1 b1
    refine g_iconst (v := 0) F (pc := 24) d_Wri_putMark_24 (by decide) ?_
    refine g_lv (lv' := [(2, .ref x2), (3, .int (c_shr x1 4))]) F [3, 0] rfl ?_
    exact jn4 _ h
  · replace h := h.2 b1
    refine g_sipush (v := 128) F (pc := 18) d_Wri_putMark_18 (by decide) (g_goto (tgt := 25) F (pc := 21) d_Wri_putMark_21 (by decide) ?_)
    refine g_lv (lv' := [(2, .ref x2), (3, .int (c_shr x1 4))]) F [3, 0] rfl ?_
    exact jn4 _ h
theorem d_Wri_isShorterAsDifference_0 : decode M_Wri_isShorterAsDifference.2.1 0 = .ok (.aload_n 0, 1) := by decide +kernel
theorem d_Wri_isShorterAsDifference_1 : decode M_Wri_isShorterAsDifference.2.1 1 = .ok (.getfield 20, 3) := by decide +kernel
theorem d_Wri_isShorterAsDifference_4 : decode M_Wri_isShorterAsDifference.2.1 4 = .ok (.ifnull 25, 3) := by decide +kernel
theorem d_Wri_isShorterAsDifference_7 : decode M_Wri_isShorterAsDifference.2.1 7 = .ok (.aload_n 0, 1) := by decide +kernel
theorem d_Wri_isShorterAsDifference_8 : decode M_Wri_isShorterAsDifference.2.1 8 = .ok (.getfield 20, 3) := by decide +kernel
theorem d_Wri_isShorterAsDifference_11 : decode M_Wri_isShorterAsDifference.2.1 11 = .ok (.getfield 48, 3) := by decide +kernel
theorem d_Wri_isShorterAsDifference_14 : decode M_Wri_isShorterAsDifference.2.1 14 = .ok (.aload_n 1, 1) := by decide +kernel
theorem d_Wri_isShorterAsDifference_15 : decode M_Wri_isShorterAsDifference.2.1 15 = .ok (.getfield 48, 3) := by decide +kernel
theorem d_Wri_isShorterAsDifference_18 : decode M_Wri_isShorterAsDifference.2.1 18 = .ok (.if_icmp .ne 11, 3) := by decide +kernel
theorem d_Wri_isShorterAsDifference_21 : decode M_Wri_isShorterAsDifference.2.1 21 = .ok (.aload_n 0, 1) := by decide +kernel
theorem d_Wri_isShorterAsDifference_22 : decode M_Wri_isShorterAsDifference.2.1 22 = .ok (.getfield 28, 3) := by decide +kernel
theorem d_Wri_isShorterAsDifference_25 : decode M_Wri_isShorterAsDifference.2.1 25 = .ok (.iconst 3, 1) := by decide +kernel
theorem d_Wri_isShorterAsDifference_26 : decode M_Wri_isShorterAsDifference.2.1 26 = .ok (.if_icmp .lt 5, 3) := by decide +kernel
theorem d_Wri_isShorterAsDifference_29 : decode M_Wri_isShorterAsDifference.2.1 29 = .ok (.iconst 0, 1) := by decide +kernel
theorem d_Wri_isShorterAsDifference_30 : decode M_Wri_isShorterAsDifference.2.1 30 = .ok (.ireturn, 1) := by decide +kernel
theorem d_Wri_isShorterAsDifference_31 : decode M_Wri_isShorterAsDifference.2.1 31 = .ok (.aload_n 0, 1) := by decide +kernel
theorem d_Wri_isShorterAsDifference_32 : decode M_Wri_isShorterAsDifference.2.1 32 = .ok (.getfield 20, 3) := by decide +kernel
theorem d_Wri_isShorterAsDifference_35 : decode M_Wri_isShorterAsDifference.2.1 35 = .ok (.getfield 76, 3) := by decide +kernel
theorem d_Wri_isShorterAsDifference_38 : decode M_Wri_isShorterAsDifference.2.1 38 = .ok (.aload_n 1, 1) := by decide +kernel
theorem d_Wri_isShorterAsDifference_39 : decode M_Wri_isShorterAsDifference.2.1 39 = .ok (.getfield 76, 3) := by decide +kernel
theorem d_Wri_isShorterAsDifference_42 : decode M_Wri_isShorterAsDifference.2.1 42 = .ok (.aload_n 0, 1) := by decide +kernel
theorem d_Wri_isShorterAsDifference_43 : decode M_Wri_isShorterAsDifference.2.1 43 = .ok (.getfield 14, 3) := by decide +kernel
theorem d_Wri_isShorterAsDifference_46 : decode M_Wri_isShorterAsDifference.2.1 46 = .ok (.invokestatic 79, 3) := by decide +kernel
theorem d_Wri_isShorterAsDifference_49 : decode M_Wri_isShorterAsDifference.2.1 49 = .ok (.aload_n 0, 1) := by decide +kernel
theorem d_Wri_isShorterAsDifference_50 : decode M_Wri_isShorterAsDifference.2.1 50 = .ok (.getfield 14, 3) := by decide +kernel
theorem d_Wri_isShorterAsDifference_53 : decode M_Wri_isShorterAsDifference.2.1 53 = .ok (.getfield 57, 3) := by decide +kernel
theorem d_Wri_isShorterAsDifference_56 : decode M_Wri_isShorterAsDifference.2.1 56 = .ok (.aload_n 1, 1) := by decide +kernel
theorem d_Wri_isShorterAsDifference_57 : decode M_Wri_isShorterAsDifference.2.1 57 = .ok (.getfield 76, 3) := by decide +kernel
theorem d_Wri_isShorterAsDifference_60 : decode M_Wri_isShorterAsDifference.2.1 60 = .ok (.getfield 57, 3) := by decide +kernel
theorem d_Wri_isShorterAsDifference_63 : decode M_Wri_isShorterAsDifference.2.1 63 = .ok (.if_icmp .ge 7, 3) := by decide +kernel
theorem d_Wri_isShorterAsDifference_66 : decode M_Wri_isShorterAsDifference.2.1 66 = .ok (.iconst 1, 1) := by decide +kernel
theorem d_Wri_isShorterAsDifference_67 : decode M_Wri_isShorterAsDifference.2.1 67 = .ok (.goto 4, 3) := by decide +kernel
theorem d_Wri_isShorterAsDifference_70 : decode M_Wri_isShorterAsDifference.2.1 70 = .ok (.iconst 0, 1) := by decide +kernel
theorem d_Wri_isShorterAsDifference_71 : decode M_Wri_isShorterAsDifference.2.1 71 = .ok (.ireturn, 1) := by decide +kernel
def f_Wri_isShorterAsDifference (x0 : Nat) (x1 : Nat) (c : cM) (K : Int32 → cM → Prop) : Prop :=
  kd x0 = 5 ∧ ((((c x0 1) = 0) → (K 0 c)) ∧ (¬ ((c x0 1) = 0) → (¬ (c x0 1) = 0 ∧ (kd (Int32.toNatClampNeg (c x0 1)) = 3 ∧ (kd x1 = 3 ∧ (((¬ (c (Int32.toNatClampNeg (c x0 1)) 0) = (c x1 0)) → (K 0 c)) ∧ ((c (Int32.toNatClampNeg (c x0 1)) 0) = (c x1 0) → ((((c x0 3) < 3) → (f_Diff_write (rf (Int32.toNatClampNeg (c x0 1)) 1) (rf x1 1) (rf x0 0) c (fun c8 => kd (rf x0 0) = 1 ∧ (kd (rf x1 1) = 1 ∧ ((((c8 (rf x1 1) 1) ≤ (c8 (rf x0 0) 1)) → (K 0 c8)) ∧ (¬ ((c8 (rf x1 1) 1) ≤ (c8 (rf x0 0) 1)) → (K 1 c8))))))) ∧ (¬ ((c x0 3) < 3) → (K 0 c))))))))))
theorem c_Wri_isShorterAsDifference {x0 : Nat} {x1 : Nat} {c : cM} {K : Int32 → cM → Prop} (h : f_Wri_isShorterAsDifference x0 x1 c K) : Ct M_Wri_isShorterAsDifference 4 0 0 (wd c) [.ref x0, .ref x1] (PoI K) := by
  refine Ct.of (by decide +kernel) (Nat.le_of_ble_eq_true rfl) (fun Z T => ?_)
  have F := T.F
  unfold f_Wri_isShorterAsDifference at h
  show Z (wd c) 0 [(0, .ref x0), (1, .ref x1)] [] 0 0
  refine g_aload_n F (pc := 0) d_Wri_isShorterAsDifference_0 0 rfl ?_
  obtain ⟨o1, h⟩ := h
  refine gc_getN F (pc := 1) d_Wri_isShorterAsDifference_1 fi_Wri_20 o1 ?_
  refine gc_ifnullQ (tgt := 29) F (pc := 4) d_Wri_isShorterAsDifference_4 (by decide) (fun b2 => ?_) (fun b2 => ?_)
  · replace h := h.1 b2
    refine g_iconst (v := 0) F (pc := 29) d_Wri_isShorterAsDifference_29 (by decide) ?_
    exact g_zret T (pc := 30) d_Wri_isShorterAsDifference_30 rfl (by decide) (Nat.le_refl _) (Nat.le_refl _) (poI h)
  · replace h := h.2 b2
    refine g_aload_n F (pc := 7) d_Wri_isShorterAsDifference_7 0 rfl (gc_getN F (pc := 8) d_Wri_isShorterAsDifference_8 fi_Wri_20 o1 ?_)
    obtain ⟨o3, h⟩ := h
    refine gc_nn o3 ?_
    obtain ⟨o4, h⟩ := h
    refine gc_getI F (pc := 11) d_Wri_isShorterAsDifference_11 fi_Wri_48 o4 (g_aload_n F (pc := 14) d_Wri_isShorterAsDifference_14 1 rfl ?_)
    obtain ⟨o5, h⟩ := h
    refine gc_getI F (pc := 15) d_Wri_isShorterAsDifference_15 fi_Wri_48 o5 ?_
    refine g_icmp_ne (tgt := 29) F (pc := 18) d_Wri_isShorterAsDifference_18 (by decide) (fun b6 => ?_) (fun b6 => ?_)
    · replace h := h.1 b6
      refine g_iconst (v := 0) F (pc := 29) d_Wri_isShorterAsDifference_29 (by decide) ?_
      exact g_zret T (pc := 30) d_Wri_isShorterAsDifference_30 rfl (by decide) (Nat.le_refl _) (Nat.le_refl _) (poI h)
    · replace h := h.2 b6
      refine g_aload_n F (pc := 21) d_Wri_isShorterAsDifference_21 0 rfl (gc_getI F (pc := 22) d_Wri_isShorterAsDifference_22 fi_Wri_28 o1 (g_iconst (v := 3) F (pc := 25) d_Wri_isShorterAsDifference_25 (by decide) ?_))
      refine g_icmp_lt (tgt := 31) F (pc := 26) d_Wri_isShorterAsDifference_26 (by decide) (fun b7 => ?_) (fun b7 => ?_)
      · replace h := h.1 b7
        refine g_aload_n F (pc := 31) d_Wri_isShorterAsDifference_31 0 rfl (gc_getN F (pc := 32) d_Wri_isShorterAsDifference_32 fi_Wri_20 o1 ?_)
        refine gc_nn o3 ?_
        refine gc_getR F (pc := 35) d_Wri_isShorterAsDifference_35 fi_Wri_76 o4 (g_aload_n F (pc := 38) d_Wri_isShorterAsDifference_38 1 rfl (gc_getR F (pc := 39) d_Wri_isShorterAsDifference_39 fi_Wri_76 o5 (g_aload_n F (pc := 42) d_Wri_isShorterAsDifference_42 0 rfl (gc_getR F (pc := 43) d_Wri_isShorterAsDifference_43 fi_Wri_14 o1 ?_))))
        refine gc_callSV (As := [.ref (rf (Int32.toNatClampNeg (c x0 1)) 1), .ref (rf x1 1), .ref (rf x0 0)]) (st := []) F (pc := 46) d_Wri_isShorterAsDifference_46 cb_Wri_79 iv_Diff_write np_Diff_write (c_Diff_write h) rfl (by decide) (Nat.le_refl _) (Nat.le_refl _) (Nat.le_of_ble_eq_true rfl) (fun c8 h => ?_)
        refine g_aload_n F (pc := 49) d_Wri_isShorterAsDifference_49 0 rfl (gc_getR F (pc := 50) d_Wri_isShorterAsDifference_50 fi_Wri_14 o1 ?_)
        obtain ⟨o9, h⟩ := h
        refine gc_getI F (pc := 53) d_Wri_isShorterAsDifference_53 fi_Wri_57 o9 (g_aload_n F (pc := 56) d_Wri_isShorterAsDifference_56 1 rfl (gc_getR F (pc := 57) d_Wri_isShorterAsDifference_57 fi_Wri_76 o5 ?_))
        obtain ⟨o10, h⟩ := h
        refine gc_getI F (pc := 60) d_Wri_isShorterAsDifference_60 fi_Wri_57 o10 ?_
        refine g_icmp_ge (tgt := 70) F (pc := 63) d_Wri_isShorterAsDifference_63 (by decide) (fun b11 => ?_) (fun b11 => ?_)
        · replace h := h.1 b11
          refine g_iconst (v := 0) F (pc := 70) d_Wri_isShorterAsDifference_70 (by decide) ?_
          exact g_zret T (pc := 71) d_Wri_isShorterAsDifference_71 rfl (by decide) (Nat.le_refl _) (Nat.le_refl _) (poI h)
        · replace h := h.2 b11
          refine g_iconst (v := 1) F (pc := 66) d_Wri_isShorterAsDifference_66 (by decide) (g_goto (tgt := 71) F (pc := 67) d_Wri_isShorterAsDifference_67 (by decide) ?_)
          exact g_zret T (pc := 71) d_Wri_isShorterAsDifference_71 rfl (by decide) (Nat.le_refl _) (Nat.le_refl _) (poI h)
      · replace h := h.2 b7
        refine g_iconst (v := 0) F (pc := 29) d_Wri_isShorterAsDifference_29 (by decide) ?_
        exact g_zret T (pc := 30) d_Wri_isShorterAsDifference_30 rfl (by decide) (Nat.le_refl _) (Nat.le_refl _) (poI h)
theorem d_Wri_putDistance_0 : decode M_Wri_putDistance.2.1 0 = .ok (.iload_n 0, 1) := by decide +kernel
theorem d_Wri_putDistance_1 : decode M_Wri_putDistance.2.1 1 = .ok (.sipush 128, 3) := by decide +kernel
theorem d_Wri_putDistance_4 : decode M_Wri_putDistance.2.1 4 = .ok (.if_icmp .ge 11, 3) := by decide +kernel
theorem d_Wri_putDistance_7 : decode M_Wri_putDistance.2.1 7 = .ok (.aload_n 1, 1) := by decide +kernel
theorem d_Wri_putDistance_8 : decode M_Wri_putDistance.2.1 8 = .ok (.iload_n 0, 1) := by decide +kernel
theorem d_Wri_putDistance_9 : decode M_Wri_putDistance.2.1 9 = .ok (.invokevirtual 85, 3) := by decide +kernel
theorem d_Wri_putDistance_12 : decode M_Wri_putDistance.2.1 12 = .ok (.goto 33, 3) := by decide +kernel
theorem d_Wri_putDistance_15 : decode M_Wri_putDistance.2.1 15 = .ok (.aload_n 1, 1) := by decide +kernel
theorem d_Wri_putDistance_16 : decode M_Wri_putDistance.2.1 16 = .ok (.sipush 128, 3) := by decide +kernel
theorem d_Wri_putDistance_19 : decode M_Wri_putDistance.2.1 19 = .ok (.iload_n 0, 1) := by decide +kernel
theorem d_Wri_putDistance_20 : decode M_Wri_putDistance.2.1 20 = .ok (.sipush 128, 3) := by decide +kernel
theorem d_Wri_putDistance_23 : decode M_Wri_putDistance.2.1 23 = .ok (.isub, 1) := by decide +kernel
theorem d_Wri_putDistance_24 : decode M_Wri_putDistance.2.1 24 = .ok (.sipush 128, 3) := by decide +kernel
theorem d_Wri_putDistance_27 : decode M_Wri_putDistance.2.1 27 = .ok (.idiv, 1) := by decide +kernel
theorem d_Wri_putDistance_28 : decode M_Wri_putDistance.2.1 28 = .ok (.iadd, 1) := by decide +kernel
theorem d_Wri_putDistance_29 : decode M_Wri_putDistance.2.1 29 = .ok (.invokevirtual 85, 3) := by decide +kernel
theorem d_Wri_putDistance_32 : decode M_Wri_putDistance.2.1 32 = .ok (.aload_n 1, 1) := by decide +kernel
theorem d_Wri_putDistance_33 : decode M_Wri_putDistance.2.1 33 = .ok (.iload_n 0, 1) := by decide +kernel
theorem d_Wri_putDistance_34 : decode M_Wri_putDistance.2.1 34 = .ok (.sipush 128, 3) := by decide +kernel
theorem d_Wri_putDistance_37 : decode M_Wri_putDistance.2.1 37 = .ok (.isub, 1) := by decide +kernel
theorem d_Wri_putDistance_38 : decode M_Wri_putDistance.2.1 38 = .ok (.sipush 128, 3) := by decide +kernel
theorem d_Wri_putDistance_41 : decode M_Wri_putDistance.2.1 41 = .ok (.irem, 1) := by decide +kernel
theorem d_Wri_putDistance_42 : decode M_Wri_putDistance.2.1 42 = .ok (.invokevirtual 85, 3) := by decide +kernel
theorem d_Wri_putDistance_45 : decode M_Wri_putDistance.2.1 45 = .ok (.return_, 1) := by decide +kernel
def f_Wri_putDistance (x0 : Int32) (x1 : Nat) (c : cM) (K : cM → Prop) : Prop :=
  ((128 ≤ x0) → (kd x1 = 1 ∧ (f_Row_put x1 (128 + ((x0 - 128) / 128)) c (fun c3 => f_Row_put x1 (c_rem (x0 - 128) 128) c3 (fun c4 => K c4))))) ∧ (¬ (128 ≤ x0) → (kd x1 = 1 ∧ (f_Row_put x1 x0 c (fun c6 => K c6))))
theorem c_Wri_putDistance {x0 : Int32} {x1 : Nat} {c : cM} {K : cM → Prop} (h : f_Wri_putDistance x0 x1 c K) : Ct M_Wri_putDistance 1 0 0 (wd c) [.int x0, .ref x1] (PoV K) := by
  refine Ct.of (by decide +kernel) (Nat.le_of_ble_eq_true rfl) (fun Z T => ?_)
  have F := T.F
  unfold f_Wri_putDistance at h
  show Z (wd c) 0 [(0, .int x0), (1, .ref x1)] [] 0 0
  refine g_iload_n F (pc := 0) d_Wri_putDistance_0 0 rfl (g_sipush (v := 128) F (pc := 1) d_Wri_putDistance_1 (by decide) ?_)
  refine g_icmp_ge (tgt := 15) F (pc := 4) d_Wri_putDistance_4 (by decide) (fun b1 => ?_) (fun b1 => ?_)
  · replace h := h.1 b1
    refine g_aload_n F (pc := 15) d_Wri_putDistance_15 1 rfl (g_sipush (v := 128) F (pc := 16) d_Wri_putDistance_16 (by decide) (g_iload_n F (pc := 19) d_Wri_putDistance_19 0 rfl (g_sipush (v := 128) F (pc := 20) d_Wri_putDistance_20 (by decide) (g_isub F (pc := 23) d_Wri_putDistance_23 (g_sipush (v := 128) F (pc := 24) d_Wri_putDistance_24 (by decide) ?_)))))
    refine g_idiv F (pc := 27) d_Wri_putDistance_27 (by decide) (g_iadd F (pc := 28) d_Wri_putDistance_28 ?_)
    obtain ⟨o2, h⟩ := h
    refine gc_callVV (As := [.int (128 + ((x0 - 128) / 128))]) (st := []) F (pc := 29) d_Wri_putDistance_29 cb_Wri_85 iv_Row_put np_Row_put o2 vc_1 (c_Row_put h) rfl (by decide) (Nat.le_refl _) (Nat.le_refl _) (Nat.le_of_ble_eq_true rfl) (fun c3 h => ?_)
    refine g_aload_n F (pc := 32) d_Wri_putDistance_32 1 rfl (g_iload_n F (pc := 33) d_Wri_putDistance_33 0 rfl (g_sipush (v := 128) F (pc := 34) d_Wri_putDistance_34 (by decide) (g_isub F (pc := 37) d_Wri_putDistance_37 (g_sipush (v := 128) F (pc := 38) d_Wri_putDistance_38 (by decide) (g_irem F (pc := 41) d_Wri_putDistance_41 (by decide) ?_)))))
    refine gc_callVV (As := [.int (c_rem (x0 - 128) 128)]) (st := []) F (pc := 42) d_Wri_putDistance_42 cb_Wri_85 iv_Row_put np_Row_put o2 vc_1 (c_Row_put h) rfl (by decide) (Nat.le_refl _) (Nat.le_refl _) (Nat.le_of_ble_eq_true rfl) (fun c4 h => ?_)
    exact g_vret T (pc := 45) d_Wri_putDistance_45 rfl (Nat.le_refl _) (Nat.le_refl _) (poV h)
  · replace h := h.2 b1
    refine g_aload_n F (pc := 7) d_Wri_putDistance_7 1 rfl (g_iload_n F (pc := 8) d_Wri_putDistance_8 0 rfl ?_)
    obtain ⟨o5, h⟩ := h
    refine gc_callVV (As := [.int x0]) (st := []) F (pc := 9) d_Wri_putDistance_9 cb_Wri_85 iv_Row_put np_Row_put o5 vc_1 (c_Row_put h) rfl (by decide) (Nat.le_refl _) (Nat.le_refl _) (Nat.le_of_ble_eq_true rfl) (fun c6 h => ?_)
    refine g_goto (tgt := 45) F (pc := 12) d_Wri_putDistance_12 (by decide) ?_
    exact g_vret T (pc := 45) d_Wri_putDistance_45 rfl (Nat.le_refl _) (Nat.le_refl _) (poV h)
theorem d_Wri_putWrapped_0 : decode M_Wri_putWrapped.2.1 0 = .ok (.aload_n 0, 1) := by decide +kernel
theorem d_Wri_putWrapped_1 : decode M_Wri_putWrapped.2.1 1 = .ok (.getfield 57, 3) := by decide +kernel
theorem d_Wri_putWrapped_4 : decode M_Wri_putWrapped.2.1 4 = .ok (.aload_n 1, 1) := by decide +kernel
theorem d_Wri_putWrapped_5 : decode M_Wri_putWrapped.2.1 5 = .ok (.invokestatic 88, 3) := by decide +kernel
theorem d_Wri_putWrapped_8 : decode M_Wri_putWrapped.2.1 8 = .ok (.aload_n 1, 1) := by decide +kernel
theorem d_Wri_putWrapped_9 : decode M_Wri_putWrapped.2.1 9 = .ok (.aload_n 0, 1) := by decide +kernel
theorem d_Wri_putWrapped_10 : decode M_Wri_putWrapped.2.1 10 = .ok (.iconst 0, 1) := by decide +kernel
theorem d_Wri_putWrapped_11 : decode M_Wri_putWrapped.2.1 11 = .ok (.aload_n 0, 1) := by decide +kernel
theorem d_Wri_putWrapped_12 : decode M_Wri_putWrapped.2.1 12 = .ok (.getfield 57, 3) := by decide +kernel
theorem d_Wri_putWrapped_15 : decode M_Wri_putWrapped.2.1 15 = .ok (.invokevirtual 93, 3) := by decide +kernel
theorem d_Wri_putWrapped_18 : decode M_Wri_putWrapped.2.1 18 = .ok (.pop, 1) := by decide +kernel
theorem d_Wri_putWrapped_19 : decode M_Wri_putWrapped.2.1 19 = .ok (.aload_n 0, 1) := by decide +kernel
theorem d_Wri_putWrapped_20 : decode M_Wri_putWrapped.2.1 20 = .ok (.aload_n 1, 1) := by decide +kernel
theorem d_Wri_putWrapped_21 : decode M_Wri_putWrapped.2.1 21 = .ok (.invokestatic 97, 3) := by decide +kernel
theorem d_Wri_putWrapped_24 : decode M_Wri_putWrapped.2.1 24 = .ok (.return_, 1) := by decide +kernel
def f_Wri_putWrapped (x0 : Nat) (x1 : Nat) (c : cM) (K : cM → Prop) : Prop :=
  kd x0 = 1 ∧ (f_Wrap_putHead (c x0 1) x1 c (fun c2 => kd x1 = 1 ∧ (f_Row_putPart x1 x0 0 (c2 x0 1) c2 (fun v5 c4 => f_Wrap_putTail x0 x1 c4 (fun c6 => K c6)))))
theorem c_Wri_putWrapped {x0 : Nat} {x1 : Nat} {c : cM} {K : cM → Prop} (h : f_Wri_putWrapped x0 x1 c K) : Ct M_Wri_putWrapped 3 0 0 (wd c) [.ref x0, .ref x1] (PoV K) := by
  refine Ct.of (by decide +kernel) (Nat.le_of_ble_eq_true rfl) (fun Z T => ?_)
  have F := T.F
  unfold f_Wri_putWrapped at h
  show Z (wd c) 0 [(0, .ref x0), (1, .ref x1)] [] 0 0
  refine g_aload_n F (pc := 0) d_Wri_putWrapped_0 0 rfl ?_
  obtain ⟨o1, h⟩ := h
  refine gc_getI F (pc := 1) d_Wri_putWrapped_1 fi_Wri_57 o1 (g_aload_n F (pc := 4) d_Wri_putWrapped_4 1 rfl ?_)
  refine gc_callSV (As := [.int (c x0 1), .ref x1]) (st := []) F (pc := 5) d_Wri_putWrapped_5 cb_Wri_88 iv_Wrap_putHead np_Wrap_putHead (c_Wrap_putHead h) rfl (by decide) (Nat.le_refl _) (Nat.le_refl _) (Nat.le_of_ble_eq_true rfl) (fun c2 h => ?_)
  refine g_aload_n F (pc := 8) d_Wri_putWrapped_8 1 rfl (g_aload_n F (pc := 9) d_Wri_putWrapped_9 0 rfl (g_iconst (v := 0) F (pc := 10) d_Wri_putWrapped_10 (by decide) (g_aload_n F (pc := 11) d_Wri_putWrapped_11 0 rfl (gc_getI F (pc := 12) d_Wri_putWrapped_12 fi_Wri_57 o1 ?_))))
  obtain ⟨o3, h⟩ := h
  refine gc_callVI (As := [.ref x0, .int 0, .int (c2 x0 1)]) (st := []) F (pc := 15) d_Wri_putWrapped_15 cb_Wri_93 iv_Row_putPart np_Row_putPart o3 vc_1 (c_Row_putPart h) rfl (by decide) (Nat.le_refl _) (Nat.le_refl _) (Nat.le_of_ble_eq_true rfl) (fun v5 c4 h => ?_)
  refine g_pop F (pc := 18) d_Wri_putWrapped_18 rfl (g_aload_n F (pc := 19) d_Wri_putWrapped_19 0 rfl (g_aload_n F (pc := 20) d_Wri_putWrapped_20 1 rfl ?_))
  refine gc_callSV (As := [.ref x0, .ref x1]) (st := []) F (pc := 21) d_Wri_putWrapped_21 cb_Wri_97 iv_Wrap_putTail np_Wrap_putTail (c_Wrap_putTail h) rfl (by decide) (Nat.le_refl _) (Nat.le_refl _) (Nat.le_of_ble_eq_true rfl) (fun c6 h => ?_)
  exact g_vret T (pc := 24) d_Wri_putWrapped_24 rfl (Nat.le_refl _) (Nat.le_refl _) (poV h)
theorem d_Wri_writeThing_0 : decode M_Wri_writeThing.2.1 0 = .ok (.aload_n 2, 1) := by decide +kernel
theorem d_Wri_writeThing_1 : decode M_Wri_writeThing.2.1 1 = .ok (.getfield 57, 3) := by decide +kernel
theorem d_Wri_writeThing_4 : decode M_Wri_writeThing.2.1 4 = .ok (.istore_n 3, 1) := by decide +kernel
theorem d_Wri_writeThing_5 : decode M_Wri_writeThing.2.1 5 = .ok (.aload_n 0, 1) := by decide +kernel
theorem d_Wri_writeThing_6 : decode M_Wri_writeThing.2.1 6 = .ok (.aload_n 1, 1) := by decide +kernel
theorem d_Wri_writeThing_7 : decode M_Wri_writeThing.2.1 7 = .ok (.invokevirtual 60, 3) := by decide +kernel
theorem d_Wri_writeThing_10 : decode M_Wri_writeThing.2.1 10 = .ok (.ifCond .eq 47, 3) := by decide +kernel
theorem d_Wri_writeThing_13 : decode M_Wri_writeThing.2.1 13 = .ok (.bipush 6, 2) := by decide +kernel
theorem d_Wri_writeThing_15 : decode M_Wri_writeThing.2.1 15 = .ok (.aload_n 0, 1) := by decide +kernel
theorem d_Wri_writeThing_16 : decode M_Wri_writeThing.2.1 16 = .ok (.getfield 14, 3) := by decide +kernel
theorem d_Wri_writeThing_19 : decode M_Wri_writeThing.2.1 19 = .ok (.getfield 57, 3) := by decide +kernel
theorem d_Wri_writeThing_22 : decode M_Wri_writeThing.2.1 22 = .ok (.aload_n 2, 1) := by decide +kernel
theorem d_Wri_writeThing_23 : decode M_Wri_writeThing.2.1 23 = .ok (.invokestatic 64, 3) := by decide +kernel
theorem d_Wri_writeThing_26 : decode M_Wri_writeThing.2.1 26 = .ok (.iload_n 3, 1) := by decide +kernel
theorem d_Wri_writeThing_27 : decode M_Wri_writeThing.2.1 27 = .ok (.aload_n 0, 1) := by decide +kernel
theorem d_Wri_writeThing_28 : decode M_Wri_writeThing.2.1 28 = .ok (.getfield 24, 3) := by decide +kernel
theorem d_Wri_writeThing_31 : decode M_Wri_writeThing.2.1 31 = .ok (.isub, 1) := by decide +kernel
theorem d_Wri_writeThing_32 : decode M_Wri_writeThing.2.1 32 = .ok (.aload_n 2, 1) := by decide +kernel
theorem d_Wri_writeThing_33 : decode M_Wri_writeThing.2.1 33 = .ok (.invokestatic 68, 3) := by decide +kernel
theorem d_Wri_writeThing_36 : decode M_Wri_writeThing.2.1 36 = .ok (.aload_n 0, 1) := by decide +kernel
theorem d_Wri_writeThing_37 : decode M_Wri_writeThing.2.1 37 = .ok (.getfield 14, 3) := by decide +kernel
theorem d_Wri_writeThing_40 : decode M_Wri_writeThing.2.1 40 = .ok (.aload_n 2, 1) := by decide +kernel
theorem d_Wri_writeThing_41 : decode M_Wri_writeThing.2.1 41 = .ok (.invokestatic 72, 3) := by decide +kernel
theorem d_Wri_writeThing_44 : decode M_Wri_writeThing.2.1 44 = .ok (.aload_n 0, 1) := by decide +kernel
theorem d_Wri_writeThing_45 : decode M_Wri_writeThing.2.1 45 = .ok (.dup, 1) := by decide +kernel
theorem d_Wri_writeThing_46 : decode M_Wri_writeThing.2.1 46 = .ok (.getfield 28, 3) := by decide +kernel
theorem d_Wri_writeThing_49 : decode M_Wri_writeThing.2.1 49 = .ok (.iconst 1, 1) := by decide +kernel
theorem d_Wri_writeThing_50 : decode M_Wri_writeThing.2.1 50 = .ok (.iadd, 1) := by decide +kernel
theorem d_Wri_writeThing_51 : decode M_Wri_writeThing.2.1 51 = .ok (.putfield 28, 3) := by decide +kernel
theorem d_Wri_writeThing_54 : decode M_Wri_writeThing.2.1 54 = .ok (.goto 31, 3) := by decide +kernel
theorem d_Wri_writeThing_57 : decode M_Wri_writeThing.2.1 57 = .ok (.aload_n 1, 1) := by decide +kernel
theorem d_Wri_writeThing_58 : decode M_Wri_writeThing.2.1 58 = .ok (.getfield 48, 3) := by decide +kernel
theorem d_Wri_writeThing_61 : decode M_Wri_writeThing.2.1 61 = .ok (.aload_n 1, 1) := by decide +kernel
theorem d_Wri_writeThing_62 : decode M_Wri_writeThing.2.1 62 = .ok (.getfield 76, 3) := by decide +kernel
theorem d_Wri_writeThing_65 : decode M_Wri_writeThing.2.1 65 = .ok (.getfield 57, 3) := by decide +kernel
theorem d_Wri_writeThing_68 : decode M_Wri_writeThing.2.1 68 = .ok (.aload_n 2, 1) := by decide +kernel
theorem d_Wri_writeThing_69 : decode M_Wri_writeThing.2.1 69 = .ok (.invokestatic 64, 3) := by decide +kernel
theorem d_Wri_writeThing_72 : decode M_Wri_writeThing.2.1 72 = .ok (.aload_n 1, 1) := by decide +kernel
theorem d_Wri_writeThing_73 : decode M_Wri_writeThing.2.1 73 = .ok (.getfield 76, 3) := by decide +kernel
theorem d_Wri_writeThing_76 : decode M_Wri_writeThing.2.1 76 = .ok (.aload_n 2, 1) := by decide +kernel
theorem d_Wri_writeThing_77 : decode M_Wri_writeThing.2.1 77 = .ok (.invokestatic 72, 3) := by decide +kernel
theorem d_Wri_writeThing_80 : decode M_Wri_writeThing.2.1 80 = .ok (.aload_n 0, 1) := by decide +kernel
theorem d_Wri_writeThing_81 : decode M_Wri_writeThing.2.1 81 = .ok (.iconst 0, 1) := by decide +kernel
theorem d_Wri_writeThing_82 : decode M_Wri_writeThing.2.1 82 = .ok (.putfield 28, 3) := by decide +kernel
theorem d_Wri_writeThing_85 : decode M_Wri_writeThing.2.1 85 = .ok (.aload_n 0, 1) := by decide +kernel
theorem d_Wri_writeThing_86 : decode M_Wri_writeThing.2.1 86 = .ok (.aload_n 1, 1) := by decide +kernel
theorem d_Wri_writeThing_87 : decode M_Wri_writeThing.2.1 87 = .ok (.putfield 20, 3) := by decide +kernel
theorem d_Wri_writeThing_90 : decode M_Wri_writeThing.2.1 90 = .ok (.aload_n 0, 1) := by decide +kernel
theorem d_Wri_writeThing_91 : decode M_Wri_writeThing.2.1 91 = .ok (.iload_n 3, 1) := by decide +kernel
theorem d_Wri_writeThing_92 : decode M_Wri_writeThing.2.1 92 = .ok (.putfield 24, 3) := by decide +kernel
theorem d_Wri_writeThing_95 : decode M_Wri_writeThing.2.1 95 = .ok (.return_, 1) := by decide +kernel
def f_Wri_writeThing (x0 : Nat) (x1 : Nat) (x2 : Nat) (c : cM) (K : cM → Prop) : Prop :=
  kd x2 = 1 ∧ (kd x0 = 5 ∧ (f_Wri_isShorterAsDifference x0 x1 c (fun v4 c3 => ∃ J17 : cM → Prop, (∀ (c16 : cM), J17 c16 → ((0 < x1 ∧ x1 < 1000) ∧ (∀ c20 : cM, c20 = c_up c16 x0 1 (nI x1) → (∀ c21 : cM, c21 = c_up c20 x0 2 (c x2 1) → (K c21))))) ∧ (((v4 = 0) → (kd x1 = 3 ∧ (kd (rf x1 1) = 1 ∧ (f_Wri_putMark (c3 x1 0) (c3 (rf x1 1) 1) x2 c3 (fun c24 => f_Wri_putWrapped (rf x1 1) x2 c24 (fun c25 => ∀ c26 : cM, c26 = c_up c25 x0 3 0 → (J17 c26))))))) ∧ (¬ (v4 = 0) → (kd (rf x0 0) = 1 ∧ (f_Wri_putMark 6 (c3 (rf x0 0) 1) x2 c3 (fun c28 => f_Wri_putDistance ((c x2 1) - (c28 x0 2)) x2 c28 (fun c29 => f_Wri_putWrapped (rf x0 0) x2 c29 (fun c30 => ∀ c31 : cM, c31 = c_up c30 x0 3 ((c30 x0 3) + 1) → (J17 c31)))))))))))
theorem c_Wri_writeThing {x0 : Nat} {x1 : Nat} {x2 : Nat} {c : cM} {K : cM → Prop} (h : f_Wri_writeThing x0 x1 x2 c K) : Ct M_Wri_writeThing 5 0 0 (wd c) [.ref x0, .ref x1, .ref x2] (PoV K) := by
  refine Ct.of (by decide +kernel) (Nat.le_of_ble_eq_true rfl) (fun Z T => ?_)
  have F := T.F
  unfold f_Wri_writeThing at h
  show Z (wd c) 0 [(0, .ref x0), (1, .ref x1), (2, .ref x2)] [] 0 0
  refine g_aload_n F (pc := 0) d_Wri_writeThing_0 2 rfl ?_
  obtain ⟨o1, h⟩ := h
  refine gc_getI F (pc := 1) d_Wri_writeThing_1 fi_Wri_57 o1 (g_istore_n (lv' := [(3, .int (c x2 1)), (0, .ref x0), (1, .ref x1), (2, .ref x2)]) F (pc := 4) d_Wri_writeThing_4 (by decide) rfl (g_aload_n F (pc := 5) d_Wri_writeThing_5 1 rfl (g_aload_n F (pc := 6) d_Wri_writeThing_6 2 rfl ?_)))
  obtain ⟨o2, h⟩ := h
  refine gc_callVI (As := [.ref x1]) (st := []) F (pc := 7) d_Wri_writeThing_7 cb_Wri_60 iv_Wri_isShorterAsDifference np_Wri_isShorterAsDifference o2 vc_5 (c_Wri_isShorterAsDifference h) rfl (by decide) (Nat.le_refl _) (Nat.le_refl _) (Nat.le_of_ble_eq_true rfl) (fun v4 c3 h => ?_)
  obtain ⟨J17, hJ17, h⟩ := h
  have jn18 : ∀ (c16 : cM), J17 c16 → Z (wd c16) 85 [(0, .ref x0), (1, .ref x1), (3, .int (c x2 1))] [] 0 0 := by
    intro c16 h
    replace h := hJ17 c16 h
    refine g_aload_n F (pc := 85) d_Wri_writeThing_85 0 rfl (g_aload_n F (pc := 86) d_Wri_writeThing_86 1 rfl ?_)
    obtain ⟨o19, h⟩ := h
    refine gc_putRef F (pc := 87) d_Wri_writeThing_87 pi_Wri_20 o2 o19 ?_
    obtain ⟨c20, ec20⟩ : ∃ c20 : cM, c20 = c_up c16 x0 1 (nI x1) := ⟨_, rfl⟩
    rw [← ec20]
    replace h := h c20 ec20
    refine g_aload_n F (pc := 90) d_Wri_writeThing_90 0 rfl (g_iload_n F (pc := 91) d_Wri_writeThing_91 2 rfl (gc_putI F (pc := 92) d_Wri_writeThing_92 pi_Wri_24 o2 ?_))
    obtain ⟨c21, ec21⟩ : ∃ c21 : cM, c21 = c_up c20 x0 2 (c x2 1) := ⟨_, rfl⟩
    rw [← ec21]
    replace h := h c21 ec21
    exact g_vret T (pc := 95) d_Wri_writeThing_95 rfl (Nat.le_refl _) (Nat.le_refl _) (poV h)
  refine g_if_eq (tgt := 57) F (pc := 10) d_Wri_writeThing_10 (by decide) (fun b5 => ?_) (fun b5 => ?_)
  · replace h := h.1 b5
    refine g_aload_n F (pc := 57) d_Wri_writeThing_57 2 rfl ?_
    obtain ⟨o22, h⟩ := h
    refine gc_getI F (pc := 58) d_Wri_writeThing_58 fi_Wri_48 o22 (g_aload_n F (pc := 61) d_Wri_writeThing_61 2 rfl (gc_getR F (pc := 62) d_Wri_writeThing_62 fi_Wri_76 o22 ?_))
    obtain ⟨o23, h⟩ := h
    refine gc_getI F (pc := 65) d_Wri_writeThing_65 fi_Wri_57 o23 (g_aload_n F (pc := 68) d_Wri_writeThing_68 3 rfl ?_)
    refine gc_callSV (As := [.int (c3 x1 0), .int (c3 (rf x1 1) 1), .ref x2]) (st := []) F (pc := 69) d_Wri_writeThing_69 cb_Wri_64 iv_Wri_putMark np_Wri_putMark (c_Wri_putMark h) rfl (by decide) (Nat.le_refl _) (Nat.le_refl _) (Nat.le_of_ble_eq_true rfl) (fun c24 h => ?_)
    refine g_aload_n F (pc := 72) d_Wri_writeThing_72 2 rfl (gc_getR F (pc := 73) d_Wri_writeThing_73 fi_Wri_76 o22 (g_aload_n F (pc := 76) d_Wri_writeThing_76 3 rfl ?_))
    refine gc_callSV (As := [.ref (rf x1 1), .ref x2]) (st := []) F (pc := 77) d_Wri_writeThing_77 cb_Wri_72 iv_Wri_putWrapped np_Wri_putWrapped (c_Wri_putWrapped h) rfl (by decide) (Nat.le_refl _) (Nat.le_refl _) (Nat.le_of_ble_eq_true rfl) (fun c25 h => ?_)
    refine g_aload_n F (pc := 80) d_Wri_writeThing_80 1 rfl (g_iconst (v := 0) F (pc := 81) d_Wri_writeThing_81 (by decide) (gc_putI F (pc := 82) d_Wri_writeThing_82 pi_Wri_28 o2 ?_))
    obtain ⟨c26, ec26⟩ : ∃ c26 : cM, c26 = c_up c25 x0 3 0 := ⟨_, rfl⟩
    rw [← ec26]
    replace h := h c26 ec26
    refine g_lv (lv' := [(0, .ref x0), (1, .ref x1), (3, .int (c x2 1))]) F [1, 2, 0] rfl ?_
    exact jn18 _ h
  · replace h := h.2 b5
    refine g_bipush (v := 6) F (pc := 13) d_Wri_writeThing_13 (by decide) (g_aload_n F (pc := 15) d_Wri_writeThing_15 1 rfl (gc_getR F (pc := 16) d_Wri_writeThing_16 fi_Wri_14 o2 ?_))
    obtain ⟨o27, h⟩ := h
    refine gc_getI F (pc := 19) d_Wri_writeThing_19 fi_Wri_57 o27 (g_aload_n F (pc := 22) d_Wri_writeThing_22 3 rfl ?_)
    refine gc_callSV (As := [.int 6, .int (c3 (rf x0 0) 1), .ref x2]) (st := []) F (pc := 23) d_Wri_writeThing_23 cb_Wri_64 iv_Wri_putMark np_Wri_putMark (c_Wri_putMark h) rfl (by decide) (Nat.le_refl _) (Nat.le_refl _) (Nat.le_of_ble_eq_true rfl) (fun c28 h => ?_)
    refine g_iload_n F (pc := 26) d_Wri_writeThing_26 0 rfl (g_aload_n F (pc := 27) d_Wri_writeThing_27 1 rfl (gc_getI F (pc := 28) d_Wri_writeThing_28 fi_Wri_24 o2 (g_isub F (pc := 31) d_Wri_writeThing_31 (g_aload_n F (pc := 32) d_Wri_writeThing_32 3 rfl ?_))))
    refine gc_callSV (As := [.int ((c x2 1) - (c28 x0 2)), .ref x2]) (st := []) F (pc := 33) d_Wri_writeThing_33 cb_Wri_68 iv_Wri_putDistance np_Wri_putDistance (c_Wri_putDistance h) rfl (by decide) (Nat.le_refl _) (Nat.le_refl _) (Nat.le_of_ble_eq_true rfl) (fun c29 h => ?_)
    refine g_aload_n F (pc := 36) d_Wri_writeThing_36 1 rfl (gc_getR F (pc := 37) d_Wri_writeThing_37 fi_Wri_14 o2 (g_aload_n F (pc := 40) d_Wri_writeThing_40 3 rfl ?_))
    refine gc_callSV (As := [.ref (rf x0 0), .ref x2]) (st := []) F (pc := 41) d_Wri_writeThing_41 cb_Wri_72 iv_Wri_putWrapped np_Wri_putWrapped (c_Wri_putWrapped h) rfl (by decide) (Nat.le_refl _) (Nat.le_refl _) (Nat.le_of_ble_eq_true rfl) (fun c30 h => ?_)
    refine g_aload_n F (pc := 44) d_Wri_writeThing_44 1 rfl (g_dup F (pc := 45) d_Wri_writeThing_45 rfl (gc_getI F (pc := 46) d_Wri_writeThing_46 fi_Wri_28 o2 (g_iconst (v := 1) F (pc := 49) d_Wri_writeThing_49 (by decide) (g_iadd F (pc := 50) d_Wri_writeThing_50 (gc_putI F (pc := 51) d_Wri_writeThing_51 pi_Wri_28 o2 ?_)))))
    obtain ⟨c31, ec31⟩ : ∃ c31 : cM, c31 = c_up c30 x0 3 ((c30 x0 3) + 1) := ⟨_, rfl⟩
    rw [← ec31]
    replace h := h c31 ec31
    refine g_goto (tgt := 85) F (pc := 54) d_Wri_writeThing_54 (by decide) ?_
    refine g_lv (lv' := [(0, .ref x0), (1, .ref x1), (3, .int (c x2 1))]) F [1, 2, 0] rfl ?_
    exact jn18 _ h
theorem d_Wri_writeAll_0 : decode M_Wri_writeAll.2.1 0 = .ok (.aload_n 2, 1) := by decide +kernel
theorem d_Wri_writeAll_1 : decode M_Wri_writeAll.2.1 1 = .ok (.invokevirtual 31, 3) := by decide +kernel
theorem d_Wri_writeAll_4 : decode M_Wri_writeAll.2.1 4 = .ok (.aload_n 2, 1) := by decide +kernel
theorem d_Wri_writeAll_5 : decode M_Wri_writeAll.2.1 5 = .ok (.ldc 34, 2) := by decide +kernel
theorem d_Wri_writeAll_7 : decode M_Wri_writeAll.2.1 7 = .ok (.iconst 4, 1) := by decide +kernel
theorem d_Wri_writeAll_8 : decode M_Wri_writeAll.2.1 8 = .ok (.invokevirtual 35, 3) := by decide +kernel
theorem d_Wri_writeAll_11 : decode M_Wri_writeAll.2.1 11 = .ok (.aload_n 2, 1) := by decide +kernel
theorem d_Wri_writeAll_12 : decode M_Wri_writeAll.2.1 12 = .ok (.iconst 2, 1) := by decide +kernel
theorem d_Wri_writeAll_13 : decode M_Wri_writeAll.2.1 13 = .ok (.iconst 4, 1) := by decide +kernel
theorem d_Wri_writeAll_14 : decode M_Wri_writeAll.2.1 14 = .ok (.invokevirtual 35, 3) := by decide +kernel
theorem d_Wri_writeAll_17 : decode M_Wri_writeAll.2.1 17 = .ok (.aload_n 2, 1) := by decide +kernel
theorem d_Wri_writeAll_18 : decode M_Wri_writeAll.2.1 18 = .ok (.aload_n 1, 1) := by decide +kernel
theorem d_Wri_writeAll_19 : decode M_Wri_writeAll.2.1 19 = .ok (.getfield 39, 3) := by decide +kernel
theorem d_Wri_writeAll_22 : decode M_Wri_writeAll.2.1 22 = .ok (.iconst 4, 1) := by decide +kernel
theorem d_Wri_writeAll_23 : decode M_Wri_writeAll.2.1 23 = .ok (.invokevirtual 35, 3) := by decide +kernel
theorem d_Wri_writeAll_26 : decode M_Wri_writeAll.2.1 26 = .ok (.aload_n 0, 1) := by decide +kernel
theorem d_Wri_writeAll_27 : decode M_Wri_writeAll.2.1 27 = .ok (.aconst_null, 1) := by decide +kernel
theorem d_Wri_writeAll_28 : decode M_Wri_writeAll.2.1 28 = .ok (.putfield 20, 3) := by decide +kernel
theorem d_Wri_writeAll_31 : decode M_Wri_writeAll.2.1 31 = .ok (.aload_n 0, 1) := by decide +kernel
theorem d_Wri_writeAll_32 : decode M_Wri_writeAll.2.1 32 = .ok (.iconst 0, 1) := by decide +kernel
theorem d_Wri_writeAll_33 : decode M_Wri_writeAll.2.1 33 = .ok (.putfield 28, 3) := by decide +kernel
theorem d_Wri_writeAll_36 : decode M_Wri_writeAll.2.1 36 = .ok (.iconst 1, 1) := by decide +kernel
theorem d_Wri_writeAll_37 : decode M_Wri_writeAll.2.1 37 = .ok (.istore_n 3, 1) := by decide +kernel
theorem d_Wri_writeAll_38 : decode M_Wri_writeAll.2.1 38 = .ok (.iload_n 3, 1) := by decide +kernel
theorem d_Wri_writeAll_39 : decode M_Wri_writeAll.2.1 39 = .ok (.iconst 3, 1) := by decide +kernel
theorem d_Wri_writeAll_40 : decode M_Wri_writeAll.2.1 40 = .ok (.if_icmp .gt 53, 3) := by decide +kernel
theorem d_Wri_writeAll_43 : decode M_Wri_writeAll.2.1 43 = .ok (.iconst 0, 1) := by decide +kernel
theorem d_Wri_writeAll_44 : decode M_Wri_writeAll.2.1 44 = .ok (.istore 4, 2) := by decide +kernel
theorem d_Wri_writeAll_46 : decode M_Wri_writeAll.2.1 46 = .ok (.iload 4, 2) := by decide +kernel
theorem d_Wri_writeAll_48 : decode M_Wri_writeAll.2.1 48 = .ok (.aload_n 1, 1) := by decide +kernel
theorem d_Wri_writeAll_49 : decode M_Wri_writeAll.2.1 49 = .ok (.getfield 39, 3) := by decide +kernel
theorem d_Wri_writeAll_52 : decode M_Wri_writeAll.2.1 52 = .ok (.if_icmp .ge 35, 3) := by decide +kernel
theorem d_Wri_writeAll_55 : decode M_Wri_writeAll.2.1 55 = .ok (.aload_n 1, 1) := by decide +kernel
theorem d_Wri_writeAll_56 : decode M_Wri_writeAll.2.1 56 = .ok (.getfield 44, 3) := by decide +kernel
theorem d_Wri_writeAll_59 : decode M_Wri_writeAll.2.1 59 = .ok (.iload 4, 2) := by decide +kernel
theorem d_Wri_writeAll_61 : decode M_Wri_writeAll.2.1 61 = .ok (.aaload, 1) := by decide +kernel
theorem d_Wri_writeAll_62 : decode M_Wri_writeAll.2.1 62 = .ok (.getfield 48, 3) := by decide +kernel
theorem d_Wri_writeAll_65 : decode M_Wri_writeAll.2.1 65 = .ok (.iload_n 3, 1) := by decide +kernel
theorem d_Wri_writeAll_66 : decode M_Wri_writeAll.2.1 66 = .ok (.if_icmp .ne 15, 3) := by decide +kernel
theorem d_Wri_writeAll_69 : decode M_Wri_writeAll.2.1 69 = .ok (.aload_n 0, 1) := by decide +kernel
theorem d_Wri_writeAll_70 : decode M_Wri_writeAll.2.1 70 = .ok (.aload_n 1, 1) := by decide +kernel
theorem d_Wri_writeAll_71 : decode M_Wri_writeAll.2.1 71 = .ok (.getfield 44, 3) := by decide +kernel
theorem d_Wri_writeAll_74 : decode M_Wri_writeAll.2.1 74 = .ok (.iload 4, 2) := by decide +kernel
theorem d_Wri_writeAll_76 : decode M_Wri_writeAll.2.1 76 = .ok (.aaload, 1) := by decide +kernel
theorem d_Wri_writeAll_77 : decode M_Wri_writeAll.2.1 77 = .ok (.aload_n 2, 1) := by decide +kernel
theorem d_Wri_writeAll_78 : decode M_Wri_writeAll.2.1 78 = .ok (.invokevirtual 53, 3) := by decide +kernel
theorem d_Wri_writeAll_81 : decode M_Wri_writeAll.2.1 81 = .ok (.iinc 4 1, 3) := by decide +kernel
theorem d_Wri_writeAll_84 : decode M_Wri_writeAll.2.1 84 = .ok (.goto (-38), 3) := by decide +kernel
theorem d_Wri_writeAll_87 : decode M_Wri_writeAll.2.1 87 = .ok (.iinc 3 1, 3) := by decide +kernel
theorem d_Wri_writeAll_90 : decode M_Wri_writeAll.2.1 90 = .ok (.goto (-52), 3) := by decide +kernel
theorem d_Wri_writeAll_93 : decode M_Wri_writeAll.2.1 93 = .ok (.return_, 1) := by decide +kernel
def f_Wri_writeAll (x0 : Nat) (x1 : Nat) (x2 : Nat) (c : cM) (K : cM → Prop) : Prop :=
  kd x2 = 1 ∧ (f_Row_clear x2 c (fun c2 => f_Row_putHighFirst x2 1346454347 4 c2 (fun c3 => f_Row_putHighFirst x2 2 4 c3 (fun c4 => kd x1 = 4 ∧ (f_Row_putHighFirst x2 (c4 x1 1) 4 c4 (fun c6 => kd x0 = 5 ∧ (∀ c8 : cM, c8 = c_up c6 x0 1 0 → (∀ c9 : cM, c9 = c_up c8 x0 3 0 → (∃ I10 : Nat → Int32 → cM → Prop, (∃ n, I10 n 1 c9) ∧ ∀ (n11 : Nat) (y14 : Int32) (c15 : cM), I10 n11 y14 c15 → (((3 < y14) → (K c15)) ∧ (¬ (3 < y14) → (∃ I17 : Nat → Int32 → cM → Prop, (∃ n, I17 n 0 c15) ∧ ∀ (n18 : Nat) (y21 : Int32) (c22 : cM), I17 n18 y21 c22 → ((((c22 x1 1) ≤ y21) → (∃ m, m < n11 ∧ I10 m (y14 + 1) c22)) ∧ (¬ ((c22 x1 1) ≤ y21) → (kd (rf x1 0) = 102 ∧ (vp_in y21 (ln (rf x1 0)) ∧ (kd (rf (rf x1 0) (Int32.toNatClampNeg y21)) = 3 ∧ (∃ J30 : cM → Prop, (∀ (c29 : cM), J30 c29 → (∃ m, m < n18 ∧ I17 m (y21 + 1) c29)) ∧ (((¬ (c22 (rf (rf x1 0) (Int32.toNatClampNeg y21)) 0) = y14) → (J30 c22)) ∧ ((c22 (rf (rf x1 0) (Int32.toNatClampNeg y21)) 0) = y14 → (f_Wri_writeThing x0 (rf (rf x1 0) (Int32.toNatClampNeg y21)) x2 c22 (fun c32 => J30 c32))))))))))))))))))))))
theorem c_Wri_writeAll {x0 : Nat} {x1 : Nat} {x2 : Nat} {c : cM} {K : cM → Prop} (h : f_Wri_writeAll x0 x1 x2 c K) : Ct M_Wri_writeAll 6 0 0 (wd c) [.ref x0, .ref x1, .ref x2] (PoV K) := by
  refine Ct.of (by decide +kernel) (Nat.le_of_ble_eq_true rfl) (fun Z T => ?_)
  have F := T.F
  unfold f_Wri_writeAll at h
  show Z (wd c) 0 [(0, .ref x0), (1, .ref x1), (2, .ref x2)] [] 0 0
  refine g_aload_n F (pc := 0) d_Wri_writeAll_0 2 rfl ?_
  obtain ⟨o1, h⟩ := h
  refine gc_callVV (As := []) (st := []) F (pc := 1) d_Wri_writeAll_1 cb_Wri_31 iv_Row_clear np_Row_clear o1 vc_1 (c_Row_clear h) rfl (by decide) (Nat.le_refl _) (Nat.le_refl _) (Nat.le_of_ble_eq_true rfl) (fun c2 h => ?_)
  refine g_aload_n F (pc := 4) d_Wri_writeAll_4 2 rfl (g_ldc F (pc := 5) d_Wri_writeAll_5 kc_Wri_34 (g_iconst (v := 4) F (pc := 7) d_Wri_writeAll_7 (by decide) ?_))
  refine gc_callVV (As := [.int 1346454347, .int 4]) (st := []) F (pc := 8) d_Wri_writeAll_8 cb_Wri_35 iv_Row_putHighFirst np_Row_putHighFirst o1 vc_1 (c_Row_putHighFirst h) rfl (by decide) (Nat.le_refl _) (Nat.le_refl _) (Nat.le_of_ble_eq_true rfl) (fun c3 h => ?_)
  refine g_aload_n F (pc := 11) d_Wri_writeAll_11 2 rfl (g_iconst (v := 2) F (pc := 12) d_Wri_writeAll_12 (by decide) (g_iconst (v := 4) F (pc := 13) d_Wri_writeAll_13 (by decide) ?_))
  refine gc_callVV (As := [.int 2, .int 4]) (st := []) F (pc := 14) d_Wri_writeAll_14 cb_Wri_35 iv_Row_putHighFirst np_Row_putHighFirst o1 vc_1 (c_Row_putHighFirst h) rfl (by decide) (Nat.le_refl _) (Nat.le_refl _) (Nat.le_of_ble_eq_true rfl) (fun c4 h => ?_)
  refine g_aload_n F (pc := 17) d_Wri_writeAll_17 2 rfl (g_aload_n F (pc := 18) d_Wri_writeAll_18 1 rfl ?_)
  obtain ⟨o5, h⟩ := h
  refine gc_getI F (pc := 19) d_Wri_writeAll_19 fi_Wri_39 o5 (g_iconst (v := 4) F (pc := 22) d_Wri_writeAll_22 (by decide) ?_)
  refine gc_callVV (As := [.int (c4 x1 1), .int 4]) (st := []) F (pc := 23) d_Wri_writeAll_23 cb_Wri_35 iv_Row_putHighFirst np_Row_putHighFirst o1 vc_1 (c_Row_putHighFirst h) rfl (by decide) (Nat.le_refl _) (Nat.le_refl _) (Nat.le_of_ble_eq_true rfl) (fun c6 h => ?_)
  refine g_aload_n F (pc := 26) d_Wri_writeAll_26 0 rfl (g_null F (pc := 27) d_Wri_writeAll_27 ?_)
  obtain ⟨o7, h⟩ := h
  refine gc_putNull F (pc := 28) d_Wri_writeAll_28 pi_Wri_20 o7 ?_
  obtain ⟨c8, ec8⟩ : ∃ c8 : cM, c8 = c_up c6 x0 1 0 := ⟨_, rfl⟩
  rw [← ec8]
  replace h := h c8 ec8
  refine g_aload_n F (pc := 31) d_Wri_writeAll_31 0 rfl (g_iconst (v := 0) F (pc := 32) d_Wri_writeAll_32 (by decide) (gc_putI F (pc := 33) d_Wri_writeAll_33 pi_Wri_28 o7 ?_))
  obtain ⟨c9, ec9⟩ : ∃ c9 : cM, c9 = c_up c8 x0 3 0 := ⟨_, rfl⟩
  rw [← ec9]
  replace h := h c9 ec9
  refine g_iconst (v := 1) F (pc := 36) d_Wri_writeAll_36 (by decide) (g_istore_n (lv' := [(3, .int 1), (0, .ref x0), (1, .ref x1), (2, .ref x2)]) F (pc := 37) d_Wri_writeAll_37 (by decide) rfl ?_)
  refine g_lv (lv' := [(0, .ref x0), (1, .ref x1), (2, .ref x2), (3, .int 1)]) F [1, 2, 3, 0] rfl ?_
  obtain ⟨I10, ⟨n0, h⟩, hI10⟩ := h
  have lp13 : ∀ (n11 : Nat) (y14 : Int32) (c15 : cM), I10 n11 y14 c15 → Z (wd c15) 38 [(0, .ref x0), (1, .ref x1), (2, .ref x2), (3, .int y14)] [] 0 0 := by
    intro n11
    induction n11 using Nat.strongRecOn with
    | _ n11 ih12 =>
      intro y14 c15 h
      replace h := hI10 n11 y14 c15 h
      refine g_iload_n F (pc := 38) d_Wri_writeAll_38 3 rfl (g_iconst (v := 3) F (pc := 39) d_Wri_writeAll_39 (by decide) ?_)
      refine g_icmp_gt (tgt := 93) F (pc := 40) d_Wri_writeAll_40 (by decide) (fun b16 => ?_) (fun b16 => ?_)
      · replace h := h.1 b16
        exact g_vret T (pc := 93) d_Wri_writeAll_93 rfl (Nat.le_refl _) (Nat.le_refl _) (poV h)
      · replace h := h.2 b16
        refine g_iconst (v := 0) F (pc := 43) d_Wri_writeAll_43 (by decide) (g_istore (lv' := [(4, .int 0), (0, .ref x0), (1, .ref x1), (2, .ref x2), (3, .int y14)]) F (pc := 44) d_Wri_writeAll_44 (by decide) rfl ?_)
        refine g_lv (lv' := [(0, .ref x0), (1, .ref x1), (2, .ref x2), (3, .int y14), (4, .int 0)]) F [1, 2, 3, 4, 0] rfl ?_
        obtain ⟨I17, ⟨n0, h⟩, hI17⟩ := h
        have lp20 : ∀ (n18 : Nat) (y21 : Int32) (c22 : cM), I17 n18 y21 c22 → Z (wd c22) 46 [(0, .ref x0), (1, .ref x1), (2, .ref x2), (3, .int y14), (4, .int y21)] [] 0 0 := by
          intro n18
          induction n18 using Nat.strongRecOn with
          | _ n18 ih19 =>
            intro y21 c22 h
            replace h := hI17 n18 y21 c22 h
            refine g_iload F (pc := 46) d_Wri_writeAll_46 4 rfl (g_aload_n F (pc := 48) d_Wri_writeAll_48 1 rfl (gc_getI F (pc := 49) d_Wri_writeAll_49 fi_Wri_39 o5 ?_))
            refine g_icmp_ge (tgt := 87) F (pc := 52) d_Wri_writeAll_52 (by decide) (fun b23 => ?_) (fun b23 => ?_)
            · replace h := h.1 b23
              refine g_iinc (v := (y14 + 1)) (lv' := [(3, .int (y14 + 1)), (0, .ref x0), (1, .ref x1), (2, .ref x2), (4, .int y21)]) F (pc := 87) d_Wri_writeAll_87 3 rfl (sk_inc (by decide)) (by decide) rfl (g_goto (tgt := 38) F (pc := 90) d_Wri_writeAll_90 (by decide) ?_)
              refine g_lv (lv' := [(0, .ref x0), (1, .ref x1), (2, .ref x2), (3, .int (y14 + 1))]) F [1, 2, 3, 0] rfl ?_
              obtain ⟨m, hm, h⟩ := h
              exact ih12 m hm _ _ h
            · replace h := h.2 b23
              refine g_aload_n F (pc := 55) d_Wri_writeAll_55 1 rfl (gc_getR F (pc := 56) d_Wri_writeAll_56 fi_Wri_44 o5 (g_iload F (pc := 59) d_Wri_writeAll_59 4 rfl ?_))
              obtain ⟨o24, h⟩ := h
              obtain ⟨o25, h⟩ := h
              refine gc_aald F (pc := 61) d_Wri_writeAll_61 o24 o25 ?_
              obtain ⟨o26, h⟩ := h
              refine gc_getI F (pc := 62) d_Wri_writeAll_62 fi_Wri_48 o26 (g_iload_n F (pc := 65) d_Wri_writeAll_65 3 rfl ?_)
              obtain ⟨J30, hJ30, h⟩ := h
              have jn31 : ∀ (c29 : cM), J30 c29 → Z (wd c29) 81 [(0, .ref x0), (1, .ref x1), (2, .ref x2), (3, .int y14), (4, .int y21)] [] 0 0 := by
                intro c29 h
                replace h := hJ30 c29 h
                refine g_iinc (v := (y21 + 1)) (lv' := [(4, .int (y21 + 1)), (0, .ref x0), (1, .ref x1), (2, .ref x2), (3, .int y14)]) F (pc := 81) d_Wri_writeAll_81 4 rfl (sk_inc (by decide)) (by decide) rfl (g_goto (tgt := 46) F (pc := 84) d_Wri_writeAll_84 (by decide) ?_)
                refine g_lv (lv' := [(0, .ref x0), (1, .ref x1), (2, .ref x2), (3, .int y14), (4, .int (y21 + 1))]) F [1, 2, 3, 4, 0] rfl ?_
                obtain ⟨m, hm, h⟩ := h
                exact ih19 m hm _ _ h
              refine g_icmp_ne (tgt := 81) F (pc := 66) d_Wri_writeAll_66 (by decide) (fun b27 => ?_) (fun b27 => ?_)
              · replace h := h.1 b27
                exact jn31 _ h
              · replace h := h.2 b27
                refine g_aload_n F (pc := 69) d_Wri_writeAll_69 0 rfl (g_aload_n F (pc := 70) d_Wri_writeAll_70 1 rfl (gc_getR F (pc := 71) d_Wri_writeAll_71 fi_Wri_44 o5 (g_iload F (pc := 74) d_Wri_writeAll_74 4 rfl (gc_aald F (pc := 76) d_Wri_writeAll_76 o24 o25 (g_aload_n F (pc := 77) d_Wri_writeAll_77 2 rfl ?_)))))
                refine gc_callVV (As := [.ref (rf (rf x1 0) (Int32.toNatClampNeg y21)), .ref x2]) (st := []) F (pc := 78) d_Wri_writeAll_78 cb_Wri_53 iv_Wri_writeThing np_Wri_writeThing o7 vc_5 (c_Wri_writeThing h) rfl (by decide) (Nat.le_refl _) (Nat.le_refl _) (Nat.le_of_ble_eq_true rfl) (fun c32 h => ?_)
                exact jn31 _ h
        exact lp20 n0 _ _ h
  exact lp13 n0 _ _ h
