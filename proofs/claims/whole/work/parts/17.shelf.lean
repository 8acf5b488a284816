theorem d_P_name_0 : decode M_P_name.2.1 0 = .ok (.aload_n 0, 1) := by decide +kernel
theorem d_P_name_1 : decode M_P_name.2.1 1 = .ok (.getfield 12, 3) := by decide +kernel
theorem d_P_name_4 : decode M_P_name.2.1 4 = .ok (.iload_n 1, 1) := by decide +kernel
theorem d_P_name_5 : decode M_P_name.2.1 5 = .ok (.invokevirtual 97, 3) := by decide +kernel
theorem d_P_name_8 : decode M_P_name.2.1 8 = .ok (.ifCond .eq 12, 3) := by decide +kernel
theorem d_P_name_11 : decode M_P_name.2.1 11 = .ok (.iload_n 2, 1) := by decide +kernel
theorem d_P_name_12 : decode M_P_name.2.1 12 = .ok (.ifCond .lt 8, 3) := by decide +kernel
theorem d_P_name_15 : decode M_P_name.2.1 15 = .ok (.iload_n 2, 1) := by decide +kernel
theorem d_P_name_16 : decode M_P_name.2.1 16 = .ok (.iconst 5, 1) := by decide +kernel
theorem d_P_name_17 : decode M_P_name.2.1 17 = .ok (.if_icmp .lt 5, 3) := by decide +kernel
theorem d_P_name_20 : decode M_P_name.2.1 20 = .ok (.iconst 0, 1) := by decide +kernel
theorem d_P_name_21 : decode M_P_name.2.1 21 = .ok (.ireturn, 1) := by decide +kernel
theorem d_P_name_22 : decode M_P_name.2.1 22 = .ok (.aload_n 0, 1) := by decide +kernel
theorem d_P_name_23 : decode M_P_name.2.1 23 = .ok (.getfield 12, 3) := by decide +kernel
theorem d_P_name_26 : decode M_P_name.2.1 26 = .ok (.getfield 101, 3) := by decide +kernel
theorem d_P_name_29 : decode M_P_name.2.1 29 = .ok (.iload_n 1, 1) := by decide +kernel
theorem d_P_name_30 : decode M_P_name.2.1 30 = .ok (.aaload, 1) := by decide +kernel
theorem d_P_name_31 : decode M_P_name.2.1 31 = .ok (.getfield 141, 3) := by decide +kernel
theorem d_P_name_34 : decode M_P_name.2.1 34 = .ok (.iload_n 2, 1) := by decide +kernel
theorem d_P_name_35 : decode M_P_name.2.1 35 = .ok (.iaload, 1) := by decide +kernel
theorem d_P_name_36 : decode M_P_name.2.1 36 = .ok (.ireturn, 1) := by decide +kernel
def f_P_name (x0 : Nat) (x1 : Int32) (x2 : Int32) (c : cM) (K : Int32 → cM → Prop) : Prop :=
  kd x0 = 0 ∧ (kd (rf x0 0) = 4 ∧ (f_Store_has (rf x0 0) x1 c (fun v4 c3 => ((v4 = 0) → (K 0 c3)) ∧ (¬ (v4 = 0) → (((x2 < 0) → (K 0 c3)) ∧ (¬ (x2 < 0) → (((x2 < 5) → (kd (rf (rf x0 0) 0) = 102 ∧ (vp_in x1 (ln (rf (rf x0 0) 0)) ∧ (kd (rf (rf (rf x0 0) 0) (Int32.toNatClampNeg x1)) = 3 ∧ (kd (rf (rf (rf (rf x0 0) 0) (Int32.toNatClampNeg x1)) 2) = 100 ∧ (vp_in x2 (ln (rf (rf (rf (rf x0 0) 0) (Int32.toNatClampNeg x1)) 2)) ∧ (K (c3 (rf (rf (rf (rf x0 0) 0) (Int32.toNatClampNeg x1)) 2) (Int32.toNatClampNeg x2)) c3))))))) ∧ (¬ (x2 < 5) → (K 0 c3)))))))))
theorem c_P_name {x0 : Nat} {x1 : Int32} {x2 : Int32} {c : cM} {K : Int32 → cM → Prop} (h : f_P_name x0 x1 x2 c K) : Ct M_P_name 1 0 0 (wd c) [.ref x0, .int x1, .int x2] (PoI K) := by
  refine Ct.of (by decide +kernel) (Nat.le_of_ble_eq_true rfl) (fun Z T => ?_)
  have F := T.F
  unfold f_P_name at h
  show Z (wd c) 0 [(0, .ref x0), (1, .int x1), (2, .int x2)] [] 0 0
  refine g_aload_n F (pc := 0) d_P_name_0 0 rfl ?_
  obtain ⟨o1, h⟩ := h
  refine gc_getR F (pc := 1) d_P_name_1 fi_P_12 o1 (g_iload_n F (pc := 4) d_P_name_4 1 rfl ?_)
  obtain ⟨o2, h⟩ := h
  refine gc_callVI (As := [.int x1]) (st := []) F (pc := 5) d_P_name_5 cb_P_97 iv_Store_has np_Store_has o2 vc_4 (c_Store_has h) rfl (by decide) (Nat.le_refl _) (Nat.le_refl _) (Nat.le_of_ble_eq_true rfl) (fun v4 c3 h => ?_)
  refine g_if_eq (tgt := 20) F (pc := 8) d_P_name_8 (by decide) (fun b5 => ?_) (fun b5 => ?_)
  · replace h := h.1 b5
    refine g_iconst (v := 0) F (pc := 20) d_P_name_20 (by decide) ?_
    exact g_iret T (pc := 21) d_P_name_21 rfl (Nat.le_refl _) (Nat.le_refl _) (poI h)
  · replace h := h.2 b5
    refine g_iload_n F (pc := 11) d_P_name_11 2 rfl ?_
    refine g_if_lt (tgt := 20) F (pc := 12) d_P_name_12 (by decide) (fun b6 => ?_) (fun b6 => ?_)
    · replace h := h.1 b6
      refine g_iconst (v := 0) F (pc := 20) d_P_name_20 (by decide) ?_
      exact g_iret T (pc := 21) d_P_name_21 rfl (Nat.le_refl _) (Nat.le_refl _) (poI h)
    · replace h := h.2 b6
      refine g_iload_n F (pc := 15) d_P_name_15 2 rfl (g_iconst (v := 5) F (pc := 16) d_P_name_16 (by decide) ?_)
      refine g_icmp_lt (tgt := 22) F (pc := 17) d_P_name_17 (by decide) (fun b7 => ?_) (fun b7 => ?_)
      · replace h := h.1 b7
        refine g_aload_n F (pc := 22) d_P_name_22 0 rfl (gc_getR F (pc := 23) d_P_name_23 fi_P_12 o1 (gc_getR F (pc := 26) d_P_name_26 fi_P_101 o2 (g_iload_n F (pc := 29) d_P_name_29 1 rfl ?_)))
        obtain ⟨o8, h⟩ := h
        obtain ⟨o9, h⟩ := h
        refine gc_aald F (pc := 30) d_P_name_30 o8 o9 ?_
        obtain ⟨o10, h⟩ := h
        refine gc_getR F (pc := 31) d_P_name_31 fi_P_141 o10 (g_iload_n F (pc := 34) d_P_name_34 2 rfl ?_)
        obtain ⟨o11, h⟩ := h
        obtain ⟨o12, h⟩ := h
        refine gc_iald F (pc := 35) d_P_name_35 o11 o12 ?_
        exact g_iret T (pc := 36) d_P_name_36 rfl (Nat.le_refl _) (Nat.le_refl _) (poI h)
      · replace h := h.2 b7
        refine g_iconst (v := 0) F (pc := 20) d_P_name_20 (by decide) ?_
        exact g_iret T (pc := 21) d_P_name_21 rfl (Nat.le_refl _) (Nat.le_refl _) (poI h)
theorem d_P_type_0 : decode M_P_type.2.1 0 = .ok (.iload_n 3, 1) := by decide +kernel
theorem d_P_type_1 : decode M_P_type.2.1 1 = .ok (.iconst 1, 1) := by decide +kernel
theorem d_P_type_2 : decode M_P_type.2.1 2 = .ok (.if_icmp .lt 9, 3) := by decide +kernel
theorem d_P_type_5 : decode M_P_type.2.1 5 = .ok (.iload_n 3, 1) := by decide +kernel
theorem d_P_type_6 : decode M_P_type.2.1 6 = .ok (.bipush 8, 2) := by decide +kernel
theorem d_P_type_8 : decode M_P_type.2.1 8 = .ok (.if_icmp .le 5, 3) := by decide +kernel
theorem d_P_type_11 : decode M_P_type.2.1 11 = .ok (.iconst (-1), 1) := by decide +kernel
theorem d_P_type_12 : decode M_P_type.2.1 12 = .ok (.ireturn, 1) := by decide +kernel
theorem d_P_type_13 : decode M_P_type.2.1 13 = .ok (.aload_n 0, 1) := by decide +kernel
theorem d_P_type_14 : decode M_P_type.2.1 14 = .ok (.getfield 21, 3) := by decide +kernel
theorem d_P_type_17 : decode M_P_type.2.1 17 = .ok (.getfield 70, 3) := by decide +kernel
theorem d_P_type_20 : decode M_P_type.2.1 20 = .ok (.iload_n 3, 1) := by decide +kernel
theorem d_P_type_21 : decode M_P_type.2.1 21 = .ok (.iadd, 1) := by decide +kernel
theorem d_P_type_22 : decode M_P_type.2.1 22 = .ok (.bipush 64, 2) := by decide +kernel
theorem d_P_type_24 : decode M_P_type.2.1 24 = .ok (.if_icmp .le 6, 3) := by decide +kernel
theorem d_P_type_27 : decode M_P_type.2.1 27 = .ok (.bipush (-2), 2) := by decide +kernel
theorem d_P_type_29 : decode M_P_type.2.1 29 = .ok (.ireturn, 1) := by decide +kernel
theorem d_P_type_30 : decode M_P_type.2.1 30 = .ok (.iload_n 3, 1) := by decide +kernel
theorem d_P_type_31 : decode M_P_type.2.1 31 = .ok (.iconst 1, 1) := by decide +kernel
theorem d_P_type_32 : decode M_P_type.2.1 32 = .ok (.isub, 1) := by decide +kernel
theorem d_P_type_33 : decode M_P_type.2.1 33 = .ok (.istore 4, 2) := by decide +kernel
theorem d_P_type_35 : decode M_P_type.2.1 35 = .ok (.iload 4, 2) := by decide +kernel
theorem d_P_type_37 : decode M_P_type.2.1 37 = .ok (.ifCond .lt 28, 3) := by decide +kernel
theorem d_P_type_40 : decode M_P_type.2.1 40 = .ok (.aload_n 0, 1) := by decide +kernel
theorem d_P_type_41 : decode M_P_type.2.1 41 = .ok (.getfield 21, 3) := by decide +kernel
theorem d_P_type_44 : decode M_P_type.2.1 44 = .ok (.lload_n 1, 1) := by decide +kernel
theorem d_P_type_45 : decode M_P_type.2.1 45 = .ok (.bipush 8, 2) := by decide +kernel
theorem d_P_type_47 : decode M_P_type.2.1 47 = .ok (.iload 4, 2) := by decide +kernel
theorem d_P_type_49 : decode M_P_type.2.1 49 = .ok (.imul, 1) := by decide +kernel
theorem d_P_type_50 : decode M_P_type.2.1 50 = .ok (.lushr, 1) := by decide +kernel
theorem d_P_type_51 : decode M_P_type.2.1 51 = .ok (.l2i, 1) := by decide +kernel
theorem d_P_type_52 : decode M_P_type.2.1 52 = .ok (.sipush 255, 3) := by decide +kernel
theorem d_P_type_55 : decode M_P_type.2.1 55 = .ok (.iand, 1) := by decide +kernel
theorem d_P_type_56 : decode M_P_type.2.1 56 = .ok (.invokevirtual 73, 3) := by decide +kernel
theorem d_P_type_59 : decode M_P_type.2.1 59 = .ok (.iinc 4 (-1), 3) := by decide +kernel
theorem d_P_type_62 : decode M_P_type.2.1 62 = .ok (.goto (-27), 3) := by decide +kernel
theorem d_P_type_65 : decode M_P_type.2.1 65 = .ok (.aload_n 0, 1) := by decide +kernel
theorem d_P_type_66 : decode M_P_type.2.1 66 = .ok (.getfield 21, 3) := by decide +kernel
theorem d_P_type_69 : decode M_P_type.2.1 69 = .ok (.getfield 70, 3) := by decide +kernel
theorem d_P_type_72 : decode M_P_type.2.1 72 = .ok (.ireturn, 1) := by decide +kernel
def f_P_type (x0 : Nat) (x1 : Int64) (x3 : Int32) (c : cM) (K : Int32 → cM → Prop) : Prop :=
  ((x3 < 1) → (K (-1) c)) ∧ (¬ (x3 < 1) → (((x3 ≤ 8) → (kd x0 = 0 ∧ (kd (rf x0 1) = 1 ∧ (((((c (rf x0 1) 1) + x3) ≤ 64) → (∃ I6 : Nat → Int32 → cM → Prop, (∃ n, I6 n (x3 - 1) c) ∧ ∀ (n7 : Nat) (y10 : Int32) (c11 : cM), I6 n7 y10 c11 → (((y10 < 0) → (K (c11 (rf x0 1) 1) c11)) ∧ (¬ (y10 < 0) → (f_Row_put (rf x0 1) ((Int64.toInt32 (c_lushr x1 (8 * y10))) &&& 255) c11 (fun c13 => ∃ m, m < n7 ∧ I6 m (y10 + (-1)) c13)))))) ∧ (¬ (((c (rf x0 1) 1) + x3) ≤ 64) → (K (-2) c)))))) ∧ (¬ (x3 ≤ 8) → (K (-1) c))))
theorem c_P_type {x0 : Nat} {x1 : Int64} {x3 : Int32} {c : cM} {K : Int32 → cM → Prop} (h : f_P_type x0 x1 x3 c K) : Ct M_P_type 1 0 0 (wd c) [.ref x0, .long x1, .int x3] (PoI K) := by
  refine Ct.of (by decide +kernel) (Nat.le_of_ble_eq_true rfl) (fun Z T => ?_)
  have F := T.F
  unfold f_P_type at h
  show Z (wd c) 0 [(0, .ref x0), (1, .long x1), (3, .int x3)] [] 0 0
  refine g_iload_n F (pc := 0) d_P_type_0 2 rfl (g_iconst (v := 1) F (pc := 1) d_P_type_1 (by decide) ?_)
  refine g_icmp_lt (tgt := 11) F (pc := 2) d_P_type_2 (by decide) (fun b1 => ?_) (fun b1 => ?_)
  · replace h := h.1 b1
    refine g_iconst (v := (-1)) F (pc := 11) d_P_type_11 (by decide) ?_
    exact g_iret T (pc := 12) d_P_type_12 rfl (Nat.le_refl _) (Nat.le_refl _) (poI h)
  · replace h := h.2 b1
    refine g_iload_n F (pc := 5) d_P_type_5 2 rfl (g_bipush (v := 8) F (pc := 6) d_P_type_6 (by decide) ?_)
    refine g_icmp_le (tgt := 13) F (pc := 8) d_P_type_8 (by decide) (fun b2 => ?_) (fun b2 => ?_)
    · replace h := h.1 b2
      refine g_aload_n F (pc := 13) d_P_type_13 0 rfl ?_
      obtain ⟨o3, h⟩ := h
      refine gc_getR F (pc := 14) d_P_type_14 fi_P_21 o3 ?_
      obtain ⟨o4, h⟩ := h
      refine gc_getI F (pc := 17) d_P_type_17 fi_P_70 o4 (g_iload_n F (pc := 20) d_P_type_20 2 rfl (g_iadd F (pc := 21) d_P_type_21 (g_bipush (v := 64) F (pc := 22) d_P_type_22 (by decide) ?_)))
      refine g_icmp_le (tgt := 30) F (pc := 24) d_P_type_24 (by decide) (fun b5 => ?_) (fun b5 => ?_)
      · replace h := h.1 b5
        refine g_iload_n F (pc := 30) d_P_type_30 2 rfl (g_iconst (v := 1) F (pc := 31) d_P_type_31 (by decide) (g_isub F (pc := 32) d_P_type_32 (g_istore (lv' := [(4, .int (x3 - 1)), (0, .ref x0), (1, .long x1), (3, .int x3)]) F (pc := 33) d_P_type_33 (by decide) rfl ?_)))
        refine g_lv (lv' := [(0, .ref x0), (1, .long x1), (4, .int (x3 - 1))]) F [1, 2, 0] rfl ?_
        obtain ⟨I6, ⟨n0, h⟩, hI6⟩ := h
        have lp9 : ∀ (n7 : Nat) (y10 : Int32) (c11 : cM), I6 n7 y10 c11 → Z (wd c11) 35 [(0, .ref x0), (1, .long x1), (4, .int y10)] [] 0 0 := by
          intro n7
          induction n7 using Nat.strongRecOn with
          | _ n7 ih8 =>
            intro y10 c11 h
            replace h := hI6 n7 y10 c11 h
            refine g_iload F (pc := 35) d_P_type_35 2 rfl ?_
            refine g_if_lt (tgt := 65) F (pc := 37) d_P_type_37 (by decide) (fun b12 => ?_) (fun b12 => ?_)
            · replace h := h.1 b12
              refine g_aload_n F (pc := 65) d_P_type_65 0 rfl (gc_getR F (pc := 66) d_P_type_66 fi_P_21 o3 (gc_getI F (pc := 69) d_P_type_69 fi_P_70 o4 ?_))
              exact g_iret T (pc := 72) d_P_type_72 rfl (Nat.le_refl _) (Nat.le_refl _) (poI h)
            · replace h := h.2 b12
              refine g_aload_n F (pc := 40) d_P_type_40 0 rfl (gc_getR F (pc := 41) d_P_type_41 fi_P_21 o3 (g_lload_n F (pc := 44) d_P_type_44 1 rfl (g_bipush (v := 8) F (pc := 45) d_P_type_45 (by decide) (g_iload F (pc := 47) d_P_type_47 2 rfl (g_imul F (pc := 49) d_P_type_49 ?_)))))
              refine g_lushr F (pc := 50) d_P_type_50 (g_l2i F (pc := 51) d_P_type_51 (g_sipush (v := 255) F (pc := 52) d_P_type_52 (by decide) (g_iand F (pc := 55) d_P_type_55 ?_)))
              refine gc_callVV (As := [.int ((Int64.toInt32 (c_lushr x1 (8 * y10))) &&& 255)]) (st := []) F (pc := 56) d_P_type_56 cb_P_73 iv_Row_put np_Row_put o4 vc_1 (c_Row_put h) rfl (by decide) (Nat.le_refl _) (Nat.le_refl _) (Nat.le_of_ble_eq_true rfl) (fun c13 h => ?_)
              refine g_iinc (v := (y10 + (-1))) (lv' := [(4, .int (y10 + (-1))), (0, .ref x0), (1, .long x1)]) F (pc := 59) d_P_type_59 2 rfl (sk_inc (by decide)) (by decide) rfl (g_goto (tgt := 35) F (pc := 62) d_P_type_62 (by decide) ?_)
              refine g_lv (lv' := [(0, .ref x0), (1, .long x1), (4, .int (y10 + (-1)))]) F [1, 2, 0] rfl ?_
              obtain ⟨m, hm, h⟩ := h
              exact ih8 m hm _ _ h
        exact lp9 n0 _ _ h
      · replace h := h.2 b5
        refine g_bipush (v := (-2)) F (pc := 27) d_P_type_27 (by decide) ?_
        exact g_iret T (pc := 29) d_P_type_29 rfl (Nat.le_refl _) (Nat.le_refl _) (poI h)
    · replace h := h.2 b2
      refine g_iconst (v := (-1)) F (pc := 11) d_P_type_11 (by decide) ?_
      exact g_iret T (pc := 12) d_P_type_12 rfl (Nat.le_refl _) (Nat.le_refl _) (poI h)
theorem d_P_branch_0 : decode M_P_branch.2.1 0 = .ok (.iload_n 1, 1) := by decide +kernel
theorem d_P_branch_1 : decode M_P_branch.2.1 1 = .ok (.ifCond .lt 8, 3) := by decide +kernel
theorem d_P_branch_4 : decode M_P_branch.2.1 4 = .ok (.iload_n 1, 1) := by decide +kernel
theorem d_P_branch_5 : decode M_P_branch.2.1 5 = .ok (.iconst 4, 1) := by decide +kernel
theorem d_P_branch_6 : decode M_P_branch.2.1 6 = .ok (.if_icmp .lt 5, 3) := by decide +kernel
theorem d_P_branch_9 : decode M_P_branch.2.1 9 = .ok (.iconst 0, 1) := by decide +kernel
theorem d_P_branch_10 : decode M_P_branch.2.1 10 = .ok (.ireturn, 1) := by decide +kernel
theorem d_P_branch_11 : decode M_P_branch.2.1 11 = .ok (.iload_n 2, 1) := by decide +kernel
theorem d_P_branch_12 : decode M_P_branch.2.1 12 = .ok (.iconst (-1), 1) := by decide +kernel
theorem d_P_branch_13 : decode M_P_branch.2.1 13 = .ok (.if_icmp .eq 17, 3) := by decide +kernel
theorem d_P_branch_16 : decode M_P_branch.2.1 16 = .ok (.aload_n 0, 1) := by decide +kernel
theorem d_P_branch_17 : decode M_P_branch.2.1 17 = .ok (.getfield 12, 3) := by decide +kernel
theorem d_P_branch_20 : decode M_P_branch.2.1 20 = .ok (.iload_n 2, 1) := by decide +kernel
theorem d_P_branch_21 : decode M_P_branch.2.1 21 = .ok (.invokevirtual 93, 3) := by decide +kernel
theorem d_P_branch_24 : decode M_P_branch.2.1 24 = .ok (.iconst 1, 1) := by decide +kernel
theorem d_P_branch_25 : decode M_P_branch.2.1 25 = .ok (.if_icmp .eq 5, 3) := by decide +kernel
theorem d_P_branch_28 : decode M_P_branch.2.1 28 = .ok (.iconst 0, 1) := by decide +kernel
theorem d_P_branch_29 : decode M_P_branch.2.1 29 = .ok (.ireturn, 1) := by decide +kernel
theorem d_P_branch_30 : decode M_P_branch.2.1 30 = .ok (.aload_n 0, 1) := by decide +kernel
theorem d_P_branch_31 : decode M_P_branch.2.1 31 = .ok (.getfield 12, 3) := by decide +kernel
theorem d_P_branch_34 : decode M_P_branch.2.1 34 = .ok (.getfield 129, 3) := by decide +kernel
theorem d_P_branch_37 : decode M_P_branch.2.1 37 = .ok (.iload_n 1, 1) := by decide +kernel
theorem d_P_branch_38 : decode M_P_branch.2.1 38 = .ok (.iload_n 2, 1) := by decide +kernel
theorem d_P_branch_39 : decode M_P_branch.2.1 39 = .ok (.iastore, 1) := by decide +kernel
theorem d_P_branch_40 : decode M_P_branch.2.1 40 = .ok (.iconst 1, 1) := by decide +kernel
theorem d_P_branch_41 : decode M_P_branch.2.1 41 = .ok (.ireturn, 1) := by decide +kernel
def f_P_branch (x0 : Nat) (x1 : Int32) (x2 : Int32) (c : cM) (K : Int32 → cM → Prop) : Prop :=
  ((x1 < 0) → (K 0 c)) ∧ (¬ (x1 < 0) → (((x1 < 4) → (∃ J10 : cM → Prop, (∀ (c9 : cM), J10 c9 → (kd x0 = 0 ∧ (kd (rf x0 0) = 4 ∧ (kd (rf (rf x0 0) 2) = 100 ∧ (vp_in x1 (ln (rf (rf x0 0) 2)) ∧ (∀ c16 : cM, c16 = c_up c9 (rf (rf x0 0) 2) (Int32.toNatClampNeg x1) x2 → (K 1 c16))))))) ∧ (((x2 = (-1)) → (J10 c)) ∧ (¬ (x2 = (-1)) → (kd x0 = 0 ∧ (kd (rf x0 0) = 4 ∧ (f_Store_kindOf (rf x0 0) x2 c (fun v20 c19 => ((v20 = 1) → (J10 c19)) ∧ (¬ (v20 = 1) → (K 0 c19)))))))))) ∧ (¬ (x1 < 4) → (K 0 c))))
theorem c_P_branch {x0 : Nat} {x1 : Int32} {x2 : Int32} {c : cM} {K : Int32 → cM → Prop} (h : f_P_branch x0 x1 x2 c K) : Ct M_P_branch 2 0 0 (wd c) [.ref x0, .int x1, .int x2] (PoI K) := by
  refine Ct.of (by decide +kernel) (Nat.le_of_ble_eq_true rfl) (fun Z T => ?_)
  have F := T.F
  unfold f_P_branch at h
  show Z (wd c) 0 [(0, .ref x0), (1, .int x1), (2, .int x2)] [] 0 0
  refine g_iload_n F (pc := 0) d_P_branch_0 1 rfl ?_
  refine g_if_lt (tgt := 9) F (pc := 1) d_P_branch_1 (by decide) (fun b1 => ?_) (fun b1 => ?_)
  · replace h := h.1 b1
    refine g_iconst (v := 0) F (pc := 9) d_P_branch_9 (by decide) ?_
    exact g_zret T (pc := 10) d_P_branch_10 rfl (by decide) (Nat.le_refl _) (Nat.le_refl _) (poI h)
  · replace h := h.2 b1
    refine g_iload_n F (pc := 4) d_P_branch_4 1 rfl (g_iconst (v := 4) F (pc := 5) d_P_branch_5 (by decide) ?_)
    refine g_icmp_lt (tgt := 11) F (pc := 6) d_P_branch_6 (by decide) (fun b2 => ?_) (fun b2 => ?_)
    · replace h := h.1 b2
      refine g_iload_n F (pc := 11) d_P_branch_11 2 rfl (g_iconst (v := (-1)) F (pc := 12) d_P_branch_12 (by decide) ?_)
      obtain ⟨J10, hJ10, h⟩ := h
      have jn11 : ∀ (c9 : cM), J10 c9 → Z (wd c9) 30 [(0, .ref x0), (1, .int x1), (2, .int x2)] [] 0 0 := by
        intro c9 h
        replace h := hJ10 c9 h
        refine g_aload_n F (pc := 30) d_P_branch_30 0 rfl ?_
        obtain ⟨o12, h⟩ := h
        refine gc_getR F (pc := 31) d_P_branch_31 fi_P_12 o12 ?_
        obtain ⟨o13, h⟩ := h
        refine gc_getR F (pc := 34) d_P_branch_34 fi_P_129 o13 (g_iload_n F (pc := 37) d_P_branch_37 1 rfl (g_iload_n F (pc := 38) d_P_branch_38 2 rfl ?_))
        obtain ⟨o14, h⟩ := h
        obtain ⟨o15, h⟩ := h
        refine gc_iast F (pc := 39) d_P_branch_39 o14 o15 ?_
        obtain ⟨c16, ec16⟩ : ∃ c16 : cM, c16 = c_up c9 (rf (rf x0 0) 2) (Int32.toNatClampNeg x1) x2 := ⟨_, rfl⟩
        rw [← ec16]
        replace h := h c16 ec16
        refine g_iconst (v := 1) F (pc := 40) d_P_branch_40 (by decide) ?_
        exact g_zret T (pc := 41) d_P_branch_41 rfl (by decide) (Nat.le_refl _) (Nat.le_refl _) (poI h)
      refine g_icmp_eq (tgt := 30) F (pc := 13) d_P_branch_13 (by decide) (fun b3 => ?_) (fun b3 => ?_)
      · replace h := h.1 b3
        exact jn11 _ h
      · replace h := h.2 b3
        refine g_aload_n F (pc := 16) d_P_branch_16 0 rfl ?_
        obtain ⟨o17, h⟩ := h
        refine gc_getR F (pc := 17) d_P_branch_17 fi_P_12 o17 (g_iload_n F (pc := 20) d_P_branch_20 2 rfl ?_)
        obtain ⟨o18, h⟩ := h
        refine gc_callVI (As := [.int x2]) (st := []) F (pc := 21) d_P_branch_21 cb_P_93 iv_Store_kindOf np_Store_kindOf o18 vc_4 (c_Store_kindOf h) rfl (by decide) (Nat.le_refl _) (Nat.le_refl _) (Nat.le_of_ble_eq_true rfl) (fun v20 c19 h => ?_)
        refine g_iconst (v := 1) F (pc := 24) d_P_branch_24 (by decide) ?_
        refine g_icmp_eq (tgt := 30) F (pc := 25) d_P_branch_25 (by decide) (fun b21 => ?_) (fun b21 => ?_)
        · replace h := h.1 b21
          exact jn11 _ h
        · replace h := h.2 b21
          refine g_iconst (v := 0) F (pc := 28) d_P_branch_28 (by decide) ?_
          exact g_zret T (pc := 29) d_P_branch_29 rfl (by decide) (Nat.le_refl _) (Nat.le_refl _) (poI h)
    · replace h := h.2 b2
      refine g_iconst (v := 0) F (pc := 9) d_P_branch_9 (by decide) ?_
      exact g_zret T (pc := 10) d_P_branch_10 rfl (by decide) (Nat.le_refl _) (Nat.le_refl _) (poI h)
theorem d_P_held_0 : decode M_P_held.2.1 0 = .ok (.iload_n 1, 1) := by decide +kernel
theorem d_P_held_1 : decode M_P_held.2.1 1 = .ok (.ifCond .lt 21, 3) := by decide +kernel
theorem d_P_held_4 : decode M_P_held.2.1 4 = .ok (.iload_n 1, 1) := by decide +kernel
theorem d_P_held_5 : decode M_P_held.2.1 5 = .ok (.iconst 4, 1) := by decide +kernel
theorem d_P_held_6 : decode M_P_held.2.1 6 = .ok (.if_icmp .ge 16, 3) := by decide +kernel
theorem d_P_held_9 : decode M_P_held.2.1 9 = .ok (.aload_n 0, 1) := by decide +kernel
theorem d_P_held_10 : decode M_P_held.2.1 10 = .ok (.getfield 12, 3) := by decide +kernel
theorem d_P_held_13 : decode M_P_held.2.1 13 = .ok (.getfield 129, 3) := by decide +kernel
theorem d_P_held_16 : decode M_P_held.2.1 16 = .ok (.iload_n 1, 1) := by decide +kernel
theorem d_P_held_17 : decode M_P_held.2.1 17 = .ok (.iaload, 1) := by decide +kernel
theorem d_P_held_18 : decode M_P_held.2.1 18 = .ok (.iconst (-1), 1) := by decide +kernel
theorem d_P_held_19 : decode M_P_held.2.1 19 = .ok (.if_icmp .ne 5, 3) := by decide +kernel
theorem d_P_held_22 : decode M_P_held.2.1 22 = .ok (.iconst (-1), 1) := by decide +kernel
theorem d_P_held_23 : decode M_P_held.2.1 23 = .ok (.ireturn, 1) := by decide +kernel
theorem d_P_held_24 : decode M_P_held.2.1 24 = .ok (.aload_n 0, 1) := by decide +kernel
theorem d_P_held_25 : decode M_P_held.2.1 25 = .ok (.getfield 12, 3) := by decide +kernel
theorem d_P_held_28 : decode M_P_held.2.1 28 = .ok (.getfield 129, 3) := by decide +kernel
theorem d_P_held_31 : decode M_P_held.2.1 31 = .ok (.iload_n 1, 1) := by decide +kernel
theorem d_P_held_32 : decode M_P_held.2.1 32 = .ok (.iaload, 1) := by decide +kernel
theorem d_P_held_33 : decode M_P_held.2.1 33 = .ok (.ireturn, 1) := by decide +kernel
def f_P_held (x0 : Nat) (x1 : Int32) (c : cM) (K : Int32 → cM → Prop) : Prop :=
  ((x1 < 0) → (K (-1) c)) ∧ (¬ (x1 < 0) → (((4 ≤ x1) → (K (-1) c)) ∧ (¬ (4 ≤ x1) → (kd x0 = 0 ∧ (kd (rf x0 0) = 4 ∧ (kd (rf (rf x0 0) 2) = 100 ∧ (vp_in x1 (ln (rf (rf x0 0) 2)) ∧ (((¬ (c (rf (rf x0 0) 2) (Int32.toNatClampNeg x1)) = (-1)) → (K (c (rf (rf x0 0) 2) (Int32.toNatClampNeg x1)) c)) ∧ ((c (rf (rf x0 0) 2) (Int32.toNatClampNeg x1)) = (-1) → (K (-1) c))))))))))
theorem c_P_held {x0 : Nat} {x1 : Int32} {c : cM} {K : Int32 → cM → Prop} (h : f_P_held x0 x1 c K) : Ct M_P_held 0 0 0 (wd c) [.ref x0, .int x1] (PoI K) := by
  refine Ct.of (by decide +kernel) (Nat.le_of_ble_eq_true rfl) (fun Z T => ?_)
  have F := T.F
  unfold f_P_held at h
  show Z (wd c) 0 [(0, .ref x0), (1, .int x1)] [] 0 0
  refine g_iload_n F (pc := 0) d_P_held_0 1 rfl ?_
  refine g_if_lt (tgt := 22) F (pc := 1) d_P_held_1 (by decide) (fun b1 => ?_) (fun b1 => ?_)
  · replace h := h.1 b1
    refine g_iconst (v := (-1)) F (pc := 22) d_P_held_22 (by decide) ?_
    exact g_iret T (pc := 23) d_P_held_23 rfl (Nat.le_refl _) (Nat.le_refl _) (poI h)
  · replace h := h.2 b1
    refine g_iload_n F (pc := 4) d_P_held_4 1 rfl (g_iconst (v := 4) F (pc := 5) d_P_held_5 (by decide) ?_)
    refine g_icmp_ge (tgt := 22) F (pc := 6) d_P_held_6 (by decide) (fun b2 => ?_) (fun b2 => ?_)
    · replace h := h.1 b2
      refine g_iconst (v := (-1)) F (pc := 22) d_P_held_22 (by decide) ?_
      exact g_iret T (pc := 23) d_P_held_23 rfl (Nat.le_refl _) (Nat.le_refl _) (poI h)
    · replace h := h.2 b2
      refine g_aload_n F (pc := 9) d_P_held_9 0 rfl ?_
      obtain ⟨o3, h⟩ := h
      refine gc_getR F (pc := 10) d_P_held_10 fi_P_12 o3 ?_
      obtain ⟨o4, h⟩ := h
      refine gc_getR F (pc := 13) d_P_held_13 fi_P_129 o4 (g_iload_n F (pc := 16) d_P_held_16 1 rfl ?_)
      obtain ⟨o5, h⟩ := h
      obtain ⟨o6, h⟩ := h
      refine gc_iald F (pc := 17) d_P_held_17 o5 o6 (g_iconst (v := (-1)) F (pc := 18) d_P_held_18 (by decide) ?_)
      refine g_icmp_ne (tgt := 24) F (pc := 19) d_P_held_19 (by decide) (fun b7 => ?_) (fun b7 => ?_)
      · replace h := h.1 b7
        refine g_aload_n F (pc := 24) d_P_held_24 0 rfl (gc_getR F (pc := 25) d_P_held_25 fi_P_12 o3 (gc_getR F (pc := 28) d_P_held_28 fi_P_129 o4 (g_iload_n F (pc := 31) d_P_held_31 1 rfl (gc_iald F (pc := 32) d_P_held_32 o5 o6 ?_))))
        exact g_iret T (pc := 33) d_P_held_33 rfl (Nat.le_refl _) (Nat.le_refl _) (poI h)
      · replace h := h.2 b7
        refine g_iconst (v := (-1)) F (pc := 22) d_P_held_22 (by decide) ?_
        exact g_iret T (pc := 23) d_P_held_23 rfl (Nat.le_refl _) (Nat.le_refl _) (poI h)
theorem d_P_pack_0 : decode M_P_pack.2.1 0 = .ok (.aload_n 0, 1) := by decide +kernel
theorem d_P_pack_1 : decode M_P_pack.2.1 1 = .ok (.getfield 59, 3) := by decide +kernel
theorem d_P_pack_4 : decode M_P_pack.2.1 4 = .ok (.aload_n 0, 1) := by decide +kernel
theorem d_P_pack_5 : decode M_P_pack.2.1 5 = .ok (.getfield 12, 3) := by decide +kernel
theorem d_P_pack_8 : decode M_P_pack.2.1 8 = .ok (.aload_n 0, 1) := by decide +kernel
theorem d_P_pack_9 : decode M_P_pack.2.1 9 = .ok (.getfield 39, 3) := by decide +kernel
theorem d_P_pack_12 : decode M_P_pack.2.1 12 = .ok (.invokevirtual 151, 3) := by decide +kernel
theorem d_P_pack_15 : decode M_P_pack.2.1 15 = .ok (.aload_n 0, 1) := by decide +kernel
theorem d_P_pack_16 : decode M_P_pack.2.1 16 = .ok (.getfield 45, 3) := by decide +kernel
theorem d_P_pack_19 : decode M_P_pack.2.1 19 = .ok (.aload_n 0, 1) := by decide +kernel
theorem d_P_pack_20 : decode M_P_pack.2.1 20 = .ok (.getfield 39, 3) := by decide +kernel
theorem d_P_pack_23 : decode M_P_pack.2.1 23 = .ok (.aload_n 0, 1) := by decide +kernel
theorem d_P_pack_24 : decode M_P_pack.2.1 24 = .ok (.getfield 39, 3) := by decide +kernel
theorem d_P_pack_27 : decode M_P_pack.2.1 27 = .ok (.getfield 70, 3) := by decide +kernel
theorem d_P_pack_30 : decode M_P_pack.2.1 30 = .ok (.invokevirtual 155, 3) := by decide +kernel
theorem d_P_pack_33 : decode M_P_pack.2.1 33 = .ok (.aload_n 0, 1) := by decide +kernel
theorem d_P_pack_34 : decode M_P_pack.2.1 34 = .ok (.getfield 39, 3) := by decide +kernel
theorem d_P_pack_37 : decode M_P_pack.2.1 37 = .ok (.aload_n 0, 1) := by decide +kernel
theorem d_P_pack_38 : decode M_P_pack.2.1 38 = .ok (.getfield 45, 3) := by decide +kernel
theorem d_P_pack_41 : decode M_P_pack.2.1 41 = .ok (.getfield 159, 3) := by decide +kernel
theorem d_P_pack_44 : decode M_P_pack.2.1 44 = .ok (.invokevirtual 162, 3) := by decide +kernel
theorem d_P_pack_47 : decode M_P_pack.2.1 47 = .ok (.aload_n 0, 1) := by decide +kernel
theorem d_P_pack_48 : decode M_P_pack.2.1 48 = .ok (.getfield 39, 3) := by decide +kernel
theorem d_P_pack_51 : decode M_P_pack.2.1 51 = .ok (.getfield 70, 3) := by decide +kernel
theorem d_P_pack_54 : decode M_P_pack.2.1 54 = .ok (.ireturn, 1) := by decide +kernel
def f_P_pack (x0 : Nat) (c : cM) (K : Int32 → cM → Prop) : Prop :=
  kd x0 = 0 ∧ (kd (rf x0 7) = 5 ∧ (f_Wri_writeAll (rf x0 7) (rf x0 0) (rf x0 4) c (fun c3 => kd (rf x0 4) = 1 ∧ (kd (rf x0 5) = 2 ∧ (f_Sum_ofRow (rf x0 5) (rf x0 4) (c3 (rf x0 4) 1) c3 (fun c6 => f_Row_putInts (rf x0 4) (rf (rf x0 5) 0) c6 (fun c7 => K (c7 (rf x0 4) 1) c7)))))))
theorem c_P_pack {x0 : Nat} {c : cM} {K : Int32 → cM → Prop} (h : f_P_pack x0 c K) : Ct M_P_pack 7 0 0 (wd c) [.ref x0] (PoI K) := by
  refine Ct.of (by decide +kernel) (Nat.le_of_ble_eq_true rfl) (fun Z T => ?_)
  have F := T.F
  unfold f_P_pack at h
  show Z (wd c) 0 [(0, .ref x0)] [] 0 0
  refine g_aload_n F (pc := 0) d_P_pack_0 0 rfl ?_
  obtain ⟨o1, h⟩ := h
  refine gc_getR F (pc := 1) d_P_pack_1 fi_P_59 o1 (g_aload_n F (pc := 4) d_P_pack_4 0 rfl (gc_getR F (pc := 5) d_P_pack_5 fi_P_12 o1 (g_aload_n F (pc := 8) d_P_pack_8 0 rfl (gc_getR F (pc := 9) d_P_pack_9 fi_P_39 o1 ?_))))
  obtain ⟨o2, h⟩ := h
  refine gc_callVV (As := [.ref (rf x0 0), .ref (rf x0 4)]) (st := []) F (pc := 12) d_P_pack_12 cb_P_151 iv_Wri_writeAll np_Wri_writeAll o2 vc_5 (c_Wri_writeAll h) rfl (by decide) (Nat.le_refl _) (Nat.le_refl _) (Nat.le_of_ble_eq_true rfl) (fun c3 h => ?_)
  refine g_aload_n F (pc := 15) d_P_pack_15 0 rfl (gc_getR F (pc := 16) d_P_pack_16 fi_P_45 o1 (g_aload_n F (pc := 19) d_P_pack_19 0 rfl (gc_getR F (pc := 20) d_P_pack_20 fi_P_39 o1 (g_aload_n F (pc := 23) d_P_pack_23 0 rfl (gc_getR F (pc := 24) d_P_pack_24 fi_P_39 o1 ?_)))))
  obtain ⟨o4, h⟩ := h
  refine gc_getI F (pc := 27) d_P_pack_27 fi_P_70 o4 ?_
  obtain ⟨o5, h⟩ := h
  refine gc_callVV (As := [.ref (rf x0 4), .int (c3 (rf x0 4) 1)]) (st := []) F (pc := 30) d_P_pack_30 cb_P_155 iv_Sum_ofRow np_Sum_ofRow o5 vc_2 (c_Sum_ofRow h) rfl (by decide) (Nat.le_refl _) (Nat.le_refl _) (Nat.le_of_ble_eq_true rfl) (fun c6 h => ?_)
  refine g_aload_n F (pc := 33) d_P_pack_33 0 rfl (gc_getR F (pc := 34) d_P_pack_34 fi_P_39 o1 (g_aload_n F (pc := 37) d_P_pack_37 0 rfl (gc_getR F (pc := 38) d_P_pack_38 fi_P_45 o1 (gc_getR F (pc := 41) d_P_pack_41 fi_P_159 o5 ?_))))
  refine gc_callVV (As := [.ref (rf (rf x0 5) 0)]) (st := []) F (pc := 44) d_P_pack_44 cb_P_162 iv_Row_putInts np_Row_putInts o4 vc_1 (c_Row_putInts h) rfl (by decide) (Nat.le_refl _) (Nat.le_refl _) (Nat.le_of_ble_eq_true rfl) (fun c7 h => ?_)
  refine g_aload_n F (pc := 47) d_P_pack_47 0 rfl (gc_getR F (pc := 48) d_P_pack_48 fi_P_39 o1 (gc_getI F (pc := 51) d_P_pack_51 fi_P_70 o4 ?_))
  exact g_iret T (pc := 54) d_P_pack_54 rfl (Nat.le_refl _) (Nat.le_refl _) (poI h)
theorem d_P_dropDraft_0 : decode M_P_dropDraft.2.1 0 = .ok (.aload_n 0, 1) := by decide +kernel
theorem d_P_dropDraft_1 : decode M_P_dropDraft.2.1 1 = .ok (.getfield 25, 3) := by decide +kernel
theorem d_P_dropDraft_4 : decode M_P_dropDraft.2.1 4 = .ok (.iconst (-1), 1) := by decide +kernel
theorem d_P_dropDraft_5 : decode M_P_dropDraft.2.1 5 = .ok (.invokestatic 29, 3) := by decide +kernel
theorem d_P_dropDraft_8 : decode M_P_dropDraft.2.1 8 = .ok (.aload_n 0, 1) := by decide +kernel
theorem d_P_dropDraft_9 : decode M_P_dropDraft.2.1 9 = .ok (.iconst 0, 1) := by decide +kernel
theorem d_P_dropDraft_10 : decode M_P_dropDraft.2.1 10 = .ok (.putfield 35, 3) := by decide +kernel
theorem d_P_dropDraft_13 : decode M_P_dropDraft.2.1 13 = .ok (.return_, 1) := by decide +kernel
def f_P_dropDraft (x0 : Nat) (c : cM) (K : cM → Prop) : Prop :=
  kd x0 = 0 ∧ (f_JArr_fill (rf x0 2) (-1) c (fun c2 => ∀ c3 : cM, c3 = c_up c2 x0 3 0 → (K c3)))
theorem c_P_dropDraft {x0 : Nat} {c : cM} {K : cM → Prop} (h : f_P_dropDraft x0 c K) : Ct M_P_dropDraft 1 0 0 (wd c) [.ref x0] (PoV K) := by
  refine Ct.of (by decide +kernel) (Nat.le_of_ble_eq_true rfl) (fun Z T => ?_)
  have F := T.F
  unfold f_P_dropDraft at h
  show Z (wd c) 0 [(0, .ref x0)] [] 0 0
  refine g_aload_n F (pc := 0) d_P_dropDraft_0 0 rfl ?_
  obtain ⟨o1, h⟩ := h
  refine gc_getR F (pc := 1) d_P_dropDraft_1 fi_P_25 o1 (g_iconst (v := (-1)) F (pc := 4) d_P_dropDraft_4 (by decide) ?_)
  refine gc_callSV (As := [.ref (rf x0 2), .int (-1)]) (st := []) F (pc := 5) d_P_dropDraft_5 cb_P_29 iv_JArr_fill np_JArr_fill (c_JArr_fill h) rfl (by decide) (Nat.le_refl _) (Nat.le_refl _) (Nat.le_of_ble_eq_true rfl) (fun c2 h => ?_)
  refine g_aload_n F (pc := 8) d_P_dropDraft_8 0 rfl (g_iconst (v := 0) F (pc := 9) d_P_dropDraft_9 (by decide) (gc_putI F (pc := 10) d_P_dropDraft_10 pi_P_35 o1 ?_))
  obtain ⟨c3, ec3⟩ : ∃ c3 : cM, c3 = c_up c2 x0 3 0 := ⟨_, rfl⟩
  rw [← ec3]
  replace h := h c3 ec3
  exact g_vret T (pc := 13) d_P_dropDraft_13 rfl (Nat.le_refl _) (Nat.le_refl _) (poV h)
theorem d_P_seal_0 : decode M_P_seal.2.1 0 = .ok (.aload_n 0, 1) := by decide +kernel
theorem d_P_seal_1 : decode M_P_seal.2.1 1 = .ok (.getfield 39, 3) := by decide +kernel
theorem d_P_seal_4 : decode M_P_seal.2.1 4 = .ok (.getfield 70, 3) := by decide +kernel
theorem d_P_seal_7 : decode M_P_seal.2.1 7 = .ok (.bipush 20, 2) := by decide +kernel
theorem d_P_seal_9 : decode M_P_seal.2.1 9 = .ok (.if_icmp .ge 5, 3) := by decide +kernel
theorem d_P_seal_12 : decode M_P_seal.2.1 12 = .ok (.iconst 0, 1) := by decide +kernel
theorem d_P_seal_13 : decode M_P_seal.2.1 13 = .ok (.ireturn, 1) := by decide +kernel
theorem d_P_seal_14 : decode M_P_seal.2.1 14 = .ok (.aload_n 0, 1) := by decide +kernel
theorem d_P_seal_15 : decode M_P_seal.2.1 15 = .ok (.getfield 39, 3) := by decide +kernel
theorem d_P_seal_18 : decode M_P_seal.2.1 18 = .ok (.dup, 1) := by decide +kernel
theorem d_P_seal_19 : decode M_P_seal.2.1 19 = .ok (.getfield 70, 3) := by decide +kernel
theorem d_P_seal_22 : decode M_P_seal.2.1 22 = .ok (.bipush 20, 2) := by decide +kernel
theorem d_P_seal_24 : decode M_P_seal.2.1 24 = .ok (.isub, 1) := by decide +kernel
theorem d_P_seal_25 : decode M_P_seal.2.1 25 = .ok (.putfield 70, 3) := by decide +kernel
theorem d_P_seal_28 : decode M_P_seal.2.1 28 = .ok (.aload_n 0, 1) := by decide +kernel
theorem d_P_seal_29 : decode M_P_seal.2.1 29 = .ok (.getfield 45, 3) := by decide +kernel
theorem d_P_seal_32 : decode M_P_seal.2.1 32 = .ok (.aload_n 0, 1) := by decide +kernel
theorem d_P_seal_33 : decode M_P_seal.2.1 33 = .ok (.getfield 39, 3) := by decide +kernel
theorem d_P_seal_36 : decode M_P_seal.2.1 36 = .ok (.aload_n 0, 1) := by decide +kernel
theorem d_P_seal_37 : decode M_P_seal.2.1 37 = .ok (.getfield 39, 3) := by decide +kernel
theorem d_P_seal_40 : decode M_P_seal.2.1 40 = .ok (.getfield 70, 3) := by decide +kernel
theorem d_P_seal_43 : decode M_P_seal.2.1 43 = .ok (.invokevirtual 155, 3) := by decide +kernel
theorem d_P_seal_46 : decode M_P_seal.2.1 46 = .ok (.aload_n 0, 1) := by decide +kernel
theorem d_P_seal_47 : decode M_P_seal.2.1 47 = .ok (.getfield 39, 3) := by decide +kernel
theorem d_P_seal_50 : decode M_P_seal.2.1 50 = .ok (.aload_n 0, 1) := by decide +kernel
theorem d_P_seal_51 : decode M_P_seal.2.1 51 = .ok (.getfield 45, 3) := by decide +kernel
theorem d_P_seal_54 : decode M_P_seal.2.1 54 = .ok (.getfield 159, 3) := by decide +kernel
theorem d_P_seal_57 : decode M_P_seal.2.1 57 = .ok (.invokevirtual 162, 3) := by decide +kernel
theorem d_P_seal_60 : decode M_P_seal.2.1 60 = .ok (.iconst 1, 1) := by decide +kernel
theorem d_P_seal_61 : decode M_P_seal.2.1 61 = .ok (.ireturn, 1) := by decide +kernel
def f_P_seal (x0 : Nat) (c : cM) (K : Int32 → cM → Prop) : Prop :=
  kd x0 = 0 ∧ (kd (rf x0 4) = 1 ∧ (((20 ≤ (c (rf x0 4) 1)) → (∀ c4 : cM, c4 = c_up c (rf x0 4) 1 ((c (rf x0 4) 1) - 20) → (kd (rf x0 5) = 2 ∧ (f_Sum_ofRow (rf x0 5) (rf x0 4) (c4 (rf x0 4) 1) c4 (fun c6 => f_Row_putInts (rf x0 4) (rf (rf x0 5) 0) c6 (fun c7 => K 1 c7)))))) ∧ (¬ (20 ≤ (c (rf x0 4) 1)) → (K 0 c))))
theorem c_P_seal {x0 : Nat} {c : cM} {K : Int32 → cM → Prop} (h : f_P_seal x0 c K) : Ct M_P_seal 5 0 0 (wd c) [.ref x0] (PoI K) := by
  refine Ct.of (by decide +kernel) (Nat.le_of_ble_eq_true rfl) (fun Z T => ?_)
  have F := T.F
  unfold f_P_seal at h
  show Z (wd c) 0 [(0, .ref x0)] [] 0 0
  refine g_aload_n F (pc := 0) d_P_seal_0 0 rfl ?_
  obtain ⟨o1, h⟩ := h
  refine gc_getR F (pc := 1) d_P_seal_1 fi_P_39 o1 ?_
  obtain ⟨o2, h⟩ := h
  refine gc_getI F (pc := 4) d_P_seal_4 fi_P_70 o2 (g_bipush (v := 20) F (pc := 7) d_P_seal_7 (by decide) ?_)
  refine g_icmp_ge (tgt := 14) F (pc := 9) d_P_seal_9 (by decide) (fun b3 => ?_) (fun b3 => ?_)
  · replace h := h.1 b3
    refine g_aload_n F (pc := 14) d_P_seal_14 0 rfl (gc_getR F (pc := 15) d_P_seal_15 fi_P_39 o1 (g_dup F (pc := 18) d_P_seal_18 rfl (gc_getI F (pc := 19) d_P_seal_19 fi_P_70 o2 (g_bipush (v := 20) F (pc := 22) d_P_seal_22 (by decide) (g_isub F (pc := 24) d_P_seal_24 ?_)))))
    refine gc_putI F (pc := 25) d_P_seal_25 pi_P_70 o2 ?_
    obtain ⟨c4, ec4⟩ : ∃ c4 : cM, c4 = c_up c (rf x0 4) 1 ((c (rf x0 4) 1) - 20) := ⟨_, rfl⟩
    rw [← ec4]
    replace h := h c4 ec4
    refine g_aload_n F (pc := 28) d_P_seal_28 0 rfl (gc_getR F (pc := 29) d_P_seal_29 fi_P_45 o1 (g_aload_n F (pc := 32) d_P_seal_32 0 rfl (gc_getR F (pc := 33) d_P_seal_33 fi_P_39 o1 (g_aload_n F (pc := 36) d_P_seal_36 0 rfl (gc_getR F (pc := 37) d_P_seal_37 fi_P_39 o1 ?_)))))
    refine gc_getI F (pc := 40) d_P_seal_40 fi_P_70 o2 ?_
    obtain ⟨o5, h⟩ := h
    refine gc_callVV (As := [.ref (rf x0 4), .int (c4 (rf x0 4) 1)]) (st := []) F (pc := 43) d_P_seal_43 cb_P_155 iv_Sum_ofRow np_Sum_ofRow o5 vc_2 (c_Sum_ofRow h) rfl (by decide) (Nat.le_refl _) (Nat.le_refl _) (Nat.le_of_ble_eq_true rfl) (fun c6 h => ?_)
    refine g_aload_n F (pc := 46) d_P_seal_46 0 rfl (gc_getR F (pc := 47) d_P_seal_47 fi_P_39 o1 (g_aload_n F (pc := 50) d_P_seal_50 0 rfl (gc_getR F (pc := 51) d_P_seal_51 fi_P_45 o1 (gc_getR F (pc := 54) d_P_seal_54 fi_P_159 o5 ?_))))
    refine gc_callVV (As := [.ref (rf (rf x0 5) 0)]) (st := []) F (pc := 57) d_P_seal_57 cb_P_162 iv_Row_putInts np_Row_putInts o2 vc_1 (c_Row_putInts h) rfl (by decide) (Nat.le_refl _) (Nat.le_refl _) (Nat.le_of_ble_eq_true rfl) (fun c7 h => ?_)
    refine g_iconst (v := 1) F (pc := 60) d_P_seal_60 (by decide) ?_
    exact g_zret T (pc := 61) d_P_seal_61 rfl (by decide) (Nat.le_refl _) (Nat.le_refl _) (poI h)
  · replace h := h.2 b3
    refine g_iconst (v := 0) F (pc := 12) d_P_seal_12 (by decide) ?_
    exact g_zret T (pc := 13) d_P_seal_13 rfl (by decide) (Nat.le_refl _) (Nat.le_refl _) (poI h)
theorem d_P_lookAtEnds_0 : decode M_P_lookAtEnds.2.1 0 = .ok (.aload_n 0, 1) := by decide +kernel
theorem d_P_lookAtEnds_1 : decode M_P_lookAtEnds.2.1 1 = .ok (.getfield 39, 3) := by decide +kernel
theorem d_P_lookAtEnds_4 : decode M_P_lookAtEnds.2.1 4 = .ok (.getfield 70, 3) := by decide +kernel
theorem d_P_lookAtEnds_7 : decode M_P_lookAtEnds.2.1 7 = .ok (.bipush 32, 2) := by decide +kernel
theorem d_P_lookAtEnds_9 : decode M_P_lookAtEnds.2.1 9 = .ok (.if_icmp .ge 6, 3) := by decide +kernel
theorem d_P_lookAtEnds_12 : decode M_P_lookAtEnds.2.1 12 = .ok (.bipush (-3), 2) := by decide +kernel
theorem d_P_lookAtEnds_14 : decode M_P_lookAtEnds.2.1 14 = .ok (.ireturn, 1) := by decide +kernel
theorem d_P_lookAtEnds_15 : decode M_P_lookAtEnds.2.1 15 = .ok (.aload_n 0, 1) := by decide +kernel
theorem d_P_lookAtEnds_16 : decode M_P_lookAtEnds.2.1 16 = .ok (.getfield 39, 3) := by decide +kernel
theorem d_P_lookAtEnds_19 : decode M_P_lookAtEnds.2.1 19 = .ok (.iconst 0, 1) := by decide +kernel
theorem d_P_lookAtEnds_20 : decode M_P_lookAtEnds.2.1 20 = .ok (.invokevirtual 191, 3) := by decide +kernel
theorem d_P_lookAtEnds_23 : decode M_P_lookAtEnds.2.1 23 = .ok (.ldc 194, 2) := by decide +kernel
theorem d_P_lookAtEnds_25 : decode M_P_lookAtEnds.2.1 25 = .ok (.if_icmp .ne 15, 3) := by decide +kernel
theorem d_P_lookAtEnds_28 : decode M_P_lookAtEnds.2.1 28 = .ok (.aload_n 0, 1) := by decide +kernel
theorem d_P_lookAtEnds_29 : decode M_P_lookAtEnds.2.1 29 = .ok (.getfield 39, 3) := by decide +kernel
theorem d_P_lookAtEnds_32 : decode M_P_lookAtEnds.2.1 32 = .ok (.iconst 4, 1) := by decide +kernel
theorem d_P_lookAtEnds_33 : decode M_P_lookAtEnds.2.1 33 = .ok (.invokevirtual 191, 3) := by decide +kernel
theorem d_P_lookAtEnds_36 : decode M_P_lookAtEnds.2.1 36 = .ok (.iconst 2, 1) := by decide +kernel
theorem d_P_lookAtEnds_37 : decode M_P_lookAtEnds.2.1 37 = .ok (.if_icmp .eq 6, 3) := by decide +kernel
theorem d_P_lookAtEnds_40 : decode M_P_lookAtEnds.2.1 40 = .ok (.bipush (-3), 2) := by decide +kernel
theorem d_P_lookAtEnds_42 : decode M_P_lookAtEnds.2.1 42 = .ok (.ireturn, 1) := by decide +kernel
theorem d_P_lookAtEnds_43 : decode M_P_lookAtEnds.2.1 43 = .ok (.aload_n 0, 1) := by decide +kernel
theorem d_P_lookAtEnds_44 : decode M_P_lookAtEnds.2.1 44 = .ok (.getfield 39, 3) := by decide +kernel
theorem d_P_lookAtEnds_47 : decode M_P_lookAtEnds.2.1 47 = .ok (.getfield 70, 3) := by decide +kernel
theorem d_P_lookAtEnds_50 : decode M_P_lookAtEnds.2.1 50 = .ok (.bipush 20, 2) := by decide +kernel
theorem d_P_lookAtEnds_52 : decode M_P_lookAtEnds.2.1 52 = .ok (.isub, 1) := by decide +kernel
theorem d_P_lookAtEnds_53 : decode M_P_lookAtEnds.2.1 53 = .ok (.istore_n 1, 1) := by decide +kernel
theorem d_P_lookAtEnds_54 : decode M_P_lookAtEnds.2.1 54 = .ok (.aload_n 0, 1) := by decide +kernel
theorem d_P_lookAtEnds_55 : decode M_P_lookAtEnds.2.1 55 = .ok (.getfield 45, 3) := by decide +kernel
theorem d_P_lookAtEnds_58 : decode M_P_lookAtEnds.2.1 58 = .ok (.aload_n 0, 1) := by decide +kernel
theorem d_P_lookAtEnds_59 : decode M_P_lookAtEnds.2.1 59 = .ok (.getfield 39, 3) := by decide +kernel
theorem d_P_lookAtEnds_62 : decode M_P_lookAtEnds.2.1 62 = .ok (.iload_n 1, 1) := by decide +kernel
theorem d_P_lookAtEnds_63 : decode M_P_lookAtEnds.2.1 63 = .ok (.invokevirtual 155, 3) := by decide +kernel
theorem d_P_lookAtEnds_66 : decode M_P_lookAtEnds.2.1 66 = .ok (.aload_n 0, 1) := by decide +kernel
theorem d_P_lookAtEnds_67 : decode M_P_lookAtEnds.2.1 67 = .ok (.getfield 39, 3) := by decide +kernel
theorem d_P_lookAtEnds_70 : decode M_P_lookAtEnds.2.1 70 = .ok (.iload_n 1, 1) := by decide +kernel
theorem d_P_lookAtEnds_71 : decode M_P_lookAtEnds.2.1 71 = .ok (.aload_n 0, 1) := by decide +kernel
theorem d_P_lookAtEnds_72 : decode M_P_lookAtEnds.2.1 72 = .ok (.getfield 45, 3) := by decide +kernel
theorem d_P_lookAtEnds_75 : decode M_P_lookAtEnds.2.1 75 = .ok (.getfield 159, 3) := by decide +kernel
theorem d_P_lookAtEnds_78 : decode M_P_lookAtEnds.2.1 78 = .ok (.invokevirtual 195, 3) := by decide +kernel
theorem d_P_lookAtEnds_81 : decode M_P_lookAtEnds.2.1 81 = .ok (.ifCond .ne 6, 3) := by decide +kernel
theorem d_P_lookAtEnds_84 : decode M_P_lookAtEnds.2.1 84 = .ok (.bipush (-4), 2) := by decide +kernel
theorem d_P_lookAtEnds_86 : decode M_P_lookAtEnds.2.1 86 = .ok (.ireturn, 1) := by decide +kernel
theorem d_P_lookAtEnds_87 : decode M_P_lookAtEnds.2.1 87 = .ok (.aload_n 0, 1) := by decide +kernel
theorem d_P_lookAtEnds_88 : decode M_P_lookAtEnds.2.1 88 = .ok (.getfield 39, 3) := by decide +kernel
theorem d_P_lookAtEnds_91 : decode M_P_lookAtEnds.2.1 91 = .ok (.bipush 8, 2) := by decide +kernel
theorem d_P_lookAtEnds_93 : decode M_P_lookAtEnds.2.1 93 = .ok (.invokevirtual 191, 3) := by decide +kernel
theorem d_P_lookAtEnds_96 : decode M_P_lookAtEnds.2.1 96 = .ok (.istore_n 2, 1) := by decide +kernel
theorem d_P_lookAtEnds_97 : decode M_P_lookAtEnds.2.1 97 = .ok (.iload_n 2, 1) := by decide +kernel
theorem d_P_lookAtEnds_98 : decode M_P_lookAtEnds.2.1 98 = .ok (.ifCond .lt 9, 3) := by decide +kernel
theorem d_P_lookAtEnds_101 : decode M_P_lookAtEnds.2.1 101 = .ok (.iload_n 2, 1) := by decide +kernel
theorem d_P_lookAtEnds_102 : decode M_P_lookAtEnds.2.1 102 = .ok (.bipush 16, 2) := by decide +kernel
theorem d_P_lookAtEnds_104 : decode M_P_lookAtEnds.2.1 104 = .ok (.if_icmp .le 8, 3) := by decide +kernel
theorem d_P_lookAtEnds_107 : decode M_P_lookAtEnds.2.1 107 = .ok (.bipush (-2), 2) := by decide +kernel
theorem d_P_lookAtEnds_109 : decode M_P_lookAtEnds.2.1 109 = .ok (.goto 4, 3) := by decide +kernel
theorem d_P_lookAtEnds_112 : decode M_P_lookAtEnds.2.1 112 = .ok (.iconst 0, 1) := by decide +kernel
theorem d_P_lookAtEnds_113 : decode M_P_lookAtEnds.2.1 113 = .ok (.ireturn, 1) := by decide +kernel
def f_P_lookAtEnds (x0 : Nat) (c : cM) (K : Int32 → cM → Prop) : Prop :=
  kd x0 = 0 ∧ (kd (rf x0 4) = 1 ∧ (((32 ≤ (c (rf x0 4) 1)) → (f_Row_intAt (rf x0 4) 0 c (fun v5 c4 => ((¬ v5 = 1346454347) → (K (-3) c4)) ∧ (v5 = 1346454347 → (f_Row_intAt (rf x0 4) 4 c4 (fun v8 c7 => ((v8 = 2) → (kd (rf x0 5) = 2 ∧ (f_Sum_ofRow (rf x0 5) (rf x0 4) ((c7 (rf x0 4) 1) - 20) c7 (fun c11 => f_Row_hasInts (rf x0 4) ((c7 (rf x0 4) 1) - 20) (rf (rf x0 5) 0) c11 (fun v13 c12 => ((¬ v13 = 0) → (f_Row_intAt (rf x0 4) 8 c12 (fun v16 c15 => ∃ J19 : Prop, (J19  → (K (-2) c15)) ∧ (((v16 < 0) → (J19)) ∧ (¬ (v16 < 0) → (((v16 ≤ 16) → (K 0 c15)) ∧ (¬ (v16 ≤ 16) → (J19)))))))) ∧ (v13 = 0 → (K (-4) c12))))))) ∧ (¬ (v8 = 2) → (K (-3) c7)))))))) ∧ (¬ (32 ≤ (c (rf x0 4) 1)) → (K (-3) c))))
theorem c_P_lookAtEnds {x0 : Nat} {c : cM} {K : Int32 → cM → Prop} (h : f_P_lookAtEnds x0 c K) : Ct M_P_lookAtEnds 5 0 0 (wd c) [.ref x0] (PoI K) := by
  refine Ct.of (by decide +kernel) (Nat.le_of_ble_eq_true rfl) (fun Z T => ?_)
  have F := T.F
  unfold f_P_lookAtEnds at h
  show Z (wd c) 0 [(0, .ref x0)] [] 0 0
  refine g_aload_n F (pc := 0) d_P_lookAtEnds_0 0 rfl ?_
  obtain ⟨o1, h⟩ := h
  refine gc_getR F (pc := 1) d_P_lookAtEnds_1 fi_P_39 o1 ?_
  obtain ⟨o2, h⟩ := h
  refine gc_getI F (pc := 4) d_P_lookAtEnds_4 fi_P_70 o2 (g_bipush (v := 32) F (pc := 7) d_P_lookAtEnds_7 (by decide) ?_)
  refine g_icmp_ge (tgt := 15) F (pc := 9) d_P_lookAtEnds_9 (by decide) (fun b3 => ?_) (fun b3 => ?_)
  · replace h := h.1 b3
    refine g_aload_n F (pc := 15) d_P_lookAtEnds_15 0 rfl (gc_getR F (pc := 16) d_P_lookAtEnds_16 fi_P_39 o1 (g_iconst (v := 0) F (pc := 19) d_P_lookAtEnds_19 (by decide) ?_))
    refine gc_callVI (As := [.int 0]) (st := []) F (pc := 20) d_P_lookAtEnds_20 cb_P_191 iv_Row_intAt np_Row_intAt o2 vc_1 (c_Row_intAt h) rfl (by decide) (Nat.le_refl _) (Nat.le_refl _) (Nat.le_of_ble_eq_true rfl) (fun v5 c4 h => ?_)
    refine g_ldc F (pc := 23) d_P_lookAtEnds_23 kc_P_194 ?_
    refine g_icmp_ne (tgt := 40) F (pc := 25) d_P_lookAtEnds_25 (by decide) (fun b6 => ?_) (fun b6 => ?_)
    · replace h := h.1 b6
      refine g_bipush (v := (-3)) F (pc := 40) d_P_lookAtEnds_40 (by decide) ?_
      exact g_iret T (pc := 42) d_P_lookAtEnds_42 rfl (Nat.le_refl _) (Nat.le_refl _) (poI h)
    · replace h := h.2 b6
      refine g_aload_n F (pc := 28) d_P_lookAtEnds_28 0 rfl (gc_getR F (pc := 29) d_P_lookAtEnds_29 fi_P_39 o1 (g_iconst (v := 4) F (pc := 32) d_P_lookAtEnds_32 (by decide) ?_))
      refine gc_callVI (As := [.int 4]) (st := []) F (pc := 33) d_P_lookAtEnds_33 cb_P_191 iv_Row_intAt np_Row_intAt o2 vc_1 (c_Row_intAt h) rfl (by decide) (Nat.le_refl _) (Nat.le_refl _) (Nat.le_of_ble_eq_true rfl) (fun v8 c7 h => ?_)
      refine g_iconst (v := 2) F (pc := 36) d_P_lookAtEnds_36 (by decide) ?_
      refine g_icmp_eq (tgt := 43) F (pc := 37) d_P_lookAtEnds_37 (by decide) (fun b9 => ?_) (fun b9 => ?_)
      · replace h := h.1 b9
        refine g_aload_n F (pc := 43) d_P_lookAtEnds_43 0 rfl (gc_getR F (pc := 44) d_P_lookAtEnds_44 fi_P_39 o1 (gc_getI F (pc := 47) d_P_lookAtEnds_47 fi_P_70 o2 (g_bipush (v := 20) F (pc := 50) d_P_lookAtEnds_50 (by decide) (g_isub F (pc := 52) d_P_lookAtEnds_52 (g_istore_n (lv' := [(1, .int ((c7 (rf x0 4) 1) - 20)), (0, .ref x0)]) F (pc := 53) d_P_lookAtEnds_53 (by decide) rfl ?_)))))
        refine g_aload_n F (pc := 54) d_P_lookAtEnds_54 1 rfl (gc_getR F (pc := 55) d_P_lookAtEnds_55 fi_P_45 o1 (g_aload_n F (pc := 58) d_P_lookAtEnds_58 1 rfl (gc_getR F (pc := 59) d_P_lookAtEnds_59 fi_P_39 o1 (g_iload_n F (pc := 62) d_P_lookAtEnds_62 0 rfl ?_))))
        obtain ⟨o10, h⟩ := h
        refine gc_callVV (As := [.ref (rf x0 4), .int ((c7 (rf x0 4) 1) - 20)]) (st := []) F (pc := 63) d_P_lookAtEnds_63 cb_P_155 iv_Sum_ofRow np_Sum_ofRow o10 vc_2 (c_Sum_ofRow h) rfl (by decide) (Nat.le_refl _) (Nat.le_refl _) (Nat.le_of_ble_eq_true rfl) (fun c11 h => ?_)
        refine g_aload_n F (pc := 66) d_P_lookAtEnds_66 1 rfl (gc_getR F (pc := 67) d_P_lookAtEnds_67 fi_P_39 o1 (g_iload_n F (pc := 70) d_P_lookAtEnds_70 0 rfl (g_aload_n F (pc := 71) d_P_lookAtEnds_71 1 rfl (gc_getR F (pc := 72) d_P_lookAtEnds_72 fi_P_45 o1 (gc_getR F (pc := 75) d_P_lookAtEnds_75 fi_P_159 o10 ?_)))))
        refine gc_callVI (As := [.int ((c7 (rf x0 4) 1) - 20), .ref (rf (rf x0 5) 0)]) (st := []) F (pc := 78) d_P_lookAtEnds_78 cb_P_195 iv_Row_hasInts np_Row_hasInts o2 vc_1 (c_Row_hasInts h) rfl (by decide) (Nat.le_refl _) (Nat.le_refl _) (Nat.le_of_ble_eq_true rfl) (fun v13 c12 h => ?_)
        refine g_if_ne (tgt := 87) F (pc := 81) d_P_lookAtEnds_81 (by decide) (fun b14 => ?_) (fun b14 => ?_)
        · replace h := h.1 b14
          refine g_aload_n F (pc := 87) d_P_lookAtEnds_87 1 rfl (gc_getR F (pc := 88) d_P_lookAtEnds_88 fi_P_39 o1 (g_bipush (v := 8) F (pc := 91) d_P_lookAtEnds_91 (by decide) ?_))
          refine gc_callVI (As := [.int 8]) (st := []) F (pc := 93) d_P_lookAtEnds_93 cb_P_191 iv_Row_intAt np_Row_intAt o2 vc_1 (c_Row_intAt h) rfl (by decide) (Nat.le_refl _) (Nat.le_refl _) (Nat.le_of_ble_eq_true rfl) (fun v16 c15 h => ?_)
          refine g_istore_n (lv' := [(2, .int v16), (1, .int ((c7 (rf x0 4) 1) - 20)), (0, .ref x0)]) F (pc := 96) d_P_lookAtEnds_96 (by decide) rfl (g_iload_n F (pc := 97) d_P_lookAtEnds_97 0 rfl ?_)
          obtain ⟨J19, hJ19, h⟩ := h
          have jn20 : J19  → Z (wd c15) 107 [] [] 0 0 := by
            intro  h
            replace h := hJ19  h
            refine g_bipush (v := (-2)) F (pc := 107) d_P_lookAtEnds_107 (by decide) (g_goto (tgt := 113) F (pc := 109) d_P_lookAtEnds_109 (by decide) ?_)
            exact g_iret T (pc := 113) d_P_lookAtEnds_113 rfl (Nat.le_refl _) (Nat.le_refl _) (poI h)
          refine g_if_lt (tgt := 107) F (pc := 98) d_P_lookAtEnds_98 (by decide) (fun b17 => ?_) (fun b17 => ?_)
          · replace h := h.1 b17
            refine g_lv (lv' := []) F [] rfl ?_
            exact jn20  h
          · replace h := h.2 b17
            refine g_iload_n F (pc := 101) d_P_lookAtEnds_101 0 rfl (g_bipush (v := 16) F (pc := 102) d_P_lookAtEnds_102 (by decide) ?_)
            refine g_icmp_le (tgt := 112) F (pc := 104) d_P_lookAtEnds_104 (by decide) (fun b21 => ?_) (fun b21 => ?_)
            · replace h := h.1 b21
              refine g_iconst (v := 0) F (pc := 112) d_P_lookAtEnds_112 (by decide) ?_
              exact g_iret T (pc := 113) d_P_lookAtEnds_113 rfl (Nat.le_refl _) (Nat.le_refl _) (poI h)
            · replace h := h.2 b21
              refine g_lv (lv' := []) F [] rfl ?_
              exact jn20  h
        · replace h := h.2 b14
          refine g_bipush (v := (-4)) F (pc := 84) d_P_lookAtEnds_84 (by decide) ?_
          exact g_iret T (pc := 86) d_P_lookAtEnds_86 rfl (Nat.le_refl _) (Nat.le_refl _) (poI h)
      · replace h := h.2 b9
        refine g_bipush (v := (-3)) F (pc := 40) d_P_lookAtEnds_40 (by decide) ?_
        exact g_iret T (pc := 42) d_P_lookAtEnds_42 rfl (Nat.le_refl _) (Nat.le_refl _) (poI h)
  · replace h := h.2 b3
    refine g_bipush (v := (-3)) F (pc := 12) d_P_lookAtEnds_12 (by decide) ?_
    exact g_iret T (pc := 14) d_P_lookAtEnds_14 rfl (Nat.le_refl _) (Nat.le_refl _) (poI h)
theorem d_P_putNamed_0 : decode M_P_putNamed.2.1 0 = .ok (.aload_n 0, 1) := by decide +kernel
theorem d_P_putNamed_1 : decode M_P_putNamed.2.1 1 = .ok (.getfield 52, 3) := by decide +kernel
theorem d_P_putNamed_4 : decode M_P_putNamed.2.1 4 = .ok (.getfield 79, 3) := by decide +kernel
theorem d_P_putNamed_7 : decode M_P_putNamed.2.1 7 = .ok (.aload_n 1, 1) := by decide +kernel
theorem d_P_putNamed_8 : decode M_P_putNamed.2.1 8 = .ok (.invokevirtual 122, 3) := by decide +kernel
theorem d_P_putNamed_11 : decode M_P_putNamed.2.1 11 = .ok (.aload_n 0, 1) := by decide +kernel
theorem d_P_putNamed_12 : decode M_P_putNamed.2.1 12 = .ok (.getfield 12, 3) := by decide +kernel
theorem d_P_putNamed_15 : decode M_P_putNamed.2.1 15 = .ok (.iload_n 2, 1) := by decide +kernel
theorem d_P_putNamed_16 : decode M_P_putNamed.2.1 16 = .ok (.invokevirtual 97, 3) := by decide +kernel
theorem d_P_putNamed_19 : decode M_P_putNamed.2.1 19 = .ok (.ifCond .eq 25, 3) := by decide +kernel
theorem d_P_putNamed_22 : decode M_P_putNamed.2.1 22 = .ok (.aload_n 0, 1) := by decide +kernel
theorem d_P_putNamed_23 : decode M_P_putNamed.2.1 23 = .ok (.getfield 52, 3) := by decide +kernel
theorem d_P_putNamed_26 : decode M_P_putNamed.2.1 26 = .ok (.getfield 79, 3) := by decide +kernel
theorem d_P_putNamed_29 : decode M_P_putNamed.2.1 29 = .ok (.aload_n 0, 1) := by decide +kernel
theorem d_P_putNamed_30 : decode M_P_putNamed.2.1 30 = .ok (.getfield 12, 3) := by decide +kernel
theorem d_P_putNamed_33 : decode M_P_putNamed.2.1 33 = .ok (.getfield 101, 3) := by decide +kernel
theorem d_P_putNamed_36 : decode M_P_putNamed.2.1 36 = .ok (.iload_n 2, 1) := by decide +kernel
theorem d_P_putNamed_37 : decode M_P_putNamed.2.1 37 = .ok (.aaload, 1) := by decide +kernel
theorem d_P_putNamed_38 : decode M_P_putNamed.2.1 38 = .ok (.getfield 141, 3) := by decide +kernel
theorem d_P_putNamed_41 : decode M_P_putNamed.2.1 41 = .ok (.invokevirtual 162, 3) := by decide +kernel
theorem d_P_putNamed_44 : decode M_P_putNamed.2.1 44 = .ok (.aload_n 0, 1) := by decide +kernel
theorem d_P_putNamed_45 : decode M_P_putNamed.2.1 45 = .ok (.getfield 52, 3) := by decide +kernel
theorem d_P_putNamed_48 : decode M_P_putNamed.2.1 48 = .ok (.getfield 79, 3) := by decide +kernel
theorem d_P_putNamed_51 : decode M_P_putNamed.2.1 51 = .ok (.bipush 10, 2) := by decide +kernel
theorem d_P_putNamed_53 : decode M_P_putNamed.2.1 53 = .ok (.invokevirtual 73, 3) := by decide +kernel
theorem d_P_putNamed_56 : decode M_P_putNamed.2.1 56 = .ok (.return_, 1) := by decide +kernel
def f_P_putNamed (x0 : Nat) (x1 : Nat) (x2 : Int32) (c : cM) (K : cM → Prop) : Prop :=
  kd x0 = 0 ∧ (kd (rf x0 6) = 3 ∧ (kd (rf (rf x0 6) 1) = 1 ∧ (f_Row_putText (rf (rf x0 6) 1) x1 c (fun c4 => kd (rf x0 0) = 4 ∧ (f_Store_has (rf x0 0) x2 c4 (fun v7 c6 => ∃ J14 : cM → Prop, (∀ (c13 : cM), J14 c13 → (f_Row_put (rf (rf x0 6) 1) 10 c13 (fun c16 => K c16))) ∧ (((v7 = 0) → (J14 c6)) ∧ (¬ (v7 = 0) → (kd (rf (rf x0 0) 0) = 102 ∧ (vp_in x2 (ln (rf (rf x0 0) 0)) ∧ (kd (rf (rf (rf x0 0) 0) (Int32.toNatClampNeg x2)) = 3 ∧ (f_Row_putInts (rf (rf x0 6) 1) (rf (rf (rf (rf x0 0) 0) (Int32.toNatClampNeg x2)) 2) c6 (fun c20 => J14 c20)))))))))))))
theorem c_P_putNamed {x0 : Nat} {x1 : Nat} {x2 : Int32} {c : cM} {K : cM → Prop} (h : f_P_putNamed x0 x1 x2 c K) : Ct M_P_putNamed 5 0 0 (wd c) [.ref x0, .ref x1, .int x2] (PoV K) := by
  refine Ct.of (by decide +kernel) (Nat.le_of_ble_eq_true rfl) (fun Z T => ?_)
  have F := T.F
  unfold f_P_putNamed at h
  show Z (wd c) 0 [(0, .ref x0), (1, .ref x1), (2, .int x2)] [] 0 0
  refine g_aload_n F (pc := 0) d_P_putNamed_0 0 rfl ?_
  obtain ⟨o1, h⟩ := h
  refine gc_getR F (pc := 1) d_P_putNamed_1 fi_P_52 o1 ?_
  obtain ⟨o2, h⟩ := h
  refine gc_getR F (pc := 4) d_P_putNamed_4 fi_P_79 o2 (g_aload_n F (pc := 7) d_P_putNamed_7 1 rfl ?_)
  obtain ⟨o3, h⟩ := h
  refine gc_callVV (As := [.ref x1]) (st := []) F (pc := 8) d_P_putNamed_8 cb_P_122 iv_Row_putText np_Row_putText o3 vc_1 (c_Row_putText h) rfl (by decide) (Nat.le_refl _) (Nat.le_refl _) (Nat.le_of_ble_eq_true rfl) (fun c4 h => ?_)
  refine g_aload_n F (pc := 11) d_P_putNamed_11 0 rfl (gc_getR F (pc := 12) d_P_putNamed_12 fi_P_12 o1 (g_iload_n F (pc := 15) d_P_putNamed_15 2 rfl ?_))
  obtain ⟨o5, h⟩ := h
  refine gc_callVI (As := [.int x2]) (st := []) F (pc := 16) d_P_putNamed_16 cb_P_97 iv_Store_has np_Store_has o5 vc_4 (c_Store_has h) rfl (by decide) (Nat.le_refl _) (Nat.le_refl _) (Nat.le_of_ble_eq_true rfl) (fun v7 c6 h => ?_)
  obtain ⟨J14, hJ14, h⟩ := h
  have jn15 : ∀ (c13 : cM), J14 c13 → Z (wd c13) 44 [(0, .ref x0)] [] 0 0 := by
    intro c13 h
    replace h := hJ14 c13 h
    refine g_aload_n F (pc := 44) d_P_putNamed_44 0 rfl (gc_getR F (pc := 45) d_P_putNamed_45 fi_P_52 o1 (gc_getR F (pc := 48) d_P_putNamed_48 fi_P_79 o2 (g_bipush (v := 10) F (pc := 51) d_P_putNamed_51 (by decide) ?_)))
    refine gc_callVV (As := [.int 10]) (st := []) F (pc := 53) d_P_putNamed_53 cb_P_73 iv_Row_put np_Row_put o3 vc_1 (c_Row_put h) rfl (by decide) (Nat.le_refl _) (Nat.le_refl _) (Nat.le_of_ble_eq_true rfl) (fun c16 h => ?_)
    exact g_vret T (pc := 56) d_P_putNamed_56 rfl (Nat.le_refl _) (Nat.le_refl _) (poV h)
  refine g_if_eq (tgt := 44) F (pc := 19) d_P_putNamed_19 (by decide) (fun b8 => ?_) (fun b8 => ?_)
  · replace h := h.1 b8
    refine g_lv (lv' := [(0, .ref x0)]) F [0] rfl ?_
    exact jn15 _ h
  · replace h := h.2 b8
    refine g_aload_n F (pc := 22) d_P_putNamed_22 0 rfl (gc_getR F (pc := 23) d_P_putNamed_23 fi_P_52 o1 (gc_getR F (pc := 26) d_P_putNamed_26 fi_P_79 o2 (g_aload_n F (pc := 29) d_P_putNamed_29 0 rfl (gc_getR F (pc := 30) d_P_putNamed_30 fi_P_12 o1 (gc_getR F (pc := 33) d_P_putNamed_33 fi_P_101 o5 ?_)))))
    refine g_iload_n F (pc := 36) d_P_putNamed_36 2 rfl ?_
    obtain ⟨o17, h⟩ := h
    obtain ⟨o18, h⟩ := h
    refine gc_aald F (pc := 37) d_P_putNamed_37 o17 o18 ?_
    obtain ⟨o19, h⟩ := h
    refine gc_getR F (pc := 38) d_P_putNamed_38 fi_P_141 o19 ?_
    refine gc_callVV (As := [.ref (rf (rf (rf (rf x0 0) 0) (Int32.toNatClampNeg x2)) 2)]) (st := []) F (pc := 41) d_P_putNamed_41 cb_P_162 iv_Row_putInts np_Row_putInts o3 vc_1 (c_Row_putInts h) rfl (by decide) (Nat.le_refl _) (Nat.le_refl _) (Nat.le_of_ble_eq_true rfl) (fun c20 h => ?_)
    refine g_lv (lv' := [(0, .ref x0)]) F [0] rfl ?_
    exact jn15 _ h
theorem d_P_bringRead_0 : decode M_P_bringRead.2.1 0 = .ok (.aload_n 0, 1) := by decide +kernel
theorem d_P_bringRead_1 : decode M_P_bringRead.2.1 1 = .ok (.getfield 12, 3) := by decide +kernel
theorem d_P_bringRead_4 : decode M_P_bringRead.2.1 4 = .ok (.getfield 135, 3) := by decide +kernel
theorem d_P_bringRead_7 : decode M_P_bringRead.2.1 7 = .ok (.istore_n 1, 1) := by decide +kernel
theorem d_P_bringRead_8 : decode M_P_bringRead.2.1 8 = .ok (.iconst 0, 1) := by decide +kernel
theorem d_P_bringRead_9 : decode M_P_bringRead.2.1 9 = .ok (.istore_n 2, 1) := by decide +kernel
theorem d_P_bringRead_10 : decode M_P_bringRead.2.1 10 = .ok (.iload_n 2, 1) := by decide +kernel
theorem d_P_bringRead_11 : decode M_P_bringRead.2.1 11 = .ok (.aload_n 0, 1) := by decide +kernel
theorem d_P_bringRead_12 : decode M_P_bringRead.2.1 12 = .ok (.getfield 66, 3) := by decide +kernel
theorem d_P_bringRead_15 : decode M_P_bringRead.2.1 15 = .ok (.getfield 176, 3) := by decide +kernel
theorem d_P_bringRead_18 : decode M_P_bringRead.2.1 18 = .ok (.if_icmp .ge 26, 3) := by decide +kernel
theorem d_P_bringRead_21 : decode M_P_bringRead.2.1 21 = .ok (.aload_n 0, 1) := by decide +kernel
theorem d_P_bringRead_22 : decode M_P_bringRead.2.1 22 = .ok (.getfield 12, 3) := by decide +kernel
theorem d_P_bringRead_25 : decode M_P_bringRead.2.1 25 = .ok (.aload_n 0, 1) := by decide +kernel
theorem d_P_bringRead_26 : decode M_P_bringRead.2.1 26 = .ok (.getfield 66, 3) := by decide +kernel
theorem d_P_bringRead_29 : decode M_P_bringRead.2.1 29 = .ok (.getfield 177, 3) := by decide +kernel
theorem d_P_bringRead_32 : decode M_P_bringRead.2.1 32 = .ok (.iload_n 2, 1) := by decide +kernel
theorem d_P_bringRead_33 : decode M_P_bringRead.2.1 33 = .ok (.aaload, 1) := by decide +kernel
theorem d_P_bringRead_34 : decode M_P_bringRead.2.1 34 = .ok (.invokevirtual 199, 3) := by decide +kernel
theorem d_P_bringRead_37 : decode M_P_bringRead.2.1 37 = .ok (.pop, 1) := by decide +kernel
theorem d_P_bringRead_38 : decode M_P_bringRead.2.1 38 = .ok (.iinc 2 1, 3) := by decide +kernel
theorem d_P_bringRead_41 : decode M_P_bringRead.2.1 41 = .ok (.goto (-31), 3) := by decide +kernel
theorem d_P_bringRead_44 : decode M_P_bringRead.2.1 44 = .ok (.aload_n 0, 1) := by decide +kernel
theorem d_P_bringRead_45 : decode M_P_bringRead.2.1 45 = .ok (.getfield 12, 3) := by decide +kernel
theorem d_P_bringRead_48 : decode M_P_bringRead.2.1 48 = .ok (.getfield 135, 3) := by decide +kernel
theorem d_P_bringRead_51 : decode M_P_bringRead.2.1 51 = .ok (.iload_n 1, 1) := by decide +kernel
theorem d_P_bringRead_52 : decode M_P_bringRead.2.1 52 = .ok (.isub, 1) := by decide +kernel
theorem d_P_bringRead_53 : decode M_P_bringRead.2.1 53 = .ok (.ireturn, 1) := by decide +kernel
def f_P_bringRead (x0 : Nat) (c : cM) (K : Int32 → cM → Prop) : Prop :=
  kd x0 = 0 ∧ (kd (rf x0 0) = 4 ∧ (∃ I3 : Nat → Int32 → cM → Prop, (∃ n, I3 n 0 c) ∧ ∀ (n4 : Nat) (y7 : Int32) (c8 : cM), I3 n4 y7 c8 → (kd (rf x0 8) = 6 ∧ ((((c8 (rf x0 8) 1) ≤ y7) → (K ((c8 (rf x0 0) 1) - (c (rf x0 0) 1)) c8)) ∧ (¬ ((c8 (rf x0 8) 1) ≤ y7) → (kd (rf (rf x0 8) 0) = 102 ∧ (vp_in y7 (ln (rf (rf x0 8) 0)) ∧ (f_Store_bring (rf x0 0) (rf (rf (rf x0 8) 0) (Int32.toNatClampNeg y7)) c8 (fun v14 c13 => ∃ m, m < n4 ∧ I3 m (y7 + 1) c13)))))))))
theorem c_P_bringRead {x0 : Nat} {c : cM} {K : Int32 → cM → Prop} (h : f_P_bringRead x0 c K) : Ct M_P_bringRead 4 0 0 (wd c) [.ref x0] (PoI K) := by
  refine Ct.of (by decide +kernel) (Nat.le_of_ble_eq_true rfl) (fun Z T => ?_)
  have F := T.F
  unfold f_P_bringRead at h
  show Z (wd c) 0 [(0, .ref x0)] [] 0 0
  refine g_aload_n F (pc := 0) d_P_bringRead_0 0 rfl ?_
  obtain ⟨o1, h⟩ := h
  refine gc_getR F (pc := 1) d_P_bringRead_1 fi_P_12 o1 ?_
  obtain ⟨o2, h⟩ := h
  refine gc_getI F (pc := 4) d_P_bringRead_4 fi_P_135 o2 (g_istore_n (lv' := [(1, .int (c (rf x0 0) 1)), (0, .ref x0)]) F (pc := 7) d_P_bringRead_7 (by decide) rfl (g_iconst (v := 0) F (pc := 8) d_P_bringRead_8 (by decide) (g_istore_n (lv' := [(2, .int 0), (1, .int (c (rf x0 0) 1)), (0, .ref x0)]) F (pc := 9) d_P_bringRead_9 (by decide) rfl ?_)))
  refine g_lv (lv' := [(0, .ref x0), (1, .int (c (rf x0 0) 1)), (2, .int 0)]) F [2, 1, 0] rfl ?_
  obtain ⟨I3, ⟨n0, h⟩, hI3⟩ := h
  have lp6 : ∀ (n4 : Nat) (y7 : Int32) (c8 : cM), I3 n4 y7 c8 → Z (wd c8) 10 [(0, .ref x0), (1, .int (c (rf x0 0) 1)), (2, .int y7)] [] 0 0 := by
    intro n4
    induction n4 using Nat.strongRecOn with
    | _ n4 ih5 =>
      intro y7 c8 h
      replace h := hI3 n4 y7 c8 h
      refine g_iload_n F (pc := 10) d_P_bringRead_10 2 rfl (g_aload_n F (pc := 11) d_P_bringRead_11 0 rfl (gc_getR F (pc := 12) d_P_bringRead_12 fi_P_66 o1 ?_))
      obtain ⟨o9, h⟩ := h
      refine gc_getI F (pc := 15) d_P_bringRead_15 fi_P_176 o9 ?_
      refine g_icmp_ge (tgt := 44) F (pc := 18) d_P_bringRead_18 (by decide) (fun b10 => ?_) (fun b10 => ?_)
      · replace h := h.1 b10
        refine g_aload_n F (pc := 44) d_P_bringRead_44 0 rfl (gc_getR F (pc := 45) d_P_bringRead_45 fi_P_12 o1 (gc_getI F (pc := 48) d_P_bringRead_48 fi_P_135 o2 (g_iload_n F (pc := 51) d_P_bringRead_51 1 rfl (g_isub F (pc := 52) d_P_bringRead_52 ?_))))
        exact g_iret T (pc := 53) d_P_bringRead_53 rfl (Nat.le_refl _) (Nat.le_refl _) (poI h)
      · replace h := h.2 b10
        refine g_aload_n F (pc := 21) d_P_bringRead_21 0 rfl (gc_getR F (pc := 22) d_P_bringRead_22 fi_P_12 o1 (g_aload_n F (pc := 25) d_P_bringRead_25 0 rfl (gc_getR F (pc := 26) d_P_bringRead_26 fi_P_66 o1 (gc_getR F (pc := 29) d_P_bringRead_29 fi_P_177 o9 (g_iload_n F (pc := 32) d_P_bringRead_32 2 rfl ?_)))))
        obtain ⟨o11, h⟩ := h
        obtain ⟨o12, h⟩ := h
        refine gc_aald F (pc := 33) d_P_bringRead_33 o11 o12 ?_
        refine gc_callVI (As := [.ref (rf (rf (rf x0 8) 0) (Int32.toNatClampNeg y7))]) (st := []) F (pc := 34) d_P_bringRead_34 cb_P_199 iv_Store_bring np_Store_bring o2 vc_4 (c_Store_bring h) rfl (by decide) (Nat.le_refl _) (Nat.le_refl _) (Nat.le_of_ble_eq_true rfl) (fun v14 c13 h => ?_)
        refine g_pop F (pc := 37) d_P_bringRead_37 rfl (g_iinc (v := (y7 + 1)) (lv' := [(2, .int (y7 + 1)), (0, .ref x0), (1, .int (c (rf x0 0) 1))]) F (pc := 38) d_P_bringRead_38 2 rfl (sk_inc (by decide)) (by decide) rfl (g_goto (tgt := 10) F (pc := 41) d_P_bringRead_41 (by decide) ?_))
        refine g_lv (lv' := [(0, .ref x0), (1, .int (c (rf x0 0) 1)), (2, .int (y7 + 1))]) F [1, 2, 0] rfl ?_
        obtain ⟨m, hm, h⟩ := h
        exact ih5 m hm _ _ h
  exact lp6 n0 _ _ h
theorem d_P_unpack_0 : decode M_P_unpack.2.1 0 = .ok (.aload_n 0, 1) := by decide +kernel
theorem d_P_unpack_1 : decode M_P_unpack.2.1 1 = .ok (.getfield 39, 3) := by decide +kernel
theorem d_P_unpack_4 : decode M_P_unpack.2.1 4 = .ok (.getfield 70, 3) := by decide +kernel
theorem d_P_unpack_7 : decode M_P_unpack.2.1 7 = .ok (.ifCond .ne 5, 3) := by decide +kernel
theorem d_P_unpack_10 : decode M_P_unpack.2.1 10 = .ok (.iconst (-1), 1) := by decide +kernel
theorem d_P_unpack_11 : decode M_P_unpack.2.1 11 = .ok (.ireturn, 1) := by decide +kernel
theorem d_P_unpack_12 : decode M_P_unpack.2.1 12 = .ok (.aload_n 0, 1) := by decide +kernel
theorem d_P_unpack_13 : decode M_P_unpack.2.1 13 = .ok (.invokevirtual 169, 3) := by decide +kernel
theorem d_P_unpack_16 : decode M_P_unpack.2.1 16 = .ok (.istore_n 1, 1) := by decide +kernel
theorem d_P_unpack_17 : decode M_P_unpack.2.1 17 = .ok (.iload_n 1, 1) := by decide +kernel
theorem d_P_unpack_18 : decode M_P_unpack.2.1 18 = .ok (.ifCond .ne 15, 3) := by decide +kernel
theorem d_P_unpack_21 : decode M_P_unpack.2.1 21 = .ok (.aload_n 0, 1) := by decide +kernel
theorem d_P_unpack_22 : decode M_P_unpack.2.1 22 = .ok (.getfield 66, 3) := by decide +kernel
theorem d_P_unpack_25 : decode M_P_unpack.2.1 25 = .ok (.aload_n 0, 1) := by decide +kernel
theorem d_P_unpack_26 : decode M_P_unpack.2.1 26 = .ok (.getfield 39, 3) := by decide +kernel
theorem d_P_unpack_29 : decode M_P_unpack.2.1 29 = .ok (.invokevirtual 172, 3) := by decide +kernel
theorem d_P_unpack_32 : decode M_P_unpack.2.1 32 = .ok (.istore_n 1, 1) := by decide +kernel
theorem d_P_unpack_33 : decode M_P_unpack.2.1 33 = .ok (.iload_n 1, 1) := by decide +kernel
theorem d_P_unpack_34 : decode M_P_unpack.2.1 34 = .ok (.ifCond .eq 5, 3) := by decide +kernel
theorem d_P_unpack_37 : decode M_P_unpack.2.1 37 = .ok (.iload_n 1, 1) := by decide +kernel
theorem d_P_unpack_38 : decode M_P_unpack.2.1 38 = .ok (.ireturn, 1) := by decide +kernel
theorem d_P_unpack_39 : decode M_P_unpack.2.1 39 = .ok (.iconst 0, 1) := by decide +kernel
theorem d_P_unpack_40 : decode M_P_unpack.2.1 40 = .ok (.istore_n 2, 1) := by decide +kernel
theorem d_P_unpack_41 : decode M_P_unpack.2.1 41 = .ok (.iload_n 2, 1) := by decide +kernel
theorem d_P_unpack_42 : decode M_P_unpack.2.1 42 = .ok (.aload_n 0, 1) := by decide +kernel
theorem d_P_unpack_43 : decode M_P_unpack.2.1 43 = .ok (.getfield 66, 3) := by decide +kernel
theorem d_P_unpack_46 : decode M_P_unpack.2.1 46 = .ok (.getfield 176, 3) := by decide +kernel
theorem d_P_unpack_49 : decode M_P_unpack.2.1 49 = .ok (.if_icmp .ge 25, 3) := by decide +kernel
theorem d_P_unpack_52 : decode M_P_unpack.2.1 52 = .ok (.aload_n 0, 1) := by decide +kernel
theorem d_P_unpack_53 : decode M_P_unpack.2.1 53 = .ok (.getfield 45, 3) := by decide +kernel
theorem d_P_unpack_56 : decode M_P_unpack.2.1 56 = .ok (.aload_n 0, 1) := by decide +kernel
theorem d_P_unpack_57 : decode M_P_unpack.2.1 57 = .ok (.getfield 66, 3) := by decide +kernel
theorem d_P_unpack_60 : decode M_P_unpack.2.1 60 = .ok (.getfield 177, 3) := by decide +kernel
theorem d_P_unpack_63 : decode M_P_unpack.2.1 63 = .ok (.iload_n 2, 1) := by decide +kernel
theorem d_P_unpack_64 : decode M_P_unpack.2.1 64 = .ok (.aaload, 1) := by decide +kernel
theorem d_P_unpack_65 : decode M_P_unpack.2.1 65 = .ok (.invokevirtual 180, 3) := by decide +kernel
theorem d_P_unpack_68 : decode M_P_unpack.2.1 68 = .ok (.iinc 2 1, 3) := by decide +kernel
theorem d_P_unpack_71 : decode M_P_unpack.2.1 71 = .ok (.goto (-30), 3) := by decide +kernel
theorem d_P_unpack_74 : decode M_P_unpack.2.1 74 = .ok (.aload_n 0, 1) := by decide +kernel
theorem d_P_unpack_75 : decode M_P_unpack.2.1 75 = .ok (.getfield 12, 3) := by decide +kernel
theorem d_P_unpack_78 : decode M_P_unpack.2.1 78 = .ok (.getfield 135, 3) := by decide +kernel
theorem d_P_unpack_81 : decode M_P_unpack.2.1 81 = .ok (.aload_n 0, 1) := by decide +kernel
theorem d_P_unpack_82 : decode M_P_unpack.2.1 82 = .ok (.getfield 66, 3) := by decide +kernel
theorem d_P_unpack_85 : decode M_P_unpack.2.1 85 = .ok (.aload_n 0, 1) := by decide +kernel
theorem d_P_unpack_86 : decode M_P_unpack.2.1 86 = .ok (.getfield 12, 3) := by decide +kernel
theorem d_P_unpack_89 : decode M_P_unpack.2.1 89 = .ok (.invokevirtual 184, 3) := by decide +kernel
theorem d_P_unpack_92 : decode M_P_unpack.2.1 92 = .ok (.iadd, 1) := by decide +kernel
theorem d_P_unpack_93 : decode M_P_unpack.2.1 93 = .ok (.bipush 16, 2) := by decide +kernel
theorem d_P_unpack_95 : decode M_P_unpack.2.1 95 = .ok (.if_icmp .le 6, 3) := by decide +kernel
theorem d_P_unpack_98 : decode M_P_unpack.2.1 98 = .ok (.bipush (-2), 2) := by decide +kernel
theorem d_P_unpack_100 : decode M_P_unpack.2.1 100 = .ok (.ireturn, 1) := by decide +kernel
theorem d_P_unpack_101 : decode M_P_unpack.2.1 101 = .ok (.aload_n 0, 1) := by decide +kernel
theorem d_P_unpack_102 : decode M_P_unpack.2.1 102 = .ok (.invokevirtual 188, 3) := by decide +kernel
theorem d_P_unpack_105 : decode M_P_unpack.2.1 105 = .ok (.ireturn, 1) := by decide +kernel
def f_P_unpack (x0 : Nat) (c : cM) (K : Int32 → cM → Prop) : Prop :=
  kd x0 = 0 ∧ (kd (rf x0 4) = 1 ∧ (((¬ (c (rf x0 4) 1) = 0) → (f_P_lookAtEnds x0 c (fun v5 c4 => ∃ J12 : Int32 → cM → Prop, (∀ (y10 : Int32) (c11 : cM), J12 y10 c11 → (((y10 = 0) → (∃ I15 : Nat → Int32 → cM → Prop, (∃ n, I15 n 0 c11) ∧ ∀ (n16 : Nat) (y19 : Int32) (c20 : cM), I15 n16 y19 c20 → (kd (rf x0 8) = 6 ∧ ((((c20 (rf x0 8) 1) ≤ y19) → (kd (rf x0 0) = 4 ∧ (f_Rea_countNew (rf x0 8) (rf x0 0) c20 (fun v25 c24 => ((((c20 (rf x0 0) 1) + v25) ≤ 16) → (f_P_bringRead x0 c24 (fun v28 c27 => K v28 c27))) ∧ (¬ (((c20 (rf x0 0) 1) + v25) ≤ 16) → (K (-2) c24)))))) ∧ (¬ ((c20 (rf x0 8) 1) ≤ y19) → (kd (rf (rf x0 8) 0) = 102 ∧ (vp_in y19 (ln (rf (rf x0 8) 0)) ∧ (kd (rf x0 5) = 2 ∧ (f_Sum_giveName (rf x0 5) (rf (rf (rf x0 8) 0) (Int32.toNatClampNeg y19)) c20 (fun c32 => ∃ m, m < n16 ∧ I15 m (y19 + 1) c32)))))))))) ∧ (¬ (y10 = 0) → (K y10 c11)))) ∧ (((¬ v5 = 0) → (J12 v5 c4)) ∧ (v5 = 0 → (kd (rf x0 8) = 6 ∧ (f_Rea_readThings (rf x0 8) (rf x0 4) c4 (fun v35 c34 => J12 v35 c34)))))))) ∧ ((c (rf x0 4) 1) = 0 → (K (-1) c))))
theorem c_P_unpack {x0 : Nat} {c : cM} {K : Int32 → cM → Prop} (h : f_P_unpack x0 c K) : Ct M_P_unpack 6 0 0 (wd c) [.ref x0] (PoI K) := by
  refine Ct.of (by decide +kernel) (Nat.le_of_ble_eq_true rfl) (fun Z T => ?_)
  have F := T.F
  unfold f_P_unpack at h
  show Z (wd c) 0 [(0, .ref x0)] [] 0 0
  refine g_aload_n F (pc := 0) d_P_unpack_0 0 rfl ?_
  obtain ⟨o1, h⟩ := h
  refine gc_getR F (pc := 1) d_P_unpack_1 fi_P_39 o1 ?_
  obtain ⟨o2, h⟩ := h
  refine gc_getI F (pc := 4) d_P_unpack_4 fi_P_70 o2 ?_
  refine g_if_ne (tgt := 12) F (pc := 7) d_P_unpack_7 (by decide) (fun b3 => ?_) (fun b3 => ?_)
  · replace h := h.1 b3
    refine g_aload_n F (pc := 12) d_P_unpack_12 0 rfl ?_
    refine gc_callVI (As := []) (st := []) F (pc := 13) d_P_unpack_13 cb_P_169 iv_P_lookAtEnds np_P_lookAtEnds o1 vc_0 (c_P_lookAtEnds h) rfl (by decide) (Nat.le_refl _) (Nat.le_refl _) (Nat.le_of_ble_eq_true rfl) (fun v5 c4 h => ?_)
    refine g_istore_n (lv' := [(1, .int v5), (0, .ref x0)]) F (pc := 16) d_P_unpack_16 (by decide) rfl (g_iload_n F (pc := 17) d_P_unpack_17 0 rfl ?_)
    obtain ⟨J12, hJ12, h⟩ := h
    have jn13 : ∀ (y10 : Int32) (c11 : cM), J12 y10 c11 → Z (wd c11) 33 [(0, .ref x0), (1, .int y10)] [] 0 0 := by
      intro y10 c11 h
      replace h := hJ12 y10 c11 h
      refine g_iload_n F (pc := 33) d_P_unpack_33 1 rfl ?_
      refine g_if_eq (tgt := 39) F (pc := 34) d_P_unpack_34 (by decide) (fun b14 => ?_) (fun b14 => ?_)
      · replace h := h.1 b14
        refine g_iconst (v := 0) F (pc := 39) d_P_unpack_39 (by decide) (g_istore_n (lv' := [(2, .int 0), (0, .ref x0), (1, .int y10)]) F (pc := 40) d_P_unpack_40 (by decide) rfl ?_)
        refine g_lv (lv' := [(0, .ref x0), (2, .int 0)]) F [1, 0] rfl ?_
        obtain ⟨I15, ⟨n0, h⟩, hI15⟩ := h
        have lp18 : ∀ (n16 : Nat) (y19 : Int32) (c20 : cM), I15 n16 y19 c20 → Z (wd c20) 41 [(0, .ref x0), (2, .int y19)] [] 0 0 := by
          intro n16
          induction n16 using Nat.strongRecOn with
          | _ n16 ih17 =>
            intro y19 c20 h
            replace h := hI15 n16 y19 c20 h
            refine g_iload_n F (pc := 41) d_P_unpack_41 1 rfl (g_aload_n F (pc := 42) d_P_unpack_42 0 rfl (gc_getR F (pc := 43) d_P_unpack_43 fi_P_66 o1 ?_))
            obtain ⟨o21, h⟩ := h
            refine gc_getI F (pc := 46) d_P_unpack_46 fi_P_176 o21 ?_
            refine g_icmp_ge (tgt := 74) F (pc := 49) d_P_unpack_49 (by decide) (fun b22 => ?_) (fun b22 => ?_)
            · replace h := h.1 b22
              refine g_aload_n F (pc := 74) d_P_unpack_74 0 rfl (gc_getR F (pc := 75) d_P_unpack_75 fi_P_12 o1 ?_)
              obtain ⟨o23, h⟩ := h
              refine gc_getI F (pc := 78) d_P_unpack_78 fi_P_135 o23 (g_aload_n F (pc := 81) d_P_unpack_81 0 rfl (gc_getR F (pc := 82) d_P_unpack_82 fi_P_66 o1 (g_aload_n F (pc := 85) d_P_unpack_85 0 rfl (gc_getR F (pc := 86) d_P_unpack_86 fi_P_12 o1 ?_))))
              refine gc_callVI (As := [.ref (rf x0 0)]) (st := [.int (c20 (rf x0 0) 1)]) F (pc := 89) d_P_unpack_89 cb_P_184 iv_Rea_countNew np_Rea_countNew o21 vc_6 (c_Rea_countNew h) rfl (by decide) (Nat.le_refl _) (Nat.le_refl _) (Nat.le_of_ble_eq_true rfl) (fun v25 c24 h => ?_)
              refine g_iadd F (pc := 92) d_P_unpack_92 (g_bipush (v := 16) F (pc := 93) d_P_unpack_93 (by decide) ?_)
              refine g_icmp_le (tgt := 101) F (pc := 95) d_P_unpack_95 (by decide) (fun b26 => ?_) (fun b26 => ?_)
              · replace h := h.1 b26
                refine g_aload_n F (pc := 101) d_P_unpack_101 0 rfl ?_
                refine gc_callVI (As := []) (st := []) F (pc := 102) d_P_unpack_102 cb_P_188 iv_P_bringRead np_P_bringRead o1 vc_0 (c_P_bringRead h) rfl (by decide) (Nat.le_refl _) (Nat.le_refl _) (Nat.le_of_ble_eq_true rfl) (fun v28 c27 h => ?_)
                exact g_iret T (pc := 105) d_P_unpack_105 rfl (Nat.le_refl _) (Nat.le_refl _) (poI h)
              · replace h := h.2 b26
                refine g_bipush (v := (-2)) F (pc := 98) d_P_unpack_98 (by decide) ?_
                exact g_iret T (pc := 100) d_P_unpack_100 rfl (Nat.le_refl _) (Nat.le_refl _) (poI h)
            · replace h := h.2 b22
              refine g_aload_n F (pc := 52) d_P_unpack_52 0 rfl (gc_getR F (pc := 53) d_P_unpack_53 fi_P_45 o1 (g_aload_n F (pc := 56) d_P_unpack_56 0 rfl (gc_getR F (pc := 57) d_P_unpack_57 fi_P_66 o1 (gc_getR F (pc := 60) d_P_unpack_60 fi_P_177 o21 (g_iload_n F (pc := 63) d_P_unpack_63 1 rfl ?_)))))
              obtain ⟨o29, h⟩ := h
              obtain ⟨o30, h⟩ := h
              refine gc_aald F (pc := 64) d_P_unpack_64 o29 o30 ?_
              obtain ⟨o31, h⟩ := h
              refine gc_callVV (As := [.ref (rf (rf (rf x0 8) 0) (Int32.toNatClampNeg y19))]) (st := []) F (pc := 65) d_P_unpack_65 cb_P_180 iv_Sum_giveName np_Sum_giveName o31 vc_2 (c_Sum_giveName h) rfl (by decide) (Nat.le_refl _) (Nat.le_refl _) (Nat.le_of_ble_eq_true rfl) (fun c32 h => ?_)
              refine g_iinc (v := (y19 + 1)) (lv' := [(2, .int (y19 + 1)), (0, .ref x0)]) F (pc := 68) d_P_unpack_68 1 rfl (sk_inc (by decide)) (by decide) rfl (g_goto (tgt := 41) F (pc := 71) d_P_unpack_71 (by decide) ?_)
              refine g_lv (lv' := [(0, .ref x0), (2, .int (y19 + 1))]) F [1, 0] rfl ?_
              obtain ⟨m, hm, h⟩ := h
              exact ih17 m hm _ _ h
        exact lp18 n0 _ _ h
      · replace h := h.2 b14
        refine g_iload_n F (pc := 37) d_P_unpack_37 1 rfl ?_
        exact g_iret T (pc := 38) d_P_unpack_38 rfl (Nat.le_refl _) (Nat.le_refl _) (poI h)
    refine g_if_ne (tgt := 33) F (pc := 18) d_P_unpack_18 (by decide) (fun b6 => ?_) (fun b6 => ?_)
    · replace h := h.1 b6
      refine g_lv (lv' := [(0, .ref x0), (1, .int v5)]) F [1, 0] rfl ?_
      exact jn13 _ _ h
    · replace h := h.2 b6
      refine g_aload_n F (pc := 21) d_P_unpack_21 1 rfl (gc_getR F (pc := 22) d_P_unpack_22 fi_P_66 o1 (g_aload_n F (pc := 25) d_P_unpack_25 1 rfl (gc_getR F (pc := 26) d_P_unpack_26 fi_P_39 o1 ?_)))
      obtain ⟨o33, h⟩ := h
      refine gc_callVI (As := [.ref (rf x0 4)]) (st := []) F (pc := 29) d_P_unpack_29 cb_P_172 iv_Rea_readThings np_Rea_readThings o33 vc_6 (c_Rea_readThings h) rfl (by decide) (Nat.le_refl _) (Nat.le_refl _) (Nat.le_of_ble_eq_true rfl) (fun v35 c34 h => ?_)
      refine g_istore_n (lv' := [(1, .int v35), (0, .ref x0)]) F (pc := 32) d_P_unpack_32 (by decide) rfl ?_
      refine g_lv (lv' := [(0, .ref x0), (1, .int v35)]) F [1, 0] rfl ?_
      exact jn13 _ _ h
  · replace h := h.2 b3
    refine g_iconst (v := (-1)) F (pc := 10) d_P_unpack_10 (by decide) ?_
    exact g_iret T (pc := 11) d_P_unpack_11 rfl (Nat.le_refl _) (Nat.le_refl _) (poI h)
theorem d_P_things_0 : decode M_P_things.2.1 0 = .ok (.aload_n 0, 1) := by decide +kernel
theorem d_P_things_1 : decode M_P_things.2.1 1 = .ok (.getfield 12, 3) := by decide +kernel
theorem d_P_things_4 : decode M_P_things.2.1 4 = .ok (.getfield 135, 3) := by decide +kernel
theorem d_P_things_7 : decode M_P_things.2.1 7 = .ok (.ireturn, 1) := by decide +kernel
def f_P_things (x0 : Nat) (c : cM) (K : Int32 → cM → Prop) : Prop :=
  kd x0 = 0 ∧ (kd (rf x0 0) = 4 ∧ (K (c (rf x0 0) 1) c))
theorem c_P_things {x0 : Nat} {c : cM} {K : Int32 → cM → Prop} (h : f_P_things x0 c K) : Ct M_P_things 0 0 0 (wd c) [.ref x0] (PoI K) := by
  refine Ct.of (by decide +kernel) (Nat.le_of_ble_eq_true rfl) (fun Z T => ?_)
  have F := T.F
  unfold f_P_things at h
  show Z (wd c) 0 [(0, .ref x0)] [] 0 0
  refine g_aload_n F (pc := 0) d_P_things_0 0 rfl ?_
  obtain ⟨o1, h⟩ := h
  refine gc_getR F (pc := 1) d_P_things_1 fi_P_12 o1 ?_
  obtain ⟨o2, h⟩ := h
  refine gc_getI F (pc := 4) d_P_things_4 fi_P_135 o2 ?_
  exact g_iret T (pc := 7) d_P_things_7 rfl (Nat.le_refl _) (Nat.le_refl _) (poI h)
theorem d_P_cut_0 : decode M_P_cut.2.1 0 = .ok (.iload_n 1, 1) := by decide +kernel
theorem d_P_cut_1 : decode M_P_cut.2.1 1 = .ok (.iconst 1, 1) := by decide +kernel
theorem d_P_cut_2 : decode M_P_cut.2.1 2 = .ok (.if_icmp .lt 14, 3) := by decide +kernel
theorem d_P_cut_5 : decode M_P_cut.2.1 5 = .ok (.iload_n 1, 1) := by decide +kernel
theorem d_P_cut_6 : decode M_P_cut.2.1 6 = .ok (.aload_n 0, 1) := by decide +kernel
theorem d_P_cut_7 : decode M_P_cut.2.1 7 = .ok (.getfield 39, 3) := by decide +kernel
theorem d_P_cut_10 : decode M_P_cut.2.1 10 = .ok (.getfield 70, 3) := by decide +kernel
theorem d_P_cut_13 : decode M_P_cut.2.1 13 = .ok (.if_icmp .le 5, 3) := by decide +kernel
theorem d_P_cut_16 : decode M_P_cut.2.1 16 = .ok (.iconst 0, 1) := by decide +kernel
theorem d_P_cut_17 : decode M_P_cut.2.1 17 = .ok (.ireturn, 1) := by decide +kernel
theorem d_P_cut_18 : decode M_P_cut.2.1 18 = .ok (.aload_n 0, 1) := by decide +kernel
theorem d_P_cut_19 : decode M_P_cut.2.1 19 = .ok (.getfield 39, 3) := by decide +kernel
theorem d_P_cut_22 : decode M_P_cut.2.1 22 = .ok (.dup, 1) := by decide +kernel
theorem d_P_cut_23 : decode M_P_cut.2.1 23 = .ok (.getfield 70, 3) := by decide +kernel
theorem d_P_cut_26 : decode M_P_cut.2.1 26 = .ok (.iload_n 1, 1) := by decide +kernel
theorem d_P_cut_27 : decode M_P_cut.2.1 27 = .ok (.isub, 1) := by decide +kernel
theorem d_P_cut_28 : decode M_P_cut.2.1 28 = .ok (.putfield 70, 3) := by decide +kernel
theorem d_P_cut_31 : decode M_P_cut.2.1 31 = .ok (.iconst 1, 1) := by decide +kernel
theorem d_P_cut_32 : decode M_P_cut.2.1 32 = .ok (.ireturn, 1) := by decide +kernel
def f_P_cut (x0 : Nat) (x1 : Int32) (c : cM) (K : Int32 → cM → Prop) : Prop :=
  ((x1 < 1) → (K 0 c)) ∧ (¬ (x1 < 1) → (kd x0 = 0 ∧ (kd (rf x0 4) = 1 ∧ (((x1 ≤ (c (rf x0 4) 1)) → (∀ c5 : cM, c5 = c_up c (rf x0 4) 1 ((c (rf x0 4) 1) - x1) → (K 1 c5))) ∧ (¬ (x1 ≤ (c (rf x0 4) 1)) → (K 0 c))))))
theorem c_P_cut {x0 : Nat} {x1 : Int32} {c : cM} {K : Int32 → cM → Prop} (h : f_P_cut x0 x1 c K) : Ct M_P_cut 0 0 0 (wd c) [.ref x0, .int x1] (PoI K) := by
  refine Ct.of (by decide +kernel) (Nat.le_of_ble_eq_true rfl) (fun Z T => ?_)
  have F := T.F
  unfold f_P_cut at h
  show Z (wd c) 0 [(0, .ref x0), (1, .int x1)] [] 0 0
  refine g_iload_n F (pc := 0) d_P_cut_0 1 rfl (g_iconst (v := 1) F (pc := 1) d_P_cut_1 (by decide) ?_)
  refine g_icmp_lt (tgt := 16) F (pc := 2) d_P_cut_2 (by decide) (fun b1 => ?_) (fun b1 => ?_)
  · replace h := h.1 b1
    refine g_iconst (v := 0) F (pc := 16) d_P_cut_16 (by decide) ?_
    exact g_zret T (pc := 17) d_P_cut_17 rfl (by decide) (Nat.le_refl _) (Nat.le_refl _) (poI h)
  · replace h := h.2 b1
    refine g_iload_n F (pc := 5) d_P_cut_5 1 rfl (g_aload_n F (pc := 6) d_P_cut_6 0 rfl ?_)
    obtain ⟨o2, h⟩ := h
    refine gc_getR F (pc := 7) d_P_cut_7 fi_P_39 o2 ?_
    obtain ⟨o3, h⟩ := h
    refine gc_getI F (pc := 10) d_P_cut_10 fi_P_70 o3 ?_
    refine g_icmp_le (tgt := 18) F (pc := 13) d_P_cut_13 (by decide) (fun b4 => ?_) (fun b4 => ?_)
    · replace h := h.1 b4
      refine g_aload_n F (pc := 18) d_P_cut_18 0 rfl (gc_getR F (pc := 19) d_P_cut_19 fi_P_39 o2 (g_dup F (pc := 22) d_P_cut_22 rfl (gc_getI F (pc := 23) d_P_cut_23 fi_P_70 o3 (g_iload_n F (pc := 26) d_P_cut_26 1 rfl (g_isub F (pc := 27) d_P_cut_27 ?_)))))
      refine gc_putI F (pc := 28) d_P_cut_28 pi_P_70 o3 ?_
      obtain ⟨c5, ec5⟩ : ∃ c5 : cM, c5 = c_up c (rf x0 4) 1 ((c (rf x0 4) 1) - x1) := ⟨_, rfl⟩
      rw [← ec5]
      replace h := h c5 ec5
      refine g_iconst (v := 1) F (pc := 31) d_P_cut_31 (by decide) ?_
      exact g_zret T (pc := 32) d_P_cut_32 rfl (by decide) (Nat.le_refl _) (Nat.le_refl _) (poI h)
    · replace h := h.2 b4
      refine g_iconst (v := 0) F (pc := 16) d_P_cut_16 (by decide) ?_
      exact g_zret T (pc := 17) d_P_cut_17 rfl (by decide) (Nat.le_refl _) (Nat.le_refl _) (poI h)
theorem d_P_reached_0 : decode M_P_reached.2.1 0 = .ok (.aload_n 0, 1) := by decide +kernel
theorem d_P_reached_1 : decode M_P_reached.2.1 1 = .ok (.getfield 12, 3) := by decide +kernel
theorem d_P_reached_4 : decode M_P_reached.2.1 4 = .ok (.iload_n 1, 1) := by decide +kernel
theorem d_P_reached_5 : decode M_P_reached.2.1 5 = .ok (.invokevirtual 97, 3) := by decide +kernel
theorem d_P_reached_8 : decode M_P_reached.2.1 8 = .ok (.ifCond .ne 5, 3) := by decide +kernel
theorem d_P_reached_11 : decode M_P_reached.2.1 11 = .ok (.iconst 0, 1) := by decide +kernel
theorem d_P_reached_12 : decode M_P_reached.2.1 12 = .ok (.ireturn, 1) := by decide +kernel
theorem d_P_reached_13 : decode M_P_reached.2.1 13 = .ok (.aload_n 0, 1) := by decide +kernel
theorem d_P_reached_14 : decode M_P_reached.2.1 14 = .ok (.getfield 12, 3) := by decide +kernel
theorem d_P_reached_17 : decode M_P_reached.2.1 17 = .ok (.invokevirtual 144, 3) := by decide +kernel
theorem d_P_reached_20 : decode M_P_reached.2.1 20 = .ok (.aload_n 0, 1) := by decide +kernel
theorem d_P_reached_21 : decode M_P_reached.2.1 21 = .ok (.getfield 12, 3) := by decide +kernel
theorem d_P_reached_24 : decode M_P_reached.2.1 24 = .ok (.getfield 147, 3) := by decide +kernel
theorem d_P_reached_27 : decode M_P_reached.2.1 27 = .ok (.iload_n 1, 1) := by decide +kernel
theorem d_P_reached_28 : decode M_P_reached.2.1 28 = .ok (.baload, 1) := by decide +kernel
theorem d_P_reached_29 : decode M_P_reached.2.1 29 = .ok (.ireturn, 1) := by decide +kernel
def f_P_reached (x0 : Nat) (x1 : Int32) (c : cM) (K : Int32 → cM → Prop) : Prop :=
  kd x0 = 0 ∧ (kd (rf x0 0) = 4 ∧ (f_Store_has (rf x0 0) x1 c (fun v4 c3 => ((¬ v4 = 0) → (f_Store_markReached (rf x0 0) c3 (fun c6 => kd (rf (rf x0 0) 3) = 101 ∧ (vp_in x1 (ln (rf (rf x0 0) 3)) ∧ (bz (c6 (rf (rf x0 0) 3) (Int32.toNatClampNeg x1)) ∧ (K (c6 (rf (rf x0 0) 3) (Int32.toNatClampNeg x1)) c6)))))) ∧ (v4 = 0 → (K 0 c3)))))
theorem c_P_reached {x0 : Nat} {x1 : Int32} {c : cM} {K : Int32 → cM → Prop} (h : f_P_reached x0 x1 c K) : Ct M_P_reached 5 0 0 (wd c) [.ref x0, .int x1] (PoI K) := by
  refine Ct.of (by decide +kernel) (Nat.le_of_ble_eq_true rfl) (fun Z T => ?_)
  have F := T.F
  unfold f_P_reached at h
  show Z (wd c) 0 [(0, .ref x0), (1, .int x1)] [] 0 0
  refine g_aload_n F (pc := 0) d_P_reached_0 0 rfl ?_
  obtain ⟨o1, h⟩ := h
  refine gc_getR F (pc := 1) d_P_reached_1 fi_P_12 o1 (g_iload_n F (pc := 4) d_P_reached_4 1 rfl ?_)
  obtain ⟨o2, h⟩ := h
  refine gc_callVI (As := [.int x1]) (st := []) F (pc := 5) d_P_reached_5 cb_P_97 iv_Store_has np_Store_has o2 vc_4 (c_Store_has h) rfl (by decide) (Nat.le_refl _) (Nat.le_refl _) (Nat.le_of_ble_eq_true rfl) (fun v4 c3 h => ?_)
  refine g_if_ne (tgt := 13) F (pc := 8) d_P_reached_8 (by decide) (fun b5 => ?_) (fun b5 => ?_)
  · replace h := h.1 b5
    refine g_aload_n F (pc := 13) d_P_reached_13 0 rfl (gc_getR F (pc := 14) d_P_reached_14 fi_P_12 o1 ?_)
    refine gc_callVV (As := []) (st := []) F (pc := 17) d_P_reached_17 cb_P_144 iv_Store_markReached np_Store_markReached o2 vc_4 (c_Store_markReached h) rfl (by decide) (Nat.le_refl _) (Nat.le_refl _) (Nat.le_of_ble_eq_true rfl) (fun c6 h => ?_)
    refine g_aload_n F (pc := 20) d_P_reached_20 0 rfl (gc_getR F (pc := 21) d_P_reached_21 fi_P_12 o1 (gc_getR F (pc := 24) d_P_reached_24 fi_P_147 o2 (g_iload_n F (pc := 27) d_P_reached_27 1 rfl ?_)))
    obtain ⟨o7, h⟩ := h
    obtain ⟨o8, h⟩ := h
    refine gc_zald F (pc := 28) d_P_reached_28 o7 o8 ?_
    obtain ⟨o9, h⟩ := h
    exact g_zret T (pc := 29) d_P_reached_29 rfl (bz_n o9) (Nat.le_refl _) (Nat.le_refl _) (poI h)
  · replace h := h.2 b5
    refine g_iconst (v := 0) F (pc := 11) d_P_reached_11 (by decide) ?_
    exact g_zret T (pc := 12) d_P_reached_12 rfl (by decide) (Nat.le_refl _) (Nat.le_refl _) (poI h)
theorem d_P_bringMade_0 : decode M_P_bringMade.2.1 0 = .ok (.aload_n 0, 1) := by decide +kernel
theorem d_P_bringMade_1 : decode M_P_bringMade.2.1 1 = .ok (.getfield 45, 3) := by decide +kernel
theorem d_P_bringMade_4 : decode M_P_bringMade.2.1 4 = .ok (.aload_n 0, 1) := by decide +kernel
theorem d_P_bringMade_5 : decode M_P_bringMade.2.1 5 = .ok (.getfield 52, 3) := by decide +kernel
theorem d_P_bringMade_8 : decode M_P_bringMade.2.1 8 = .ok (.invokevirtual 180, 3) := by decide +kernel
theorem d_P_bringMade_11 : decode M_P_bringMade.2.1 11 = .ok (.aload_n 0, 1) := by decide +kernel
theorem d_P_bringMade_12 : decode M_P_bringMade.2.1 12 = .ok (.getfield 12, 3) := by decide +kernel
theorem d_P_bringMade_15 : decode M_P_bringMade.2.1 15 = .ok (.aload_n 0, 1) := by decide +kernel
theorem d_P_bringMade_16 : decode M_P_bringMade.2.1 16 = .ok (.getfield 52, 3) := by decide +kernel
theorem d_P_bringMade_19 : decode M_P_bringMade.2.1 19 = .ok (.invokevirtual 199, 3) := by decide +kernel
theorem d_P_bringMade_22 : decode M_P_bringMade.2.1 22 = .ok (.ireturn, 1) := by decide +kernel
def f_P_bringMade (x0 : Nat) (c : cM) (K : Int32 → cM → Prop) : Prop :=
  kd x0 = 0 ∧ (kd (rf x0 5) = 2 ∧ (f_Sum_giveName (rf x0 5) (rf x0 6) c (fun c3 => kd (rf x0 0) = 4 ∧ (f_Store_bring (rf x0 0) (rf x0 6) c3 (fun v6 c5 => K v6 c5)))))
theorem c_P_bringMade {x0 : Nat} {c : cM} {K : Int32 → cM → Prop} (h : f_P_bringMade x0 c K) : Ct M_P_bringMade 6 0 0 (wd c) [.ref x0] (PoI K) := by
  refine Ct.of (by decide +kernel) (Nat.le_of_ble_eq_true rfl) (fun Z T => ?_)
  have F := T.F
  unfold f_P_bringMade at h
  show Z (wd c) 0 [(0, .ref x0)] [] 0 0
  refine g_aload_n F (pc := 0) d_P_bringMade_0 0 rfl ?_
  obtain ⟨o1, h⟩ := h
  refine gc_getR F (pc := 1) d_P_bringMade_1 fi_P_45 o1 (g_aload_n F (pc := 4) d_P_bringMade_4 0 rfl (gc_getR F (pc := 5) d_P_bringMade_5 fi_P_52 o1 ?_))
  obtain ⟨o2, h⟩ := h
  refine gc_callVV (As := [.ref (rf x0 6)]) (st := []) F (pc := 8) d_P_bringMade_8 cb_P_180 iv_Sum_giveName np_Sum_giveName o2 vc_2 (c_Sum_giveName h) rfl (by decide) (Nat.le_refl _) (Nat.le_refl _) (Nat.le_of_ble_eq_true rfl) (fun c3 h => ?_)
  refine g_aload_n F (pc := 11) d_P_bringMade_11 0 rfl (gc_getR F (pc := 12) d_P_bringMade_12 fi_P_12 o1 (g_aload_n F (pc := 15) d_P_bringMade_15 0 rfl (gc_getR F (pc := 16) d_P_bringMade_16 fi_P_52 o1 ?_)))
  obtain ⟨o4, h⟩ := h
  refine gc_callVI (As := [.ref (rf x0 6)]) (st := []) F (pc := 19) d_P_bringMade_19 cb_P_199 iv_Store_bring np_Store_bring o4 vc_4 (c_Store_bring h) rfl (by decide) (Nat.le_refl _) (Nat.le_refl _) (Nat.le_of_ble_eq_true rfl) (fun v6 c5 h => ?_)
  exact g_iret T (pc := 22) d_P_bringMade_22 rfl (Nat.le_refl _) (Nat.le_refl _) (poI h)
theorem d_P_blob_0 : decode M_P_blob.2.1 0 = .ok (.aload_n 0, 1) := by decide +kernel
theorem d_P_blob_1 : decode M_P_blob.2.1 1 = .ok (.getfield 52, 3) := by decide +kernel
theorem d_P_blob_4 : decode M_P_blob.2.1 4 = .ok (.iconst 3, 1) := by decide +kernel
theorem d_P_blob_5 : decode M_P_blob.2.1 5 = .ok (.invokevirtual 76, 3) := by decide +kernel
theorem d_P_blob_8 : decode M_P_blob.2.1 8 = .ok (.aload_n 0, 1) := by decide +kernel
theorem d_P_blob_9 : decode M_P_blob.2.1 9 = .ok (.getfield 52, 3) := by decide +kernel
theorem d_P_blob_12 : decode M_P_blob.2.1 12 = .ok (.getfield 79, 3) := by decide +kernel
theorem d_P_blob_15 : decode M_P_blob.2.1 15 = .ok (.aload_n 0, 1) := by decide +kernel
theorem d_P_blob_16 : decode M_P_blob.2.1 16 = .ok (.getfield 21, 3) := by decide +kernel
theorem d_P_blob_19 : decode M_P_blob.2.1 19 = .ok (.iconst 0, 1) := by decide +kernel
theorem d_P_blob_20 : decode M_P_blob.2.1 20 = .ok (.aload_n 0, 1) := by decide +kernel
theorem d_P_blob_21 : decode M_P_blob.2.1 21 = .ok (.getfield 21, 3) := by decide +kernel
theorem d_P_blob_24 : decode M_P_blob.2.1 24 = .ok (.getfield 70, 3) := by decide +kernel
theorem d_P_blob_27 : decode M_P_blob.2.1 27 = .ok (.invokevirtual 82, 3) := by decide +kernel
theorem d_P_blob_30 : decode M_P_blob.2.1 30 = .ok (.pop, 1) := by decide +kernel
theorem d_P_blob_31 : decode M_P_blob.2.1 31 = .ok (.aload_n 0, 1) := by decide +kernel
theorem d_P_blob_32 : decode M_P_blob.2.1 32 = .ok (.invokevirtual 86, 3) := by decide +kernel
theorem d_P_blob_35 : decode M_P_blob.2.1 35 = .ok (.istore_n 1, 1) := by decide +kernel
theorem d_P_blob_36 : decode M_P_blob.2.1 36 = .ok (.iload_n 1, 1) := by decide +kernel
theorem d_P_blob_37 : decode M_P_blob.2.1 37 = .ok (.ifCond .lt 10, 3) := by decide +kernel
theorem d_P_blob_40 : decode M_P_blob.2.1 40 = .ok (.aload_n 0, 1) := by decide +kernel
theorem d_P_blob_41 : decode M_P_blob.2.1 41 = .ok (.getfield 21, 3) := by decide +kernel
theorem d_P_blob_44 : decode M_P_blob.2.1 44 = .ok (.invokevirtual 90, 3) := by decide +kernel
theorem d_P_blob_47 : decode M_P_blob.2.1 47 = .ok (.iload_n 1, 1) := by decide +kernel
theorem d_P_blob_48 : decode M_P_blob.2.1 48 = .ok (.ireturn, 1) := by decide +kernel
def f_P_blob (x0 : Nat) (c : cM) (K : Int32 → cM → Prop) : Prop :=
  kd x0 = 0 ∧ (kd (rf x0 6) = 3 ∧ (f_Thing_begin (rf x0 6) 3 c (fun c3 => kd (rf x0 1) = 1 ∧ (kd (rf (rf x0 6) 1) = 1 ∧ (f_Row_putPart (rf (rf x0 6) 1) (rf x0 1) 0 (c3 (rf x0 1) 1) c3 (fun v7 c6 => f_P_bringMade x0 c6 (fun v9 c8 => ((v9 < 0) → (K v9 c8)) ∧ (¬ (v9 < 0) → (f_Row_clear (rf x0 1) c8 (fun c11 => K v9 c11))))))))))
theorem c_P_blob {x0 : Nat} {c : cM} {K : Int32 → cM → Prop} (h : f_P_blob x0 c K) : Ct M_P_blob 7 0 0 (wd c) [.ref x0] (PoI K) := by
  refine Ct.of (by decide +kernel) (Nat.le_of_ble_eq_true rfl) (fun Z T => ?_)
  have F := T.F
  unfold f_P_blob at h
  show Z (wd c) 0 [(0, .ref x0)] [] 0 0
  refine g_aload_n F (pc := 0) d_P_blob_0 0 rfl ?_
  obtain ⟨o1, h⟩ := h
  refine gc_getR F (pc := 1) d_P_blob_1 fi_P_52 o1 (g_iconst (v := 3) F (pc := 4) d_P_blob_4 (by decide) ?_)
  obtain ⟨o2, h⟩ := h
  refine gc_callVV (As := [.int 3]) (st := []) F (pc := 5) d_P_blob_5 cb_P_76 iv_Thing_begin np_Thing_begin o2 vc_3 (c_Thing_begin h) rfl (by decide) (Nat.le_refl _) (Nat.le_refl _) (Nat.le_of_ble_eq_true rfl) (fun c3 h => ?_)
  refine g_aload_n F (pc := 8) d_P_blob_8 0 rfl (gc_getR F (pc := 9) d_P_blob_9 fi_P_52 o1 (gc_getR F (pc := 12) d_P_blob_12 fi_P_79 o2 (g_aload_n F (pc := 15) d_P_blob_15 0 rfl (gc_getR F (pc := 16) d_P_blob_16 fi_P_21 o1 (g_iconst (v := 0) F (pc := 19) d_P_blob_19 (by decide) ?_)))))
  refine g_aload_n F (pc := 20) d_P_blob_20 0 rfl (gc_getR F (pc := 21) d_P_blob_21 fi_P_21 o1 ?_)
  obtain ⟨o4, h⟩ := h
  refine gc_getI F (pc := 24) d_P_blob_24 fi_P_70 o4 ?_
  obtain ⟨o5, h⟩ := h
  refine gc_callVI (As := [.ref (rf x0 1), .int 0, .int (c3 (rf x0 1) 1)]) (st := []) F (pc := 27) d_P_blob_27 cb_P_82 iv_Row_putPart np_Row_putPart o5 vc_1 (c_Row_putPart h) rfl (by decide) (Nat.le_refl _) (Nat.le_refl _) (Nat.le_of_ble_eq_true rfl) (fun v7 c6 h => ?_)
  refine g_pop F (pc := 30) d_P_blob_30 rfl (g_aload_n F (pc := 31) d_P_blob_31 0 rfl ?_)
  refine gc_callVI (As := []) (st := []) F (pc := 32) d_P_blob_32 cb_P_86 iv_P_bringMade np_P_bringMade o1 vc_0 (c_P_bringMade h) rfl (by decide) (Nat.le_refl _) (Nat.le_refl _) (Nat.le_of_ble_eq_true rfl) (fun v9 c8 h => ?_)
  refine g_istore_n (lv' := [(1, .int v9), (0, .ref x0)]) F (pc := 35) d_P_blob_35 (by decide) rfl (g_iload_n F (pc := 36) d_P_blob_36 0 rfl ?_)
  refine g_if_lt (tgt := 47) F (pc := 37) d_P_blob_37 (by decide) (fun b10 => ?_) (fun b10 => ?_)
  · replace h := h.1 b10
    refine g_iload_n F (pc := 47) d_P_blob_47 0 rfl ?_
    exact g_iret T (pc := 48) d_P_blob_48 rfl (Nat.le_refl _) (Nat.le_refl _) (poI h)
  · replace h := h.2 b10
    refine g_aload_n F (pc := 40) d_P_blob_40 1 rfl (gc_getR F (pc := 41) d_P_blob_41 fi_P_21 o1 ?_)
    refine gc_callVV (As := []) (st := []) F (pc := 44) d_P_blob_44 cb_P_90 iv_Row_clear np_Row_clear o4 vc_1 (c_Row_clear h) rfl (by decide) (Nat.le_refl _) (Nat.le_refl _) (Nat.le_of_ble_eq_true rfl) (fun c11 h => ?_)
    refine g_iload_n F (pc := 47) d_P_blob_47 0 rfl ?_
    exact g_iret T (pc := 48) d_P_blob_48 rfl (Nat.le_refl _) (Nat.le_refl _) (poI h)
theorem d_P_putEntry_0 : decode M_P_putEntry.2.1 0 = .ok (.aload_n 0, 1) := by decide +kernel
theorem d_P_putEntry_1 : decode M_P_putEntry.2.1 1 = .ok (.getfield 52, 3) := by decide +kernel
theorem d_P_putEntry_4 : decode M_P_putEntry.2.1 4 = .ok (.getfield 79, 3) := by decide +kernel
theorem d_P_putEntry_7 : decode M_P_putEntry.2.1 7 = .ok (.aload_n 2, 1) := by decide +kernel
theorem d_P_putEntry_8 : decode M_P_putEntry.2.1 8 = .ok (.getfield 203, 3) := by decide +kernel
theorem d_P_putEntry_11 : decode M_P_putEntry.2.1 11 = .ok (.iconst 3, 1) := by decide +kernel
theorem d_P_putEntry_12 : decode M_P_putEntry.2.1 12 = .ok (.if_icmp .ne 8, 3) := by decide +kernel
theorem d_P_putEntry_15 : decode M_P_putEntry.2.1 15 = .ok (.ldc 206, 2) := by decide +kernel
theorem d_P_putEntry_17 : decode M_P_putEntry.2.1 17 = .ok (.goto 5, 3) := by decide +kernel
theorem d_P_putEntry_20 : decode M_P_putEntry.2.1 20 = .ok (.ldc 208, 2) := by decide +kernel
theorem d_P_putEntry_22 : decode M_P_putEntry.2.1 22 = .ok (.invokevirtual 122, 3) := by decide +kernel
theorem d_P_putEntry_25 : decode M_P_putEntry.2.1 25 = .ok (.aload_n 0, 1) := by decide +kernel
theorem d_P_putEntry_26 : decode M_P_putEntry.2.1 26 = .ok (.getfield 52, 3) := by decide +kernel
theorem d_P_putEntry_29 : decode M_P_putEntry.2.1 29 = .ok (.getfield 79, 3) := by decide +kernel
theorem d_P_putEntry_32 : decode M_P_putEntry.2.1 32 = .ok (.bipush 97, 2) := by decide +kernel
theorem d_P_putEntry_34 : decode M_P_putEntry.2.1 34 = .ok (.iload_n 1, 1) := by decide +kernel
theorem d_P_putEntry_35 : decode M_P_putEntry.2.1 35 = .ok (.iadd, 1) := by decide +kernel
theorem d_P_putEntry_36 : decode M_P_putEntry.2.1 36 = .ok (.invokevirtual 73, 3) := by decide +kernel
theorem d_P_putEntry_39 : decode M_P_putEntry.2.1 39 = .ok (.aload_n 0, 1) := by decide +kernel
theorem d_P_putEntry_40 : decode M_P_putEntry.2.1 40 = .ok (.getfield 52, 3) := by decide +kernel
theorem d_P_putEntry_43 : decode M_P_putEntry.2.1 43 = .ok (.getfield 79, 3) := by decide +kernel
theorem d_P_putEntry_46 : decode M_P_putEntry.2.1 46 = .ok (.iconst 0, 1) := by decide +kernel
theorem d_P_putEntry_47 : decode M_P_putEntry.2.1 47 = .ok (.invokevirtual 73, 3) := by decide +kernel
theorem d_P_putEntry_50 : decode M_P_putEntry.2.1 50 = .ok (.aload_n 0, 1) := by decide +kernel
theorem d_P_putEntry_51 : decode M_P_putEntry.2.1 51 = .ok (.getfield 52, 3) := by decide +kernel
theorem d_P_putEntry_54 : decode M_P_putEntry.2.1 54 = .ok (.getfield 79, 3) := by decide +kernel
theorem d_P_putEntry_57 : decode M_P_putEntry.2.1 57 = .ok (.aload_n 2, 1) := by decide +kernel
theorem d_P_putEntry_58 : decode M_P_putEntry.2.1 58 = .ok (.getfield 141, 3) := by decide +kernel
theorem d_P_putEntry_61 : decode M_P_putEntry.2.1 61 = .ok (.invokevirtual 162, 3) := by decide +kernel
theorem d_P_putEntry_64 : decode M_P_putEntry.2.1 64 = .ok (.return_, 1) := by decide +kernel
def f_P_putEntry (x0 : Nat) (x1 : Int32) (x2 : Nat) (c : cM) (K : cM → Prop) : Prop :=
  kd x0 = 0 ∧ (kd (rf x0 6) = 3 ∧ (kd x2 = 3 ∧ (∃ J6 : Nat → Prop, (∀ (s5 : Nat), J6 s5 → (kd (rf (rf x0 6) 1) = 1 ∧ (f_Row_putText (rf (rf x0 6) 1) s5 c (fun c9 => f_Row_put (rf (rf x0 6) 1) (97 + x1) c9 (fun c10 => f_Row_put (rf (rf x0 6) 1) 0 c10 (fun c11 => f_Row_putInts (rf (rf x0 6) 1) (rf x2 2) c11 (fun c12 => K c12))))))) ∧ (((¬ (c x2 0) = 3) → (J6 7)) ∧ ((c x2 0) = 3 → (J6 6))))))
theorem c_P_putEntry {x0 : Nat} {x1 : Int32} {x2 : Nat} {c : cM} {K : cM → Prop} (h : f_P_putEntry x0 x1 x2 c K) : Ct M_P_putEntry 5 0 0 (wd c) [.ref x0, .int x1, .ref x2] (PoV K) := by
  refine Ct.of (by decide +kernel) (Nat.le_of_ble_eq_true rfl) (fun Z T => ?_)
  have F := T.F
  unfold f_P_putEntry at h
  show Z (wd c) 0 [(0, .ref x0), (1, .int x1), (2, .ref x2)] [] 0 0
  refine g_aload_n F (pc := 0) d_P_putEntry_0 0 rfl ?_
  obtain ⟨o1, h⟩ := h
  refine gc_getR F (pc := 1) d_P_putEntry_1 fi_P_52 o1 ?_
  obtain ⟨o2, h⟩ := h
  refine gc_getR F (pc := 4) d_P_putEntry_4 fi_P_79 o2 (g_aload_n F (pc := 7) d_P_putEntry_7 2 rfl ?_)
  obtain ⟨o3, h⟩ := h
  refine gc_getI F (pc := 8) d_P_putEntry_8 fi_P_203 o3 (g_iconst (v := 3) F (pc := 11) d_P_putEntry_11 (by decide) ?_)
  obtain ⟨J6, hJ6, h⟩ := h
  have jn7 : ∀ (s5 : Nat), J6 s5 → Z (wd c) 22 [(0, .ref x0), (1, .int x1), (2, .ref x2)] [.ref s5, .ref (rf (rf x0 6) 1)] 0 0 := by
    intro s5 h
    replace h := hJ6 s5 h
    obtain ⟨o8, h⟩ := h
    refine gc_callVV (As := [.ref s5]) (st := []) F (pc := 22) d_P_putEntry_22 cb_P_122 iv_Row_putText np_Row_putText o8 vc_1 (c_Row_putText h) rfl (by decide) (Nat.le_refl _) (Nat.le_refl _) (Nat.le_of_ble_eq_true rfl) (fun c9 h => ?_)
    refine g_aload_n F (pc := 25) d_P_putEntry_25 0 rfl (gc_getR F (pc := 26) d_P_putEntry_26 fi_P_52 o1 (gc_getR F (pc := 29) d_P_putEntry_29 fi_P_79 o2 (g_bipush (v := 97) F (pc := 32) d_P_putEntry_32 (by decide) (g_iload_n F (pc := 34) d_P_putEntry_34 1 rfl (g_iadd F (pc := 35) d_P_putEntry_35 ?_)))))
    refine gc_callVV (As := [.int (97 + x1)]) (st := []) F (pc := 36) d_P_putEntry_36 cb_P_73 iv_Row_put np_Row_put o8 vc_1 (c_Row_put h) rfl (by decide) (Nat.le_refl _) (Nat.le_refl _) (Nat.le_of_ble_eq_true rfl) (fun c10 h => ?_)
    refine g_aload_n F (pc := 39) d_P_putEntry_39 0 rfl (gc_getR F (pc := 40) d_P_putEntry_40 fi_P_52 o1 (gc_getR F (pc := 43) d_P_putEntry_43 fi_P_79 o2 (g_iconst (v := 0) F (pc := 46) d_P_putEntry_46 (by decide) ?_)))
    refine gc_callVV (As := [.int 0]) (st := []) F (pc := 47) d_P_putEntry_47 cb_P_73 iv_Row_put np_Row_put o8 vc_1 (c_Row_put h) rfl (by decide) (Nat.le_refl _) (Nat.le_refl _) (Nat.le_of_ble_eq_true rfl) (fun c11 h => ?_)
    refine g_aload_n F (pc := 50) d_P_putEntry_50 0 rfl (gc_getR F (pc := 51) d_P_putEntry_51 fi_P_52 o1 (gc_getR F (pc := 54) d_P_putEntry_54 fi_P_79 o2 (g_aload_n F (pc := 57) d_P_putEntry_57 2 rfl (gc_getR F (pc := 58) d_P_putEntry_58 fi_P_141 o3 ?_))))
    refine gc_callVV (As := [.ref (rf x2 2)]) (st := []) F (pc := 61) d_P_putEntry_61 cb_P_162 iv_Row_putInts np_Row_putInts o8 vc_1 (c_Row_putInts h) rfl (by decide) (Nat.le_refl _) (Nat.le_refl _) (Nat.le_of_ble_eq_true rfl) (fun c12 h => ?_)
    exact g_vret T (pc := 64) d_P_putEntry_64 rfl (Nat.le_refl _) (Nat.le_refl _) (poV h)
  refine g_icmp_ne (tgt := 20) F (pc := 12) d_P_putEntry_12 (by decide) (fun b4 => ?_) (fun b4 => ?_)
  · replace h := h.1 b4
    refine go_ldc F (pc := 20) d_P_putEntry_20 sr_P_208 ?_
    exact jn7 _ h
  · replace h := h.2 b4
    refine go_ldc F (pc := 15) d_P_putEntry_15 sr_P_206 (g_goto (tgt := 22) F (pc := 17) d_P_putEntry_17 (by decide) ?_)
    exact jn7 _ h
theorem d_P_entry_0 : decode M_P_entry.2.1 0 = .ok (.iload_n 1, 1) := by decide +kernel
theorem d_P_entry_1 : decode M_P_entry.2.1 1 = .ok (.ifCond .lt 9, 3) := by decide +kernel
theorem d_P_entry_4 : decode M_P_entry.2.1 4 = .ok (.iload_n 1, 1) := by decide +kernel
theorem d_P_entry_5 : decode M_P_entry.2.1 5 = .ok (.bipush 26, 2) := by decide +kernel
theorem d_P_entry_7 : decode M_P_entry.2.1 7 = .ok (.if_icmp .lt 5, 3) := by decide +kernel
theorem d_P_entry_10 : decode M_P_entry.2.1 10 = .ok (.iconst (-1), 1) := by decide +kernel
theorem d_P_entry_11 : decode M_P_entry.2.1 11 = .ok (.ireturn, 1) := by decide +kernel
theorem d_P_entry_12 : decode M_P_entry.2.1 12 = .ok (.aload_n 0, 1) := by decide +kernel
theorem d_P_entry_13 : decode M_P_entry.2.1 13 = .ok (.getfield 12, 3) := by decide +kernel
theorem d_P_entry_16 : decode M_P_entry.2.1 16 = .ok (.iload_n 2, 1) := by decide +kernel
theorem d_P_entry_17 : decode M_P_entry.2.1 17 = .ok (.invokevirtual 93, 3) := by decide +kernel
theorem d_P_entry_20 : decode M_P_entry.2.1 20 = .ok (.istore_n 3, 1) := by decide +kernel
theorem d_P_entry_21 : decode M_P_entry.2.1 21 = .ok (.iload_n 3, 1) := by decide +kernel
theorem d_P_entry_22 : decode M_P_entry.2.1 22 = .ok (.iconst 3, 1) := by decide +kernel
theorem d_P_entry_23 : decode M_P_entry.2.1 23 = .ok (.if_icmp .eq 10, 3) := by decide +kernel
theorem d_P_entry_26 : decode M_P_entry.2.1 26 = .ok (.iload_n 3, 1) := by decide +kernel
theorem d_P_entry_27 : decode M_P_entry.2.1 27 = .ok (.iconst 2, 1) := by decide +kernel
theorem d_P_entry_28 : decode M_P_entry.2.1 28 = .ok (.if_icmp .eq 5, 3) := by decide +kernel
theorem d_P_entry_31 : decode M_P_entry.2.1 31 = .ok (.iconst (-1), 1) := by decide +kernel
theorem d_P_entry_32 : decode M_P_entry.2.1 32 = .ok (.ireturn, 1) := by decide +kernel
theorem d_P_entry_33 : decode M_P_entry.2.1 33 = .ok (.aload_n 0, 1) := by decide +kernel
theorem d_P_entry_34 : decode M_P_entry.2.1 34 = .ok (.getfield 25, 3) := by decide +kernel
theorem d_P_entry_37 : decode M_P_entry.2.1 37 = .ok (.iload_n 1, 1) := by decide +kernel
theorem d_P_entry_38 : decode M_P_entry.2.1 38 = .ok (.iaload, 1) := by decide +kernel
theorem d_P_entry_39 : decode M_P_entry.2.1 39 = .ok (.iconst (-1), 1) := by decide +kernel
theorem d_P_entry_40 : decode M_P_entry.2.1 40 = .ok (.if_icmp .ne 24, 3) := by decide +kernel
theorem d_P_entry_43 : decode M_P_entry.2.1 43 = .ok (.aload_n 0, 1) := by decide +kernel
theorem d_P_entry_44 : decode M_P_entry.2.1 44 = .ok (.getfield 35, 3) := by decide +kernel
theorem d_P_entry_47 : decode M_P_entry.2.1 47 = .ok (.iconst 4, 1) := by decide +kernel
theorem d_P_entry_48 : decode M_P_entry.2.1 48 = .ok (.if_icmp .ne 6, 3) := by decide +kernel
theorem d_P_entry_51 : decode M_P_entry.2.1 51 = .ok (.bipush (-2), 2) := by decide +kernel
theorem d_P_entry_53 : decode M_P_entry.2.1 53 = .ok (.ireturn, 1) := by decide +kernel
theorem d_P_entry_54 : decode M_P_entry.2.1 54 = .ok (.aload_n 0, 1) := by decide +kernel
theorem d_P_entry_55 : decode M_P_entry.2.1 55 = .ok (.dup, 1) := by decide +kernel
theorem d_P_entry_56 : decode M_P_entry.2.1 56 = .ok (.getfield 35, 3) := by decide +kernel
theorem d_P_entry_59 : decode M_P_entry.2.1 59 = .ok (.iconst 1, 1) := by decide +kernel
theorem d_P_entry_60 : decode M_P_entry.2.1 60 = .ok (.iadd, 1) := by decide +kernel
theorem d_P_entry_61 : decode M_P_entry.2.1 61 = .ok (.putfield 35, 3) := by decide +kernel
theorem d_P_entry_64 : decode M_P_entry.2.1 64 = .ok (.aload_n 0, 1) := by decide +kernel
theorem d_P_entry_65 : decode M_P_entry.2.1 65 = .ok (.getfield 25, 3) := by decide +kernel
theorem d_P_entry_68 : decode M_P_entry.2.1 68 = .ok (.iload_n 1, 1) := by decide +kernel
theorem d_P_entry_69 : decode M_P_entry.2.1 69 = .ok (.iload_n 2, 1) := by decide +kernel
theorem d_P_entry_70 : decode M_P_entry.2.1 70 = .ok (.iastore, 1) := by decide +kernel
theorem d_P_entry_71 : decode M_P_entry.2.1 71 = .ok (.aload_n 0, 1) := by decide +kernel
theorem d_P_entry_72 : decode M_P_entry.2.1 72 = .ok (.getfield 35, 3) := by decide +kernel
theorem d_P_entry_75 : decode M_P_entry.2.1 75 = .ok (.ireturn, 1) := by decide +kernel
def f_P_entry (x0 : Nat) (x1 : Int32) (x2 : Int32) (c : cM) (K : Int32 → cM → Prop) : Prop :=
  ((x1 < 0) → (K (-1) c)) ∧ (¬ (x1 < 0) → (((x1 < 26) → (kd x0 = 0 ∧ (kd (rf x0 0) = 4 ∧ (f_Store_kindOf (rf x0 0) x2 c (fun v6 c5 => ∃ J9 : Prop, (J9  → (kd (rf x0 2) = 100 ∧ (vp_in x1 (ln (rf x0 2)) ∧ (∃ J17 : cM → Prop, (∀ (c16 : cM), J17 c16 → (∀ c19 : cM, c19 = c_up c16 (rf x0 2) (Int32.toNatClampNeg x1) x2 → (K (c19 x0 3) c19))) ∧ (((¬ (c5 (rf x0 2) (Int32.toNatClampNeg x1)) = (-1)) → (J17 c5)) ∧ ((c5 (rf x0 2) (Int32.toNatClampNeg x1)) = (-1) → (((¬ (c5 x0 3) = 4) → (∀ c21 : cM, c21 = c_up c5 x0 3 ((c5 x0 3) + 1) → (J17 c21))) ∧ ((c5 x0 3) = 4 → (K (-2) c5))))))))) ∧ (((v6 = 3) → (J9)) ∧ (¬ (v6 = 3) → (((v6 = 2) → (J9)) ∧ (¬ (v6 = 2) → (K (-1) c5)))))))))) ∧ (¬ (x1 < 26) → (K (-1) c))))
theorem c_P_entry {x0 : Nat} {x1 : Int32} {x2 : Int32} {c : cM} {K : Int32 → cM → Prop} (h : f_P_entry x0 x1 x2 c K) : Ct M_P_entry 2 0 0 (wd c) [.ref x0, .int x1, .int x2] (PoI K) := by
  refine Ct.of (by decide +kernel) (Nat.le_of_ble_eq_true rfl) (fun Z T => ?_)
  have F := T.F
  unfold f_P_entry at h
  show Z (wd c) 0 [(0, .ref x0), (1, .int x1), (2, .int x2)] [] 0 0
  refine g_iload_n F (pc := 0) d_P_entry_0 1 rfl ?_
  refine g_if_lt (tgt := 10) F (pc := 1) d_P_entry_1 (by decide) (fun b1 => ?_) (fun b1 => ?_)
  · replace h := h.1 b1
    refine g_iconst (v := (-1)) F (pc := 10) d_P_entry_10 (by decide) ?_
    exact g_iret T (pc := 11) d_P_entry_11 rfl (Nat.le_refl _) (Nat.le_refl _) (poI h)
  · replace h := h.2 b1
    refine g_iload_n F (pc := 4) d_P_entry_4 1 rfl (g_bipush (v := 26) F (pc := 5) d_P_entry_5 (by decide) ?_)
    refine g_icmp_lt (tgt := 12) F (pc := 7) d_P_entry_7 (by decide) (fun b2 => ?_) (fun b2 => ?_)
    · replace h := h.1 b2
      refine g_aload_n F (pc := 12) d_P_entry_12 0 rfl ?_
      obtain ⟨o3, h⟩ := h
      refine gc_getR F (pc := 13) d_P_entry_13 fi_P_12 o3 (g_iload_n F (pc := 16) d_P_entry_16 2 rfl ?_)
      obtain ⟨o4, h⟩ := h
      refine gc_callVI (As := [.int x2]) (st := []) F (pc := 17) d_P_entry_17 cb_P_93 iv_Store_kindOf np_Store_kindOf o4 vc_4 (c_Store_kindOf h) rfl (by decide) (Nat.le_refl _) (Nat.le_refl _) (Nat.le_of_ble_eq_true rfl) (fun v6 c5 h => ?_)
      refine g_istore_n (lv' := [(3, .int v6), (0, .ref x0), (1, .int x1), (2, .int x2)]) F (pc := 20) d_P_entry_20 (by decide) rfl (g_iload_n F (pc := 21) d_P_entry_21 0 rfl (g_iconst (v := 3) F (pc := 22) d_P_entry_22 (by decide) ?_))
      obtain ⟨J9, hJ9, h⟩ := h
      have jn10 : J9  → Z (wd c5) 33 [(0, .ref x0), (1, .int x1), (2, .int x2)] [] 0 0 := by
        intro  h
        replace h := hJ9  h
        refine g_aload_n F (pc := 33) d_P_entry_33 0 rfl (gc_getR F (pc := 34) d_P_entry_34 fi_P_25 o3 (g_iload_n F (pc := 37) d_P_entry_37 1 rfl ?_))
        obtain ⟨o11, h⟩ := h
        obtain ⟨o12, h⟩ := h
        refine gc_iald F (pc := 38) d_P_entry_38 o11 o12 (g_iconst (v := (-1)) F (pc := 39) d_P_entry_39 (by decide) ?_)
        obtain ⟨J17, hJ17, h⟩ := h
        have jn18 : ∀ (c16 : cM), J17 c16 → Z (wd c16) 64 [(0, .ref x0), (1, .int x1), (2, .int x2)] [] 0 0 := by
          intro c16 h
          replace h := hJ17 c16 h
          refine g_aload_n F (pc := 64) d_P_entry_64 0 rfl (gc_getR F (pc := 65) d_P_entry_65 fi_P_25 o3 (g_iload_n F (pc := 68) d_P_entry_68 1 rfl (g_iload_n F (pc := 69) d_P_entry_69 2 rfl (gc_iast F (pc := 70) d_P_entry_70 o11 o12 ?_))))
          obtain ⟨c19, ec19⟩ : ∃ c19 : cM, c19 = c_up c16 (rf x0 2) (Int32.toNatClampNeg x1) x2 := ⟨_, rfl⟩
          rw [← ec19]
          replace h := h c19 ec19
          refine g_aload_n F (pc := 71) d_P_entry_71 0 rfl (gc_getI F (pc := 72) d_P_entry_72 fi_P_35 o3 ?_)
          exact g_iret T (pc := 75) d_P_entry_75 rfl (Nat.le_refl _) (Nat.le_refl _) (poI h)
        refine g_icmp_ne (tgt := 64) F (pc := 40) d_P_entry_40 (by decide) (fun b13 => ?_) (fun b13 => ?_)
        · replace h := h.1 b13
          exact jn18 _ h
        · replace h := h.2 b13
          refine g_aload_n F (pc := 43) d_P_entry_43 0 rfl (gc_getI F (pc := 44) d_P_entry_44 fi_P_35 o3 (g_iconst (v := 4) F (pc := 47) d_P_entry_47 (by decide) ?_))
          refine g_icmp_ne (tgt := 54) F (pc := 48) d_P_entry_48 (by decide) (fun b20 => ?_) (fun b20 => ?_)
          · replace h := h.1 b20
            refine g_aload_n F (pc := 54) d_P_entry_54 0 rfl (g_dup F (pc := 55) d_P_entry_55 rfl (gc_getI F (pc := 56) d_P_entry_56 fi_P_35 o3 (g_iconst (v := 1) F (pc := 59) d_P_entry_59 (by decide) (g_iadd F (pc := 60) d_P_entry_60 (gc_putI F (pc := 61) d_P_entry_61 pi_P_35 o3 ?_)))))
            obtain ⟨c21, ec21⟩ : ∃ c21 : cM, c21 = c_up c5 x0 3 ((c5 x0 3) + 1) := ⟨_, rfl⟩
            rw [← ec21]
            replace h := h c21 ec21
            exact jn18 _ h
          · replace h := h.2 b20
            refine g_bipush (v := (-2)) F (pc := 51) d_P_entry_51 (by decide) ?_
            exact g_iret T (pc := 53) d_P_entry_53 rfl (Nat.le_refl _) (Nat.le_refl _) (poI h)
      refine g_icmp_eq (tgt := 33) F (pc := 23) d_P_entry_23 (by decide) (fun b7 => ?_) (fun b7 => ?_)
      · replace h := h.1 b7
        refine g_lv (lv' := [(0, .ref x0), (1, .int x1), (2, .int x2)]) F [1, 2, 3] rfl ?_
        exact jn10  h
      · replace h := h.2 b7
        refine g_iload_n F (pc := 26) d_P_entry_26 0 rfl (g_iconst (v := 2) F (pc := 27) d_P_entry_27 (by decide) ?_)
        refine g_icmp_eq (tgt := 33) F (pc := 28) d_P_entry_28 (by decide) (fun b22 => ?_) (fun b22 => ?_)
        · replace h := h.1 b22
          refine g_lv (lv' := [(0, .ref x0), (1, .int x1), (2, .int x2)]) F [1, 2, 3] rfl ?_
          exact jn10  h
        · replace h := h.2 b22
          refine g_iconst (v := (-1)) F (pc := 31) d_P_entry_31 (by decide) ?_
          exact g_iret T (pc := 32) d_P_entry_32 rfl (Nat.le_refl _) (Nat.le_refl _) (poI h)
    · replace h := h.2 b2
      refine g_iconst (v := (-1)) F (pc := 10) d_P_entry_10 (by decide) ?_
      exact g_iret T (pc := 11) d_P_entry_11 rfl (Nat.le_refl _) (Nat.le_refl _) (poI h)
theorem d_P_tree_0 : decode M_P_tree.2.1 0 = .ok (.aload_n 0, 1) := by decide +kernel
theorem d_P_tree_1 : decode M_P_tree.2.1 1 = .ok (.getfield 52, 3) := by decide +kernel
theorem d_P_tree_4 : decode M_P_tree.2.1 4 = .ok (.iconst 2, 1) := by decide +kernel
theorem d_P_tree_5 : decode M_P_tree.2.1 5 = .ok (.invokevirtual 76, 3) := by decide +kernel
theorem d_P_tree_8 : decode M_P_tree.2.1 8 = .ok (.iconst 0, 1) := by decide +kernel
theorem d_P_tree_9 : decode M_P_tree.2.1 9 = .ok (.istore_n 1, 1) := by decide +kernel
theorem d_P_tree_10 : decode M_P_tree.2.1 10 = .ok (.iload_n 1, 1) := by decide +kernel
theorem d_P_tree_11 : decode M_P_tree.2.1 11 = .ok (.bipush 26, 2) := by decide +kernel
theorem d_P_tree_13 : decode M_P_tree.2.1 13 = .ok (.if_icmp .ge 44, 3) := by decide +kernel
theorem d_P_tree_16 : decode M_P_tree.2.1 16 = .ok (.aload_n 0, 1) := by decide +kernel
theorem d_P_tree_17 : decode M_P_tree.2.1 17 = .ok (.getfield 12, 3) := by decide +kernel
theorem d_P_tree_20 : decode M_P_tree.2.1 20 = .ok (.aload_n 0, 1) := by decide +kernel
theorem d_P_tree_21 : decode M_P_tree.2.1 21 = .ok (.getfield 25, 3) := by decide +kernel
theorem d_P_tree_24 : decode M_P_tree.2.1 24 = .ok (.iload_n 1, 1) := by decide +kernel
theorem d_P_tree_25 : decode M_P_tree.2.1 25 = .ok (.iaload, 1) := by decide +kernel
theorem d_P_tree_26 : decode M_P_tree.2.1 26 = .ok (.invokevirtual 97, 3) := by decide +kernel
theorem d_P_tree_29 : decode M_P_tree.2.1 29 = .ok (.ifCond .eq 22, 3) := by decide +kernel
theorem d_P_tree_32 : decode M_P_tree.2.1 32 = .ok (.aload_n 0, 1) := by decide +kernel
theorem d_P_tree_33 : decode M_P_tree.2.1 33 = .ok (.iload_n 1, 1) := by decide +kernel
theorem d_P_tree_34 : decode M_P_tree.2.1 34 = .ok (.aload_n 0, 1) := by decide +kernel
theorem d_P_tree_35 : decode M_P_tree.2.1 35 = .ok (.getfield 12, 3) := by decide +kernel
theorem d_P_tree_38 : decode M_P_tree.2.1 38 = .ok (.getfield 101, 3) := by decide +kernel
theorem d_P_tree_41 : decode M_P_tree.2.1 41 = .ok (.aload_n 0, 1) := by decide +kernel
theorem d_P_tree_42 : decode M_P_tree.2.1 42 = .ok (.getfield 25, 3) := by decide +kernel
theorem d_P_tree_45 : decode M_P_tree.2.1 45 = .ok (.iload_n 1, 1) := by decide +kernel
theorem d_P_tree_46 : decode M_P_tree.2.1 46 = .ok (.iaload, 1) := by decide +kernel
theorem d_P_tree_47 : decode M_P_tree.2.1 47 = .ok (.aaload, 1) := by decide +kernel
theorem d_P_tree_48 : decode M_P_tree.2.1 48 = .ok (.invokevirtual 105, 3) := by decide +kernel
theorem d_P_tree_51 : decode M_P_tree.2.1 51 = .ok (.iinc 1 1, 3) := by decide +kernel
theorem d_P_tree_54 : decode M_P_tree.2.1 54 = .ok (.goto (-44), 3) := by decide +kernel
theorem d_P_tree_57 : decode M_P_tree.2.1 57 = .ok (.aload_n 0, 1) := by decide +kernel
theorem d_P_tree_58 : decode M_P_tree.2.1 58 = .ok (.invokevirtual 86, 3) := by decide +kernel
theorem d_P_tree_61 : decode M_P_tree.2.1 61 = .ok (.istore_n 1, 1) := by decide +kernel
theorem d_P_tree_62 : decode M_P_tree.2.1 62 = .ok (.iload_n 1, 1) := by decide +kernel
theorem d_P_tree_63 : decode M_P_tree.2.1 63 = .ok (.ifCond .lt 7, 3) := by decide +kernel
theorem d_P_tree_66 : decode M_P_tree.2.1 66 = .ok (.aload_n 0, 1) := by decide +kernel
theorem d_P_tree_67 : decode M_P_tree.2.1 67 = .ok (.invokevirtual 109, 3) := by decide +kernel
theorem d_P_tree_70 : decode M_P_tree.2.1 70 = .ok (.iload_n 1, 1) := by decide +kernel
theorem d_P_tree_71 : decode M_P_tree.2.1 71 = .ok (.ireturn, 1) := by decide +kernel
def f_P_tree (x0 : Nat) (c : cM) (K : Int32 → cM → Prop) : Prop :=
  kd x0 = 0 ∧ (kd (rf x0 6) = 3 ∧ (f_Thing_begin (rf x0 6) 2 c (fun c3 => ∃ I4 : Nat → Int32 → cM → Prop, (∃ n, I4 n 0 c3) ∧ ∀ (n5 : Nat) (y8 : Int32) (c9 : cM), I4 n5 y8 c9 → (((26 ≤ y8) → (f_P_bringMade x0 c9 (fun v12 c11 => ((v12 < 0) → (K v12 c11)) ∧ (¬ (v12 < 0) → (f_P_dropDraft x0 c11 (fun c14 => K v12 c14)))))) ∧ (¬ (26 ≤ y8) → (kd (rf x0 2) = 100 ∧ (vp_in y8 (ln (rf x0 2)) ∧ (kd (rf x0 0) = 4 ∧ (f_Store_has (rf x0 0) (c9 (rf x0 2) (Int32.toNatClampNeg y8)) c9 (fun v19 c18 => ∃ J25 : cM → Prop, (∀ (c24 : cM), J25 c24 → (∃ m, m < n5 ∧ I4 m (y8 + 1) c24)) ∧ (((v19 = 0) → (J25 c18)) ∧ (¬ (v19 = 0) → (kd (rf (rf x0 0) 0) = 102 ∧ (vp_in (c18 (rf x0 2) (Int32.toNatClampNeg y8)) (ln (rf (rf x0 0) 0)) ∧ (f_P_putEntry x0 y8 (rf (rf (rf x0 0) 0) (Int32.toNatClampNeg (c18 (rf x0 2) (Int32.toNatClampNeg y8)))) c18 (fun c29 => J25 c29))))))))))))))))
theorem c_P_tree {x0 : Nat} {c : cM} {K : Int32 → cM → Prop} (h : f_P_tree x0 c K) : Ct M_P_tree 7 0 0 (wd c) [.ref x0] (PoI K) := by
  refine Ct.of (by decide +kernel) (Nat.le_of_ble_eq_true rfl) (fun Z T => ?_)
  have F := T.F
  unfold f_P_tree at h
  show Z (wd c) 0 [(0, .ref x0)] [] 0 0
  refine g_aload_n F (pc := 0) d_P_tree_0 0 rfl ?_
  obtain ⟨o1, h⟩ := h
  refine gc_getR F (pc := 1) d_P_tree_1 fi_P_52 o1 (g_iconst (v := 2) F (pc := 4) d_P_tree_4 (by decide) ?_)
  obtain ⟨o2, h⟩ := h
  refine gc_callVV (As := [.int 2]) (st := []) F (pc := 5) d_P_tree_5 cb_P_76 iv_Thing_begin np_Thing_begin o2 vc_3 (c_Thing_begin h) rfl (by decide) (Nat.le_refl _) (Nat.le_refl _) (Nat.le_of_ble_eq_true rfl) (fun c3 h => ?_)
  refine g_iconst (v := 0) F (pc := 8) d_P_tree_8 (by decide) (g_istore_n (lv' := [(1, .int 0), (0, .ref x0)]) F (pc := 9) d_P_tree_9 (by decide) rfl ?_)
  refine g_lv (lv' := [(0, .ref x0), (1, .int 0)]) F [1, 0] rfl ?_
  obtain ⟨I4, ⟨n0, h⟩, hI4⟩ := h
  have lp7 : ∀ (n5 : Nat) (y8 : Int32) (c9 : cM), I4 n5 y8 c9 → Z (wd c9) 10 [(0, .ref x0), (1, .int y8)] [] 0 0 := by
    intro n5
    induction n5 using Nat.strongRecOn with
    | _ n5 ih6 =>
      intro y8 c9 h
      replace h := hI4 n5 y8 c9 h
      refine g_iload_n F (pc := 10) d_P_tree_10 1 rfl (g_bipush (v := 26) F (pc := 11) d_P_tree_11 (by decide) ?_)
      refine g_icmp_ge (tgt := 57) F (pc := 13) d_P_tree_13 (by decide) (fun b10 => ?_) (fun b10 => ?_)
      · replace h := h.1 b10
        refine g_aload_n F (pc := 57) d_P_tree_57 0 rfl ?_
        refine gc_callVI (As := []) (st := []) F (pc := 58) d_P_tree_58 cb_P_86 iv_P_bringMade np_P_bringMade o1 vc_0 (c_P_bringMade h) rfl (by decide) (Nat.le_refl _) (Nat.le_refl _) (Nat.le_of_ble_eq_true rfl) (fun v12 c11 h => ?_)
        refine g_istore_n (lv' := [(1, .int v12), (0, .ref x0)]) F (pc := 61) d_P_tree_61 (by decide) rfl (g_iload_n F (pc := 62) d_P_tree_62 0 rfl ?_)
        refine g_if_lt (tgt := 70) F (pc := 63) d_P_tree_63 (by decide) (fun b13 => ?_) (fun b13 => ?_)
        · replace h := h.1 b13
          refine g_iload_n F (pc := 70) d_P_tree_70 0 rfl ?_
          exact g_iret T (pc := 71) d_P_tree_71 rfl (Nat.le_refl _) (Nat.le_refl _) (poI h)
        · replace h := h.2 b13
          refine g_aload_n F (pc := 66) d_P_tree_66 1 rfl ?_
          refine gc_callVV (As := []) (st := []) F (pc := 67) d_P_tree_67 cb_P_109 iv_P_dropDraft np_P_dropDraft o1 vc_0 (c_P_dropDraft h) rfl (by decide) (Nat.le_refl _) (Nat.le_refl _) (Nat.le_of_ble_eq_true rfl) (fun c14 h => ?_)
          refine g_iload_n F (pc := 70) d_P_tree_70 0 rfl ?_
          exact g_iret T (pc := 71) d_P_tree_71 rfl (Nat.le_refl _) (Nat.le_refl _) (poI h)
      · replace h := h.2 b10
        refine g_aload_n F (pc := 16) d_P_tree_16 0 rfl (gc_getR F (pc := 17) d_P_tree_17 fi_P_12 o1 (g_aload_n F (pc := 20) d_P_tree_20 0 rfl (gc_getR F (pc := 21) d_P_tree_21 fi_P_25 o1 (g_iload_n F (pc := 24) d_P_tree_24 1 rfl ?_))))
        obtain ⟨o15, h⟩ := h
        obtain ⟨o16, h⟩ := h
        refine gc_iald F (pc := 25) d_P_tree_25 o15 o16 ?_
        obtain ⟨o17, h⟩ := h
        refine gc_callVI (As := [.int (c9 (rf x0 2) (Int32.toNatClampNeg y8))]) (st := []) F (pc := 26) d_P_tree_26 cb_P_97 iv_Store_has np_Store_has o17 vc_4 (c_Store_has h) rfl (by decide) (Nat.le_refl _) (Nat.le_refl _) (Nat.le_of_ble_eq_true rfl) (fun v19 c18 h => ?_)
        obtain ⟨J25, hJ25, h⟩ := h
        have jn26 : ∀ (c24 : cM), J25 c24 → Z (wd c24) 51 [(0, .ref x0), (1, .int y8)] [] 0 0 := by
          intro c24 h
          replace h := hJ25 c24 h
          refine g_iinc (v := (y8 + 1)) (lv' := [(1, .int (y8 + 1)), (0, .ref x0)]) F (pc := 51) d_P_tree_51 1 rfl (sk_inc (by decide)) (by decide) rfl (g_goto (tgt := 10) F (pc := 54) d_P_tree_54 (by decide) ?_)
          refine g_lv (lv' := [(0, .ref x0), (1, .int (y8 + 1))]) F [1, 0] rfl ?_
          obtain ⟨m, hm, h⟩ := h
          exact ih6 m hm _ _ h
        refine g_if_eq (tgt := 51) F (pc := 29) d_P_tree_29 (by decide) (fun b20 => ?_) (fun b20 => ?_)
        · replace h := h.1 b20
          exact jn26 _ h
        · replace h := h.2 b20
          refine g_aload_n F (pc := 32) d_P_tree_32 0 rfl (g_iload_n F (pc := 33) d_P_tree_33 1 rfl (g_aload_n F (pc := 34) d_P_tree_34 0 rfl (gc_getR F (pc := 35) d_P_tree_35 fi_P_12 o1 (gc_getR F (pc := 38) d_P_tree_38 fi_P_101 o17 (g_aload_n F (pc := 41) d_P_tree_41 0 rfl ?_)))))
          refine gc_getR F (pc := 42) d_P_tree_42 fi_P_25 o1 (g_iload_n F (pc := 45) d_P_tree_45 1 rfl (gc_iald F (pc := 46) d_P_tree_46 o15 o16 ?_))
          obtain ⟨o27, h⟩ := h
          obtain ⟨o28, h⟩ := h
          refine gc_aald F (pc := 47) d_P_tree_47 o27 o28 ?_
          refine gc_callVV (As := [.int y8, .ref (rf (rf (rf x0 0) 0) (Int32.toNatClampNeg (c18 (rf x0 2) (Int32.toNatClampNeg y8))))]) (st := []) F (pc := 48) d_P_tree_48 cb_P_105 iv_P_putEntry np_P_putEntry o1 vc_0 (c_P_putEntry h) rfl (by decide) (Nat.le_refl _) (Nat.le_refl _) (Nat.le_of_ble_eq_true rfl) (fun c29 h => ?_)
          exact jn26 _ h
  exact lp7 n0 _ _ h
theorem d_P_kind_0 : decode M_P_kind.2.1 0 = .ok (.aload_n 0, 1) := by decide +kernel
theorem d_P_kind_1 : decode M_P_kind.2.1 1 = .ok (.getfield 12, 3) := by decide +kernel
theorem d_P_kind_4 : decode M_P_kind.2.1 4 = .ok (.iload_n 1, 1) := by decide +kernel
theorem d_P_kind_5 : decode M_P_kind.2.1 5 = .ok (.invokevirtual 93, 3) := by decide +kernel
theorem d_P_kind_8 : decode M_P_kind.2.1 8 = .ok (.ireturn, 1) := by decide +kernel
def f_P_kind (x0 : Nat) (x1 : Int32) (c : cM) (K : Int32 → cM → Prop) : Prop :=
  kd x0 = 0 ∧ (kd (rf x0 0) = 4 ∧ (f_Store_kindOf (rf x0 0) x1 c (fun v4 c3 => K v4 c3)))
theorem c_P_kind {x0 : Nat} {x1 : Int32} {c : cM} {K : Int32 → cM → Prop} (h : f_P_kind x0 x1 c K) : Ct M_P_kind 2 0 0 (wd c) [.ref x0, .int x1] (PoI K) := by
  refine Ct.of (by decide +kernel) (Nat.le_of_ble_eq_true rfl) (fun Z T => ?_)
  have F := T.F
  unfold f_P_kind at h
  show Z (wd c) 0 [(0, .ref x0), (1, .int x1)] [] 0 0
  refine g_aload_n F (pc := 0) d_P_kind_0 0 rfl ?_
  obtain ⟨o1, h⟩ := h
  refine gc_getR F (pc := 1) d_P_kind_1 fi_P_12 o1 (g_iload_n F (pc := 4) d_P_kind_4 1 rfl ?_)
  obtain ⟨o2, h⟩ := h
  refine gc_callVI (As := [.int x1]) (st := []) F (pc := 5) d_P_kind_5 cb_P_93 iv_Store_kindOf np_Store_kindOf o2 vc_4 (c_Store_kindOf h) rfl (by decide) (Nat.le_refl _) (Nat.le_refl _) (Nat.le_of_ble_eq_true rfl) (fun v4 c3 h => ?_)
  exact g_iret T (pc := 8) d_P_kind_8 rfl (Nat.le_refl _) (Nat.le_refl _) (poI h)
theorem d_P_commit_0 : decode M_P_commit.2.1 0 = .ok (.aload_n 0, 1) := by decide +kernel
theorem d_P_commit_1 : decode M_P_commit.2.1 1 = .ok (.getfield 12, 3) := by decide +kernel
theorem d_P_commit_4 : decode M_P_commit.2.1 4 = .ok (.iload_n 1, 1) := by decide +kernel
theorem d_P_commit_5 : decode M_P_commit.2.1 5 = .ok (.invokevirtual 93, 3) := by decide +kernel
theorem d_P_commit_8 : decode M_P_commit.2.1 8 = .ok (.iconst 2, 1) := by decide +kernel
theorem d_P_commit_9 : decode M_P_commit.2.1 9 = .ok (.if_icmp .ne 7, 3) := by decide +kernel
theorem d_P_commit_12 : decode M_P_commit.2.1 12 = .ok (.iload_n 3, 1) := by decide +kernel
theorem d_P_commit_13 : decode M_P_commit.2.1 13 = .ok (.ifCond .ge 5, 3) := by decide +kernel
theorem d_P_commit_16 : decode M_P_commit.2.1 16 = .ok (.iconst (-1), 1) := by decide +kernel
theorem d_P_commit_17 : decode M_P_commit.2.1 17 = .ok (.ireturn, 1) := by decide +kernel
theorem d_P_commit_18 : decode M_P_commit.2.1 18 = .ok (.iload_n 2, 1) := by decide +kernel
theorem d_P_commit_19 : decode M_P_commit.2.1 19 = .ok (.iconst (-1), 1) := by decide +kernel
theorem d_P_commit_20 : decode M_P_commit.2.1 20 = .ok (.if_icmp .eq 17, 3) := by decide +kernel
theorem d_P_commit_23 : decode M_P_commit.2.1 23 = .ok (.aload_n 0, 1) := by decide +kernel
theorem d_P_commit_24 : decode M_P_commit.2.1 24 = .ok (.getfield 12, 3) := by decide +kernel
theorem d_P_commit_27 : decode M_P_commit.2.1 27 = .ok (.iload_n 2, 1) := by decide +kernel
theorem d_P_commit_28 : decode M_P_commit.2.1 28 = .ok (.invokevirtual 93, 3) := by decide +kernel
theorem d_P_commit_31 : decode M_P_commit.2.1 31 = .ok (.iconst 1, 1) := by decide +kernel
theorem d_P_commit_32 : decode M_P_commit.2.1 32 = .ok (.if_icmp .eq 5, 3) := by decide +kernel
theorem d_P_commit_35 : decode M_P_commit.2.1 35 = .ok (.iconst (-1), 1) := by decide +kernel
theorem d_P_commit_36 : decode M_P_commit.2.1 36 = .ok (.ireturn, 1) := by decide +kernel
theorem d_P_commit_37 : decode M_P_commit.2.1 37 = .ok (.aload_n 0, 1) := by decide +kernel
theorem d_P_commit_38 : decode M_P_commit.2.1 38 = .ok (.getfield 52, 3) := by decide +kernel
theorem d_P_commit_41 : decode M_P_commit.2.1 41 = .ok (.iconst 1, 1) := by decide +kernel
theorem d_P_commit_42 : decode M_P_commit.2.1 42 = .ok (.invokevirtual 76, 3) := by decide +kernel
theorem d_P_commit_45 : decode M_P_commit.2.1 45 = .ok (.aload_n 0, 1) := by decide +kernel
theorem d_P_commit_46 : decode M_P_commit.2.1 46 = .ok (.ldc 112, 2) := by decide +kernel
theorem d_P_commit_48 : decode M_P_commit.2.1 48 = .ok (.iload_n 1, 1) := by decide +kernel
theorem d_P_commit_49 : decode M_P_commit.2.1 49 = .ok (.invokevirtual 114, 3) := by decide +kernel
theorem d_P_commit_52 : decode M_P_commit.2.1 52 = .ok (.iload_n 2, 1) := by decide +kernel
theorem d_P_commit_53 : decode M_P_commit.2.1 53 = .ok (.iconst (-1), 1) := by decide +kernel
theorem d_P_commit_54 : decode M_P_commit.2.1 54 = .ok (.if_icmp .eq 10, 3) := by decide +kernel
theorem d_P_commit_57 : decode M_P_commit.2.1 57 = .ok (.aload_n 0, 1) := by decide +kernel
theorem d_P_commit_58 : decode M_P_commit.2.1 58 = .ok (.ldc 118, 2) := by decide +kernel
theorem d_P_commit_60 : decode M_P_commit.2.1 60 = .ok (.iload_n 2, 1) := by decide +kernel
theorem d_P_commit_61 : decode M_P_commit.2.1 61 = .ok (.invokevirtual 114, 3) := by decide +kernel
theorem d_P_commit_64 : decode M_P_commit.2.1 64 = .ok (.aload_n 0, 1) := by decide +kernel
theorem d_P_commit_65 : decode M_P_commit.2.1 65 = .ok (.getfield 52, 3) := by decide +kernel
theorem d_P_commit_68 : decode M_P_commit.2.1 68 = .ok (.getfield 79, 3) := by decide +kernel
theorem d_P_commit_71 : decode M_P_commit.2.1 71 = .ok (.ldc 120, 2) := by decide +kernel
theorem d_P_commit_73 : decode M_P_commit.2.1 73 = .ok (.invokevirtual 122, 3) := by decide +kernel
theorem d_P_commit_76 : decode M_P_commit.2.1 76 = .ok (.aload_n 0, 1) := by decide +kernel
theorem d_P_commit_77 : decode M_P_commit.2.1 77 = .ok (.getfield 52, 3) := by decide +kernel
theorem d_P_commit_80 : decode M_P_commit.2.1 80 = .ok (.getfield 79, 3) := by decide +kernel
theorem d_P_commit_83 : decode M_P_commit.2.1 83 = .ok (.iload_n 3, 1) := by decide +kernel
theorem d_P_commit_84 : decode M_P_commit.2.1 84 = .ok (.invokevirtual 126, 3) := by decide +kernel
theorem d_P_commit_87 : decode M_P_commit.2.1 87 = .ok (.aload_n 0, 1) := by decide +kernel
theorem d_P_commit_88 : decode M_P_commit.2.1 88 = .ok (.getfield 52, 3) := by decide +kernel
theorem d_P_commit_91 : decode M_P_commit.2.1 91 = .ok (.getfield 79, 3) := by decide +kernel
theorem d_P_commit_94 : decode M_P_commit.2.1 94 = .ok (.bipush 10, 2) := by decide +kernel
theorem d_P_commit_96 : decode M_P_commit.2.1 96 = .ok (.invokevirtual 73, 3) := by decide +kernel
theorem d_P_commit_99 : decode M_P_commit.2.1 99 = .ok (.aload_n 0, 1) := by decide +kernel
theorem d_P_commit_100 : decode M_P_commit.2.1 100 = .ok (.invokevirtual 86, 3) := by decide +kernel
theorem d_P_commit_103 : decode M_P_commit.2.1 103 = .ok (.ireturn, 1) := by decide +kernel
def f_P_commit (x0 : Nat) (x1 : Int32) (x2 : Int32) (x3 : Int32) (c : cM) (K : Int32 → cM → Prop) : Prop :=
  kd x0 = 0 ∧ (kd (rf x0 0) = 4 ∧ (f_Store_kindOf (rf x0 0) x1 c (fun v4 c3 => ((¬ v4 = 2) → (K (-1) c3)) ∧ (v4 = 2 → (((0 ≤ x3) → (∃ J12 : cM → Prop, (∀ (c11 : cM), J12 c11 → (kd (rf x0 6) = 3 ∧ (f_Thing_begin (rf x0 6) 1 c11 (fun c15 => f_P_putNamed x0 4 x1 c15 (fun c16 => ∃ J20 : cM → Prop, (∀ (c19 : cM), J20 c19 → (kd (rf (rf x0 6) 1) = 1 ∧ (f_Row_putText (rf (rf x0 6) 1) 9 c19 (fun c23 => f_Row_putDecimal (rf (rf x0 6) 1) x3 c23 (fun c24 => f_Row_put (rf (rf x0 6) 1) 10 c24 (fun c25 => f_P_bringMade x0 c25 (fun v27 c26 => K v27 c26))))))) ∧ (((x2 = (-1)) → (J20 c16)) ∧ (¬ (x2 = (-1)) → (f_P_putNamed x0 8 x2 c16 (fun c28 => J20 c28))))))))) ∧ (((x2 = (-1)) → (J12 c3)) ∧ (¬ (x2 = (-1)) → (f_Store_kindOf (rf x0 0) x2 c3 (fun v30 c29 => ((v30 = 1) → (J12 c29)) ∧ (¬ (v30 = 1) → (K (-1) c29)))))))) ∧ (¬ (0 ≤ x3) → (K (-1) c3)))))))
theorem c_P_commit {x0 : Nat} {x1 : Int32} {x2 : Int32} {x3 : Int32} {c : cM} {K : Int32 → cM → Prop} (h : f_P_commit x0 x1 x2 x3 c K) : Ct M_P_commit 7 0 0 (wd c) [.ref x0, .int x1, .int x2, .int x3] (PoI K) := by
  refine Ct.of (by decide +kernel) (Nat.le_of_ble_eq_true rfl) (fun Z T => ?_)
  have F := T.F
  unfold f_P_commit at h
  show Z (wd c) 0 [(0, .ref x0), (1, .int x1), (2, .int x2), (3, .int x3)] [] 0 0
  refine g_aload_n F (pc := 0) d_P_commit_0 0 rfl ?_
  obtain ⟨o1, h⟩ := h
  refine gc_getR F (pc := 1) d_P_commit_1 fi_P_12 o1 (g_iload_n F (pc := 4) d_P_commit_4 1 rfl ?_)
  obtain ⟨o2, h⟩ := h
  refine gc_callVI (As := [.int x1]) (st := []) F (pc := 5) d_P_commit_5 cb_P_93 iv_Store_kindOf np_Store_kindOf o2 vc_4 (c_Store_kindOf h) rfl (by decide) (Nat.le_refl _) (Nat.le_refl _) (Nat.le_of_ble_eq_true rfl) (fun v4 c3 h => ?_)
  refine g_iconst (v := 2) F (pc := 8) d_P_commit_8 (by decide) ?_
  refine g_icmp_ne (tgt := 16) F (pc := 9) d_P_commit_9 (by decide) (fun b5 => ?_) (fun b5 => ?_)
  · replace h := h.1 b5
    refine g_iconst (v := (-1)) F (pc := 16) d_P_commit_16 (by decide) ?_
    exact g_iret T (pc := 17) d_P_commit_17 rfl (Nat.le_refl _) (Nat.le_refl _) (poI h)
  · replace h := h.2 b5
    refine g_iload_n F (pc := 12) d_P_commit_12 3 rfl ?_
    refine g_if_ge (tgt := 18) F (pc := 13) d_P_commit_13 (by decide) (fun b6 => ?_) (fun b6 => ?_)
    · replace h := h.1 b6
      refine g_iload_n F (pc := 18) d_P_commit_18 2 rfl (g_iconst (v := (-1)) F (pc := 19) d_P_commit_19 (by decide) ?_)
      obtain ⟨J12, hJ12, h⟩ := h
      have jn13 : ∀ (c11 : cM), J12 c11 → Z (wd c11) 37 [(0, .ref x0), (1, .int x1), (2, .int x2), (3, .int x3)] [] 0 0 := by
        intro c11 h
        replace h := hJ12 c11 h
        refine g_aload_n F (pc := 37) d_P_commit_37 0 rfl (gc_getR F (pc := 38) d_P_commit_38 fi_P_52 o1 (g_iconst (v := 1) F (pc := 41) d_P_commit_41 (by decide) ?_))
        obtain ⟨o14, h⟩ := h
        refine gc_callVV (As := [.int 1]) (st := []) F (pc := 42) d_P_commit_42 cb_P_76 iv_Thing_begin np_Thing_begin o14 vc_3 (c_Thing_begin h) rfl (by decide) (Nat.le_refl _) (Nat.le_refl _) (Nat.le_of_ble_eq_true rfl) (fun c15 h => ?_)
        refine g_aload_n F (pc := 45) d_P_commit_45 0 rfl (go_ldc F (pc := 46) d_P_commit_46 sr_P_112 (g_iload_n F (pc := 48) d_P_commit_48 1 rfl ?_))
        refine gc_callVV (As := [.ref 4, .int x1]) (st := []) F (pc := 49) d_P_commit_49 cb_P_114 iv_P_putNamed np_P_putNamed o1 vc_0 (c_P_putNamed h) rfl (by decide) (Nat.le_refl _) (Nat.le_refl _) (Nat.le_of_ble_eq_true rfl) (fun c16 h => ?_)
        refine g_iload_n F (pc := 52) d_P_commit_52 2 rfl (g_iconst (v := (-1)) F (pc := 53) d_P_commit_53 (by decide) ?_)
        obtain ⟨J20, hJ20, h⟩ := h
        have jn21 : ∀ (c19 : cM), J20 c19 → Z (wd c19) 64 [(0, .ref x0), (3, .int x3)] [] 0 0 := by
          intro c19 h
          replace h := hJ20 c19 h
          refine g_aload_n F (pc := 64) d_P_commit_64 0 rfl (gc_getR F (pc := 65) d_P_commit_65 fi_P_52 o1 (gc_getR F (pc := 68) d_P_commit_68 fi_P_79 o14 (go_ldc F (pc := 71) d_P_commit_71 sr_P_120 ?_)))
          obtain ⟨o22, h⟩ := h
          refine gc_callVV (As := [.ref 9]) (st := []) F (pc := 73) d_P_commit_73 cb_P_122 iv_Row_putText np_Row_putText o22 vc_1 (c_Row_putText h) rfl (by decide) (Nat.le_refl _) (Nat.le_refl _) (Nat.le_of_ble_eq_true rfl) (fun c23 h => ?_)
          refine g_aload_n F (pc := 76) d_P_commit_76 0 rfl (gc_getR F (pc := 77) d_P_commit_77 fi_P_52 o1 (gc_getR F (pc := 80) d_P_commit_80 fi_P_79 o14 (g_iload_n F (pc := 83) d_P_commit_83 1 rfl ?_)))
          refine gc_callVV (As := [.int x3]) (st := []) F (pc := 84) d_P_commit_84 cb_P_126 iv_Row_putDecimal np_Row_putDecimal o22 vc_1 (c_Row_putDecimal h) rfl (by decide) (Nat.le_refl _) (Nat.le_refl _) (Nat.le_of_ble_eq_true rfl) (fun c24 h => ?_)
          refine g_aload_n F (pc := 87) d_P_commit_87 0 rfl (gc_getR F (pc := 88) d_P_commit_88 fi_P_52 o1 (gc_getR F (pc := 91) d_P_commit_91 fi_P_79 o14 (g_bipush (v := 10) F (pc := 94) d_P_commit_94 (by decide) ?_)))
          refine gc_callVV (As := [.int 10]) (st := []) F (pc := 96) d_P_commit_96 cb_P_73 iv_Row_put np_Row_put o22 vc_1 (c_Row_put h) rfl (by decide) (Nat.le_refl _) (Nat.le_refl _) (Nat.le_of_ble_eq_true rfl) (fun c25 h => ?_)
          refine g_aload_n F (pc := 99) d_P_commit_99 0 rfl ?_
          refine gc_callVI (As := []) (st := []) F (pc := 100) d_P_commit_100 cb_P_86 iv_P_bringMade np_P_bringMade o1 vc_0 (c_P_bringMade h) rfl (by decide) (Nat.le_refl _) (Nat.le_refl _) (Nat.le_of_ble_eq_true rfl) (fun v27 c26 h => ?_)
          exact g_iret T (pc := 103) d_P_commit_103 rfl (Nat.le_refl _) (Nat.le_refl _) (poI h)
        refine g_icmp_eq (tgt := 64) F (pc := 54) d_P_commit_54 (by decide) (fun b17 => ?_) (fun b17 => ?_)
        · replace h := h.1 b17
          refine g_lv (lv' := [(0, .ref x0), (3, .int x3)]) F [0, 3] rfl ?_
          exact jn21 _ h
        · replace h := h.2 b17
          refine g_aload_n F (pc := 57) d_P_commit_57 0 rfl (go_ldc F (pc := 58) d_P_commit_58 sr_P_118 (g_iload_n F (pc := 60) d_P_commit_60 2 rfl ?_))
          refine gc_callVV (As := [.ref 8, .int x2]) (st := []) F (pc := 61) d_P_commit_61 cb_P_114 iv_P_putNamed np_P_putNamed o1 vc_0 (c_P_putNamed h) rfl (by decide) (Nat.le_refl _) (Nat.le_refl _) (Nat.le_of_ble_eq_true rfl) (fun c28 h => ?_)
          refine g_lv (lv' := [(0, .ref x0), (3, .int x3)]) F [0, 3] rfl ?_
          exact jn21 _ h
      refine g_icmp_eq (tgt := 37) F (pc := 20) d_P_commit_20 (by decide) (fun b7 => ?_) (fun b7 => ?_)
      · replace h := h.1 b7
        exact jn13 _ h
      · replace h := h.2 b7
        refine g_aload_n F (pc := 23) d_P_commit_23 0 rfl (gc_getR F (pc := 24) d_P_commit_24 fi_P_12 o1 (g_iload_n F (pc := 27) d_P_commit_27 2 rfl ?_))
        refine gc_callVI (As := [.int x2]) (st := []) F (pc := 28) d_P_commit_28 cb_P_93 iv_Store_kindOf np_Store_kindOf o2 vc_4 (c_Store_kindOf h) rfl (by decide) (Nat.le_refl _) (Nat.le_refl _) (Nat.le_of_ble_eq_true rfl) (fun v30 c29 h => ?_)
        refine g_iconst (v := 1) F (pc := 31) d_P_commit_31 (by decide) ?_
        refine g_icmp_eq (tgt := 37) F (pc := 32) d_P_commit_32 (by decide) (fun b31 => ?_) (fun b31 => ?_)
        · replace h := h.1 b31
          exact jn13 _ h
        · replace h := h.2 b31
          refine g_iconst (v := (-1)) F (pc := 35) d_P_commit_35 (by decide) ?_
          exact g_iret T (pc := 36) d_P_commit_36 rfl (Nat.le_refl _) (Nat.le_refl _) (poI h)
    · replace h := h.2 b6
      refine g_iconst (v := (-1)) F (pc := 16) d_P_commit_16 (by decide) ?_
      exact g_iret T (pc := 17) d_P_commit_17 rfl (Nat.le_refl _) (Nat.le_refl _) (poI h)
theorem d_P_packed_0 : decode M_P_packed.2.1 0 = .ok (.aload_n 0, 1) := by decide +kernel
theorem d_P_packed_1 : decode M_P_packed.2.1 1 = .ok (.getfield 39, 3) := by decide +kernel
theorem d_P_packed_4 : decode M_P_packed.2.1 4 = .ok (.getfield 70, 3) := by decide +kernel
theorem d_P_packed_7 : decode M_P_packed.2.1 7 = .ok (.ireturn, 1) := by decide +kernel
def f_P_packed (x0 : Nat) (c : cM) (K : Int32 → cM → Prop) : Prop :=
  kd x0 = 0 ∧ (kd (rf x0 4) = 1 ∧ (K (c (rf x0 4) 1) c))
theorem c_P_packed {x0 : Nat} {c : cM} {K : Int32 → cM → Prop} (h : f_P_packed x0 c K) : Ct M_P_packed 0 0 0 (wd c) [.ref x0] (PoI K) := by
  refine Ct.of (by decide +kernel) (Nat.le_of_ble_eq_true rfl) (fun Z T => ?_)
  have F := T.F
  unfold f_P_packed at h
  show Z (wd c) 0 [(0, .ref x0)] [] 0 0
  refine g_aload_n F (pc := 0) d_P_packed_0 0 rfl ?_
  obtain ⟨o1, h⟩ := h
  refine gc_getR F (pc := 1) d_P_packed_1 fi_P_39 o1 ?_
  obtain ⟨o2, h⟩ := h
  refine gc_getI F (pc := 4) d_P_packed_4 fi_P_70 o2 ?_
  exact g_iret T (pc := 7) d_P_packed_7 rfl (Nat.le_refl _) (Nat.le_refl _) (poI h)
theorem d_P_size_0 : decode M_P_size.2.1 0 = .ok (.aload_n 0, 1) := by decide +kernel
theorem d_P_size_1 : decode M_P_size.2.1 1 = .ok (.getfield 12, 3) := by decide +kernel
theorem d_P_size_4 : decode M_P_size.2.1 4 = .ok (.iload_n 1, 1) := by decide +kernel
theorem d_P_size_5 : decode M_P_size.2.1 5 = .ok (.invokevirtual 97, 3) := by decide +kernel
theorem d_P_size_8 : decode M_P_size.2.1 8 = .ok (.ifCond .eq 21, 3) := by decide +kernel
theorem d_P_size_11 : decode M_P_size.2.1 11 = .ok (.aload_n 0, 1) := by decide +kernel
theorem d_P_size_12 : decode M_P_size.2.1 12 = .ok (.getfield 12, 3) := by decide +kernel
theorem d_P_size_15 : decode M_P_size.2.1 15 = .ok (.getfield 101, 3) := by decide +kernel
theorem d_P_size_18 : decode M_P_size.2.1 18 = .ok (.iload_n 1, 1) := by decide +kernel
theorem d_P_size_19 : decode M_P_size.2.1 19 = .ok (.aaload, 1) := by decide +kernel
theorem d_P_size_20 : decode M_P_size.2.1 20 = .ok (.getfield 79, 3) := by decide +kernel
theorem d_P_size_23 : decode M_P_size.2.1 23 = .ok (.getfield 70, 3) := by decide +kernel
theorem d_P_size_26 : decode M_P_size.2.1 26 = .ok (.goto 4, 3) := by decide +kernel
theorem d_P_size_29 : decode M_P_size.2.1 29 = .ok (.iconst (-1), 1) := by decide +kernel
theorem d_P_size_30 : decode M_P_size.2.1 30 = .ok (.ireturn, 1) := by decide +kernel
def f_P_size (x0 : Nat) (x1 : Int32) (c : cM) (K : Int32 → cM → Prop) : Prop :=
  kd x0 = 0 ∧ (kd (rf x0 0) = 4 ∧ (f_Store_has (rf x0 0) x1 c (fun v4 c3 => ((v4 = 0) → (K (-1) c3)) ∧ (¬ (v4 = 0) → (kd (rf (rf x0 0) 0) = 102 ∧ (vp_in x1 (ln (rf (rf x0 0) 0)) ∧ (kd (rf (rf (rf x0 0) 0) (Int32.toNatClampNeg x1)) = 3 ∧ (kd (rf (rf (rf (rf x0 0) 0) (Int32.toNatClampNeg x1)) 1) = 1 ∧ (K (c3 (rf (rf (rf (rf x0 0) 0) (Int32.toNatClampNeg x1)) 1) 1) c3)))))))))
theorem c_P_size {x0 : Nat} {x1 : Int32} {c : cM} {K : Int32 → cM → Prop} (h : f_P_size x0 x1 c K) : Ct M_P_size 1 0 0 (wd c) [.ref x0, .int x1] (PoI K) := by
  refine Ct.of (by decide +kernel) (Nat.le_of_ble_eq_true rfl) (fun Z T => ?_)
  have F := T.F
  unfold f_P_size at h
  show Z (wd c) 0 [(0, .ref x0), (1, .int x1)] [] 0 0
  refine g_aload_n F (pc := 0) d_P_size_0 0 rfl ?_
  obtain ⟨o1, h⟩ := h
  refine gc_getR F (pc := 1) d_P_size_1 fi_P_12 o1 (g_iload_n F (pc := 4) d_P_size_4 1 rfl ?_)
  obtain ⟨o2, h⟩ := h
  refine gc_callVI (As := [.int x1]) (st := []) F (pc := 5) d_P_size_5 cb_P_97 iv_Store_has np_Store_has o2 vc_4 (c_Store_has h) rfl (by decide) (Nat.le_refl _) (Nat.le_refl _) (Nat.le_of_ble_eq_true rfl) (fun v4 c3 h => ?_)
  refine g_if_eq (tgt := 29) F (pc := 8) d_P_size_8 (by decide) (fun b5 => ?_) (fun b5 => ?_)
  · replace h := h.1 b5
    refine g_iconst (v := (-1)) F (pc := 29) d_P_size_29 (by decide) ?_
    exact g_iret T (pc := 30) d_P_size_30 rfl (Nat.le_refl _) (Nat.le_refl _) (poI h)
  · replace h := h.2 b5
    refine g_aload_n F (pc := 11) d_P_size_11 0 rfl (gc_getR F (pc := 12) d_P_size_12 fi_P_12 o1 (gc_getR F (pc := 15) d_P_size_15 fi_P_101 o2 (g_iload_n F (pc := 18) d_P_size_18 1 rfl ?_)))
    obtain ⟨o6, h⟩ := h
    obtain ⟨o7, h⟩ := h
    refine gc_aald F (pc := 19) d_P_size_19 o6 o7 ?_
    obtain ⟨o8, h⟩ := h
    refine gc_getR F (pc := 20) d_P_size_20 fi_P_79 o8 ?_
    obtain ⟨o9, h⟩ := h
    refine gc_getI F (pc := 23) d_P_size_23 fi_P_70 o9 (g_goto (tgt := 30) F (pc := 26) d_P_size_26 (by decide) ?_)
    exact g_iret T (pc := 30) d_P_size_30 rfl (Nat.le_refl _) (Nat.le_refl _) (poI h)
theorem d_P_packByte_0 : decode M_P_packByte.2.1 0 = .ok (.aload_n 0, 1) := by decide +kernel
theorem d_P_packByte_1 : decode M_P_packByte.2.1 1 = .ok (.getfield 39, 3) := by decide +kernel
theorem d_P_packByte_4 : decode M_P_packByte.2.1 4 = .ok (.iload_n 1, 1) := by decide +kernel
theorem d_P_packByte_5 : decode M_P_packByte.2.1 5 = .ok (.invokevirtual 138, 3) := by decide +kernel
theorem d_P_packByte_8 : decode M_P_packByte.2.1 8 = .ok (.ireturn, 1) := by decide +kernel
def f_P_packByte (x0 : Nat) (x1 : Int32) (c : cM) (K : Int32 → cM → Prop) : Prop :=
  kd x0 = 0 ∧ (kd (rf x0 4) = 1 ∧ (f_Row_at (rf x0 4) x1 c (fun v4 c3 => K v4 c3)))
theorem c_P_packByte {x0 : Nat} {x1 : Int32} {c : cM} {K : Int32 → cM → Prop} (h : f_P_packByte x0 x1 c K) : Ct M_P_packByte 1 0 0 (wd c) [.ref x0, .int x1] (PoI K) := by
  refine Ct.of (by decide +kernel) (Nat.le_of_ble_eq_true rfl) (fun Z T => ?_)
  have F := T.F
  unfold f_P_packByte at h
  show Z (wd c) 0 [(0, .ref x0), (1, .int x1)] [] 0 0
  refine g_aload_n F (pc := 0) d_P_packByte_0 0 rfl ?_
  obtain ⟨o1, h⟩ := h
  refine gc_getR F (pc := 1) d_P_packByte_1 fi_P_39 o1 (g_iload_n F (pc := 4) d_P_packByte_4 1 rfl ?_)
  obtain ⟨o2, h⟩ := h
  refine gc_callVI (As := [.int x1]) (st := []) F (pc := 5) d_P_packByte_5 cb_P_138 iv_Row_at np_Row_at o2 vc_1 (c_Row_at h) rfl (by decide) (Nat.le_refl _) (Nat.le_refl _) (Nat.le_of_ble_eq_true rfl) (fun v4 c3 h => ?_)
  exact g_iret T (pc := 8) d_P_packByte_8 rfl (Nat.le_refl _) (Nat.le_refl _) (poI h)
theorem d_P_byteOf_0 : decode M_P_byteOf.2.1 0 = .ok (.aload_n 0, 1) := by decide +kernel
theorem d_P_byteOf_1 : decode M_P_byteOf.2.1 1 = .ok (.getfield 12, 3) := by decide +kernel
theorem d_P_byteOf_4 : decode M_P_byteOf.2.1 4 = .ok (.iload_n 1, 1) := by decide +kernel
theorem d_P_byteOf_5 : decode M_P_byteOf.2.1 5 = .ok (.invokevirtual 97, 3) := by decide +kernel
theorem d_P_byteOf_8 : decode M_P_byteOf.2.1 8 = .ok (.ifCond .eq 22, 3) := by decide +kernel
theorem d_P_byteOf_11 : decode M_P_byteOf.2.1 11 = .ok (.aload_n 0, 1) := by decide +kernel
theorem d_P_byteOf_12 : decode M_P_byteOf.2.1 12 = .ok (.getfield 12, 3) := by decide +kernel
theorem d_P_byteOf_15 : decode M_P_byteOf.2.1 15 = .ok (.getfield 101, 3) := by decide +kernel
theorem d_P_byteOf_18 : decode M_P_byteOf.2.1 18 = .ok (.iload_n 1, 1) := by decide +kernel
theorem d_P_byteOf_19 : decode M_P_byteOf.2.1 19 = .ok (.aaload, 1) := by decide +kernel
theorem d_P_byteOf_20 : decode M_P_byteOf.2.1 20 = .ok (.getfield 79, 3) := by decide +kernel
theorem d_P_byteOf_23 : decode M_P_byteOf.2.1 23 = .ok (.iload_n 2, 1) := by decide +kernel
theorem d_P_byteOf_24 : decode M_P_byteOf.2.1 24 = .ok (.invokevirtual 138, 3) := by decide +kernel
theorem d_P_byteOf_27 : decode M_P_byteOf.2.1 27 = .ok (.goto 4, 3) := by decide +kernel
theorem d_P_byteOf_30 : decode M_P_byteOf.2.1 30 = .ok (.iconst (-1), 1) := by decide +kernel
theorem d_P_byteOf_31 : decode M_P_byteOf.2.1 31 = .ok (.ireturn, 1) := by decide +kernel
def f_P_byteOf (x0 : Nat) (x1 : Int32) (x2 : Int32) (c : cM) (K : Int32 → cM → Prop) : Prop :=
  kd x0 = 0 ∧ (kd (rf x0 0) = 4 ∧ (f_Store_has (rf x0 0) x1 c (fun v4 c3 => ((v4 = 0) → (K (-1) c3)) ∧ (¬ (v4 = 0) → (kd (rf (rf x0 0) 0) = 102 ∧ (vp_in x1 (ln (rf (rf x0 0) 0)) ∧ (kd (rf (rf (rf x0 0) 0) (Int32.toNatClampNeg x1)) = 3 ∧ (kd (rf (rf (rf (rf x0 0) 0) (Int32.toNatClampNeg x1)) 1) = 1 ∧ (f_Row_at (rf (rf (rf (rf x0 0) 0) (Int32.toNatClampNeg x1)) 1) x2 c3 (fun v11 c10 => K v11 c10))))))))))
theorem c_P_byteOf {x0 : Nat} {x1 : Int32} {x2 : Int32} {c : cM} {K : Int32 → cM → Prop} (h : f_P_byteOf x0 x1 x2 c K) : Ct M_P_byteOf 1 0 0 (wd c) [.ref x0, .int x1, .int x2] (PoI K) := by
  refine Ct.of (by decide +kernel) (Nat.le_of_ble_eq_true rfl) (fun Z T => ?_)
  have F := T.F
  unfold f_P_byteOf at h
  show Z (wd c) 0 [(0, .ref x0), (1, .int x1), (2, .int x2)] [] 0 0
  refine g_aload_n F (pc := 0) d_P_byteOf_0 0 rfl ?_
  obtain ⟨o1, h⟩ := h
  refine gc_getR F (pc := 1) d_P_byteOf_1 fi_P_12 o1 (g_iload_n F (pc := 4) d_P_byteOf_4 1 rfl ?_)
  obtain ⟨o2, h⟩ := h
  refine gc_callVI (As := [.int x1]) (st := []) F (pc := 5) d_P_byteOf_5 cb_P_97 iv_Store_has np_Store_has o2 vc_4 (c_Store_has h) rfl (by decide) (Nat.le_refl _) (Nat.le_refl _) (Nat.le_of_ble_eq_true rfl) (fun v4 c3 h => ?_)
  refine g_if_eq (tgt := 30) F (pc := 8) d_P_byteOf_8 (by decide) (fun b5 => ?_) (fun b5 => ?_)
  · replace h := h.1 b5
    refine g_iconst (v := (-1)) F (pc := 30) d_P_byteOf_30 (by decide) ?_
    exact g_iret T (pc := 31) d_P_byteOf_31 rfl (Nat.le_refl _) (Nat.le_refl _) (poI h)
  · replace h := h.2 b5
    refine g_aload_n F (pc := 11) d_P_byteOf_11 0 rfl (gc_getR F (pc := 12) d_P_byteOf_12 fi_P_12 o1 (gc_getR F (pc := 15) d_P_byteOf_15 fi_P_101 o2 (g_iload_n F (pc := 18) d_P_byteOf_18 1 rfl ?_)))
    obtain ⟨o6, h⟩ := h
    obtain ⟨o7, h⟩ := h
    refine gc_aald F (pc := 19) d_P_byteOf_19 o6 o7 ?_
    obtain ⟨o8, h⟩ := h
    refine gc_getR F (pc := 20) d_P_byteOf_20 fi_P_79 o8 (g_iload_n F (pc := 23) d_P_byteOf_23 2 rfl ?_)
    obtain ⟨o9, h⟩ := h
    refine gc_callVI (As := [.int x2]) (st := []) F (pc := 24) d_P_byteOf_24 cb_P_138 iv_Row_at np_Row_at o9 vc_1 (c_Row_at h) rfl (by decide) (Nat.le_refl _) (Nat.le_refl _) (Nat.le_of_ble_eq_true rfl) (fun v11 c10 h => ?_)
    refine g_goto (tgt := 31) F (pc := 27) d_P_byteOf_27 (by decide) ?_
    exact g_iret T (pc := 31) d_P_byteOf_31 rfl (Nat.le_refl _) (Nat.le_refl _) (poI h)
theorem d_P_sweep_0 : decode M_P_sweep.2.1 0 = .ok (.aload_n 0, 1) := by decide +kernel
theorem d_P_sweep_1 : decode M_P_sweep.2.1 1 = .ok (.invokevirtual 109, 3) := by decide +kernel
theorem d_P_sweep_4 : decode M_P_sweep.2.1 4 = .ok (.aload_n 0, 1) := by decide +kernel
theorem d_P_sweep_5 : decode M_P_sweep.2.1 5 = .ok (.getfield 12, 3) := by decide +kernel
theorem d_P_sweep_8 : decode M_P_sweep.2.1 8 = .ok (.invokevirtual 132, 3) := by decide +kernel
theorem d_P_sweep_11 : decode M_P_sweep.2.1 11 = .ok (.ireturn, 1) := by decide +kernel
def f_P_sweep (x0 : Nat) (c : cM) (K : Int32 → cM → Prop) : Prop :=
  kd x0 = 0 ∧ (f_P_dropDraft x0 c (fun c2 => kd (rf x0 0) = 4 ∧ (f_Store_dropUnreached (rf x0 0) c2 (fun v5 c4 => K v5 c4))))
theorem c_P_sweep {x0 : Nat} {c : cM} {K : Int32 → cM → Prop} (h : f_P_sweep x0 c K) : Ct M_P_sweep 6 0 0 (wd c) [.ref x0] (PoI K) := by
  refine Ct.of (by decide +kernel) (Nat.le_of_ble_eq_true rfl) (fun Z T => ?_)
  have F := T.F
  unfold f_P_sweep at h
  show Z (wd c) 0 [(0, .ref x0)] [] 0 0
  refine g_aload_n F (pc := 0) d_P_sweep_0 0 rfl ?_
  obtain ⟨o1, h⟩ := h
  refine gc_callVV (As := []) (st := []) F (pc := 1) d_P_sweep_1 cb_P_109 iv_P_dropDraft np_P_dropDraft o1 vc_0 (c_P_dropDraft h) rfl (by decide) (Nat.le_refl _) (Nat.le_refl _) (Nat.le_of_ble_eq_true rfl) (fun c2 h => ?_)
  refine g_aload_n F (pc := 4) d_P_sweep_4 0 rfl (gc_getR F (pc := 5) d_P_sweep_5 fi_P_12 o1 ?_)
  obtain ⟨o3, h⟩ := h
  refine gc_callVI (As := []) (st := []) F (pc := 8) d_P_sweep_8 cb_P_132 iv_Store_dropUnreached np_Store_dropUnreached o3 vc_4 (c_Store_dropUnreached h) rfl (by decide) (Nat.le_refl _) (Nat.le_refl _) (Nat.le_of_ble_eq_true rfl) (fun v5 c4 h => ?_)
  exact g_iret T (pc := 11) d_P_sweep_11 rfl (Nat.le_refl _) (Nat.le_refl _) (poI h)
theorem d_P_alter_0 : decode M_P_alter.2.1 0 = .ok (.iload_n 1, 1) := by decide +kernel
theorem d_P_alter_1 : decode M_P_alter.2.1 1 = .ok (.ifCond .lt 25, 3) := by decide +kernel
theorem d_P_alter_4 : decode M_P_alter.2.1 4 = .ok (.iload_n 1, 1) := by decide +kernel
theorem d_P_alter_5 : decode M_P_alter.2.1 5 = .ok (.aload_n 0, 1) := by decide +kernel
theorem d_P_alter_6 : decode M_P_alter.2.1 6 = .ok (.getfield 39, 3) := by decide +kernel
theorem d_P_alter_9 : decode M_P_alter.2.1 9 = .ok (.getfield 70, 3) := by decide +kernel
theorem d_P_alter_12 : decode M_P_alter.2.1 12 = .ok (.if_icmp .ge 14, 3) := by decide +kernel
theorem d_P_alter_15 : decode M_P_alter.2.1 15 = .ok (.iload_n 2, 1) := by decide +kernel
theorem d_P_alter_16 : decode M_P_alter.2.1 16 = .ok (.ifCond .lt 10, 3) := by decide +kernel
theorem d_P_alter_19 : decode M_P_alter.2.1 19 = .ok (.iload_n 2, 1) := by decide +kernel
theorem d_P_alter_20 : decode M_P_alter.2.1 20 = .ok (.sipush 255, 3) := by decide +kernel
theorem d_P_alter_23 : decode M_P_alter.2.1 23 = .ok (.if_icmp .le 5, 3) := by decide +kernel
theorem d_P_alter_26 : decode M_P_alter.2.1 26 = .ok (.iconst 0, 1) := by decide +kernel
theorem d_P_alter_27 : decode M_P_alter.2.1 27 = .ok (.ireturn, 1) := by decide +kernel
theorem d_P_alter_28 : decode M_P_alter.2.1 28 = .ok (.aload_n 0, 1) := by decide +kernel
theorem d_P_alter_29 : decode M_P_alter.2.1 29 = .ok (.getfield 39, 3) := by decide +kernel
theorem d_P_alter_32 : decode M_P_alter.2.1 32 = .ok (.getfield 166, 3) := by decide +kernel
theorem d_P_alter_35 : decode M_P_alter.2.1 35 = .ok (.iload_n 1, 1) := by decide +kernel
theorem d_P_alter_36 : decode M_P_alter.2.1 36 = .ok (.iload_n 2, 1) := by decide +kernel
theorem d_P_alter_37 : decode M_P_alter.2.1 37 = .ok (.iastore, 1) := by decide +kernel
theorem d_P_alter_38 : decode M_P_alter.2.1 38 = .ok (.iconst 1, 1) := by decide +kernel
theorem d_P_alter_39 : decode M_P_alter.2.1 39 = .ok (.ireturn, 1) := by decide +kernel
def f_P_alter (x0 : Nat) (x1 : Int32) (x2 : Int32) (c : cM) (K : Int32 → cM → Prop) : Prop :=
  ((x1 < 0) → (K 0 c)) ∧ (¬ (x1 < 0) → (kd x0 = 0 ∧ (kd (rf x0 4) = 1 ∧ ((((c (rf x0 4) 1) ≤ x1) → (K 0 c)) ∧ (¬ ((c (rf x0 4) 1) ≤ x1) → (((x2 < 0) → (K 0 c)) ∧ (¬ (x2 < 0) → (((x2 ≤ 255) → (kd (rf (rf x0 4) 0) = 100 ∧ (vp_in x1 (ln (rf (rf x0 4) 0)) ∧ (∀ c9 : cM, c9 = c_up c (rf (rf x0 4) 0) (Int32.toNatClampNeg x1) x2 → (K 1 c9))))) ∧ (¬ (x2 ≤ 255) → (K 0 c))))))))))
theorem c_P_alter {x0 : Nat} {x1 : Int32} {x2 : Int32} {c : cM} {K : Int32 → cM → Prop} (h : f_P_alter x0 x1 x2 c K) : Ct M_P_alter 0 0 0 (wd c) [.ref x0, .int x1, .int x2] (PoI K) := by
  refine Ct.of (by decide +kernel) (Nat.le_of_ble_eq_true rfl) (fun Z T => ?_)
  have F := T.F
  unfold f_P_alter at h
  show Z (wd c) 0 [(0, .ref x0), (1, .int x1), (2, .int x2)] [] 0 0
  refine g_iload_n F (pc := 0) d_P_alter_0 1 rfl ?_
  refine g_if_lt (tgt := 26) F (pc := 1) d_P_alter_1 (by decide) (fun b1 => ?_) (fun b1 => ?_)
  · replace h := h.1 b1
    refine g_iconst (v := 0) F (pc := 26) d_P_alter_26 (by decide) ?_
    exact g_zret T (pc := 27) d_P_alter_27 rfl (by decide) (Nat.le_refl _) (Nat.le_refl _) (poI h)
  · replace h := h.2 b1
    refine g_iload_n F (pc := 4) d_P_alter_4 1 rfl (g_aload_n F (pc := 5) d_P_alter_5 0 rfl ?_)
    obtain ⟨o2, h⟩ := h
    refine gc_getR F (pc := 6) d_P_alter_6 fi_P_39 o2 ?_
    obtain ⟨o3, h⟩ := h
    refine gc_getI F (pc := 9) d_P_alter_9 fi_P_70 o3 ?_
    refine g_icmp_ge (tgt := 26) F (pc := 12) d_P_alter_12 (by decide) (fun b4 => ?_) (fun b4 => ?_)
    · replace h := h.1 b4
      refine g_iconst (v := 0) F (pc := 26) d_P_alter_26 (by decide) ?_
      exact g_zret T (pc := 27) d_P_alter_27 rfl (by decide) (Nat.le_refl _) (Nat.le_refl _) (poI h)
    · replace h := h.2 b4
      refine g_iload_n F (pc := 15) d_P_alter_15 2 rfl ?_
      refine g_if_lt (tgt := 26) F (pc := 16) d_P_alter_16 (by decide) (fun b5 => ?_) (fun b5 => ?_)
      · replace h := h.1 b5
        refine g_iconst (v := 0) F (pc := 26) d_P_alter_26 (by decide) ?_
        exact g_zret T (pc := 27) d_P_alter_27 rfl (by decide) (Nat.le_refl _) (Nat.le_refl _) (poI h)
      · replace h := h.2 b5
        refine g_iload_n F (pc := 19) d_P_alter_19 2 rfl (g_sipush (v := 255) F (pc := 20) d_P_alter_20 (by decide) ?_)
        refine g_icmp_le (tgt := 28) F (pc := 23) d_P_alter_23 (by decide) (fun b6 => ?_) (fun b6 => ?_)
        · replace h := h.1 b6
          refine g_aload_n F (pc := 28) d_P_alter_28 0 rfl (gc_getR F (pc := 29) d_P_alter_29 fi_P_39 o2 (gc_getR F (pc := 32) d_P_alter_32 fi_P_166 o3 (g_iload_n F (pc := 35) d_P_alter_35 1 rfl (g_iload_n F (pc := 36) d_P_alter_36 2 rfl ?_))))
          obtain ⟨o7, h⟩ := h
          obtain ⟨o8, h⟩ := h
          refine gc_iast F (pc := 37) d_P_alter_37 o7 o8 ?_
          obtain ⟨c9, ec9⟩ : ∃ c9 : cM, c9 = c_up c (rf (rf x0 4) 0) (Int32.toNatClampNeg x1) x2 := ⟨_, rfl⟩
          rw [← ec9]
          replace h := h c9 ec9
          refine g_iconst (v := 1) F (pc := 38) d_P_alter_38 (by decide) ?_
          exact g_zret T (pc := 39) d_P_alter_39 rfl (by decide) (Nat.le_refl _) (Nat.le_refl _) (poI h)
        · replace h := h.2 b6
          refine g_iconst (v := 0) F (pc := 26) d_P_alter_26 (by decide) ?_
          exact g_zret T (pc := 27) d_P_alter_27 rfl (by decide) (Nat.le_refl _) (Nat.le_refl _) (poI h)
