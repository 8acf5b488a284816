theorem d_Mo_put_0 : decode M_Mo_put.2.1 0 = .ok (.aload_n 0, 1) := by decide +kernel
theorem d_Mo_put_1 : decode M_Mo_put.2.1 1 = .ok (.getfield 41, 3) := by decide +kernel
theorem d_Mo_put_4 : decode M_Mo_put.2.1 4 = .ok (.aload_n 0, 1) := by decide +kernel
theorem d_Mo_put_5 : decode M_Mo_put.2.1 5 = .ok (.getfield 59, 3) := by decide +kernel
theorem d_Mo_put_8 : decode M_Mo_put.2.1 8 = .ok (.iload_n 1, 1) := by decide +kernel
theorem d_Mo_put_9 : decode M_Mo_put.2.1 9 = .ok (.sipush 255, 3) := by decide +kernel
theorem d_Mo_put_12 : decode M_Mo_put.2.1 12 = .ok (.iand, 1) := by decide +kernel
theorem d_Mo_put_13 : decode M_Mo_put.2.1 13 = .ok (.iastore, 1) := by decide +kernel
theorem d_Mo_put_14 : decode M_Mo_put.2.1 14 = .ok (.aload_n 0, 1) := by decide +kernel
theorem d_Mo_put_15 : decode M_Mo_put.2.1 15 = .ok (.dup, 1) := by decide +kernel
theorem d_Mo_put_16 : decode M_Mo_put.2.1 16 = .ok (.getfield 59, 3) := by decide +kernel
theorem d_Mo_put_19 : decode M_Mo_put.2.1 19 = .ok (.iconst 1, 1) := by decide +kernel
theorem d_Mo_put_20 : decode M_Mo_put.2.1 20 = .ok (.iadd, 1) := by decide +kernel
theorem d_Mo_put_21 : decode M_Mo_put.2.1 21 = .ok (.putfield 59, 3) := by decide +kernel
theorem d_Mo_put_24 : decode M_Mo_put.2.1 24 = .ok (.return_, 1) := by decide +kernel
def f_Mo_put (x0 : Nat) (x1 : Int32) (c : cM) (K : cM → Prop) : Prop :=
  kd x0 = 7 ∧ (kd (rf x0 14) = 100 ∧ (vp_in (c x0 13) (ln (rf x0 14)) ∧ (∀ c4 : cM, c4 = c_up c (rf x0 14) (Int32.toNatClampNeg (c x0 13)) (x1 &&& 255) → (∀ c5 : cM, c5 = c_up c4 x0 13 ((c4 x0 13) + 1) → (K c5)))))
theorem c_Mo_put {x0 : Nat} {x1 : Int32} {c : cM} {K : cM → Prop} (h : f_Mo_put x0 x1 c K) : Ct M_Mo_put 0 0 0 (wd c) [.ref x0, .int x1] (PoV K) := by
  refine Ct.of (by decide +kernel) (Nat.le_of_ble_eq_true rfl) (fun Z T => ?_)
  have F := T.F
  unfold f_Mo_put at h
  show Z (wd c) 0 [(0, .ref x0), (1, .int x1)] [] 0 0
  refine g_aload_n F (pc := 0) d_Mo_put_0 0 rfl ?_
  obtain ⟨o1, h⟩ := h
  refine gc_getR F (pc := 1) d_Mo_put_1 fi_Mo_41 o1 (g_aload_n F (pc := 4) d_Mo_put_4 0 rfl (gc_getI F (pc := 5) d_Mo_put_5 fi_Mo_59 o1 (g_iload_n F (pc := 8) d_Mo_put_8 1 rfl (g_sipush (v := 255) F (pc := 9) d_Mo_put_9 (by decide) (g_iand F (pc := 12) d_Mo_put_12 ?_)))))
  obtain ⟨o2, h⟩ := h
  obtain ⟨o3, h⟩ := h
  refine gc_iast F (pc := 13) d_Mo_put_13 o2 o3 ?_
  obtain ⟨c4, ec4⟩ : ∃ c4 : cM, c4 = c_up c (rf x0 14) (Int32.toNatClampNeg (c x0 13)) (x1 &&& 255) := ⟨_, rfl⟩
  rw [← ec4]
  replace h := h c4 ec4
  refine g_aload_n F (pc := 14) d_Mo_put_14 0 rfl (g_dup F (pc := 15) d_Mo_put_15 rfl (gc_getI F (pc := 16) d_Mo_put_16 fi_Mo_59 o1 (g_iconst (v := 1) F (pc := 19) d_Mo_put_19 (by decide) (g_iadd F (pc := 20) d_Mo_put_20 (gc_putI F (pc := 21) d_Mo_put_21 pi_Mo_59 o1 ?_)))))
  obtain ⟨c5, ec5⟩ : ∃ c5 : cM, c5 = c_up c4 x0 13 ((c4 x0 13) + 1) := ⟨_, rfl⟩
  rw [← ec5]
  replace h := h c5 ec5
  exact g_vret T (pc := 24) d_Mo_put_24 rfl (Nat.le_refl _) (Nat.le_refl _) (poV h)
theorem d_Mo_turned_0 : decode M_Mo_turned.2.1 0 = .ok (.iload_n 0, 1) := by decide +kernel
theorem d_Mo_turned_1 : decode M_Mo_turned.2.1 1 = .ok (.iload_n 1, 1) := by decide +kernel
theorem d_Mo_turned_2 : decode M_Mo_turned.2.1 2 = .ok (.ishl, 1) := by decide +kernel
theorem d_Mo_turned_3 : decode M_Mo_turned.2.1 3 = .ok (.iload_n 0, 1) := by decide +kernel
theorem d_Mo_turned_4 : decode M_Mo_turned.2.1 4 = .ok (.bipush 32, 2) := by decide +kernel
theorem d_Mo_turned_6 : decode M_Mo_turned.2.1 6 = .ok (.iload_n 1, 1) := by decide +kernel
theorem d_Mo_turned_7 : decode M_Mo_turned.2.1 7 = .ok (.isub, 1) := by decide +kernel
theorem d_Mo_turned_8 : decode M_Mo_turned.2.1 8 = .ok (.iushr, 1) := by decide +kernel
theorem d_Mo_turned_9 : decode M_Mo_turned.2.1 9 = .ok (.ior, 1) := by decide +kernel
theorem d_Mo_turned_10 : decode M_Mo_turned.2.1 10 = .ok (.ireturn, 1) := by decide +kernel
def f_Mo_turned (x0 : Int32) (x1 : Int32) (c : cM) (K : Int32 → cM → Prop) : Prop :=
  K ((c_shl x0 x1) ||| (c_ushr x0 (32 - x1))) c
theorem c_Mo_turned {x0 : Int32} {x1 : Int32} {c : cM} {K : Int32 → cM → Prop} (h : f_Mo_turned x0 x1 c K) : Ct M_Mo_turned 0 0 0 (wd c) [.int x0, .int x1] (PoI K) := by
  refine Ct.of (by decide +kernel) (Nat.le_of_ble_eq_true rfl) (fun Z T => ?_)
  have F := T.F
  unfold f_Mo_turned at h
  show Z (wd c) 0 [(0, .int x0), (1, .int x1)] [] 0 0
  refine g_iload_n F (pc := 0) d_Mo_turned_0 0 rfl (g_iload_n F (pc := 1) d_Mo_turned_1 1 rfl (g_ishl F (pc := 2) d_Mo_turned_2 (g_iload_n F (pc := 3) d_Mo_turned_3 0 rfl (g_bipush (v := 32) F (pc := 4) d_Mo_turned_4 (by decide) (g_iload_n F (pc := 6) d_Mo_turned_6 1 rfl ?_)))))
  refine g_isub F (pc := 7) d_Mo_turned_7 (g_iushr F (pc := 8) d_Mo_turned_8 (g_ior F (pc := 9) d_Mo_turned_9 ?_))
  exact g_iret T (pc := 10) d_Mo_turned_10 rfl (Nat.le_refl _) (Nat.le_refl _) (poI h)
theorem d_Mo_mixed_0 : decode M_Mo_mixed.2.1 0 = .ok (.iload_n 0, 1) := by decide +kernel
theorem d_Mo_mixed_1 : decode M_Mo_mixed.2.1 1 = .ok (.bipush 20, 2) := by decide +kernel
theorem d_Mo_mixed_3 : decode M_Mo_mixed.2.1 3 = .ok (.if_icmp .ge 18, 3) := by decide +kernel
theorem d_Mo_mixed_6 : decode M_Mo_mixed.2.1 6 = .ok (.iload_n 1, 1) := by decide +kernel
theorem d_Mo_mixed_7 : decode M_Mo_mixed.2.1 7 = .ok (.iload_n 2, 1) := by decide +kernel
theorem d_Mo_mixed_8 : decode M_Mo_mixed.2.1 8 = .ok (.iand, 1) := by decide +kernel
theorem d_Mo_mixed_9 : decode M_Mo_mixed.2.1 9 = .ok (.iload_n 1, 1) := by decide +kernel
theorem d_Mo_mixed_10 : decode M_Mo_mixed.2.1 10 = .ok (.iconst (-1), 1) := by decide +kernel
theorem d_Mo_mixed_11 : decode M_Mo_mixed.2.1 11 = .ok (.ixor, 1) := by decide +kernel
theorem d_Mo_mixed_12 : decode M_Mo_mixed.2.1 12 = .ok (.iload_n 3, 1) := by decide +kernel
theorem d_Mo_mixed_13 : decode M_Mo_mixed.2.1 13 = .ok (.iand, 1) := by decide +kernel
theorem d_Mo_mixed_14 : decode M_Mo_mixed.2.1 14 = .ok (.ior, 1) := by decide +kernel
theorem d_Mo_mixed_15 : decode M_Mo_mixed.2.1 15 = .ok (.ldc 75, 2) := by decide +kernel
theorem d_Mo_mixed_17 : decode M_Mo_mixed.2.1 17 = .ok (.iadd, 1) := by decide +kernel
theorem d_Mo_mixed_18 : decode M_Mo_mixed.2.1 18 = .ok (.goto 51, 3) := by decide +kernel
theorem d_Mo_mixed_21 : decode M_Mo_mixed.2.1 21 = .ok (.iload_n 0, 1) := by decide +kernel
theorem d_Mo_mixed_22 : decode M_Mo_mixed.2.1 22 = .ok (.bipush 40, 2) := by decide +kernel
theorem d_Mo_mixed_24 : decode M_Mo_mixed.2.1 24 = .ok (.if_icmp .ge 14, 3) := by decide +kernel
theorem d_Mo_mixed_27 : decode M_Mo_mixed.2.1 27 = .ok (.iload_n 1, 1) := by decide +kernel
theorem d_Mo_mixed_28 : decode M_Mo_mixed.2.1 28 = .ok (.iload_n 2, 1) := by decide +kernel
theorem d_Mo_mixed_29 : decode M_Mo_mixed.2.1 29 = .ok (.ixor, 1) := by decide +kernel
theorem d_Mo_mixed_30 : decode M_Mo_mixed.2.1 30 = .ok (.iload_n 3, 1) := by decide +kernel
theorem d_Mo_mixed_31 : decode M_Mo_mixed.2.1 31 = .ok (.ixor, 1) := by decide +kernel
theorem d_Mo_mixed_32 : decode M_Mo_mixed.2.1 32 = .ok (.ldc 76, 2) := by decide +kernel
theorem d_Mo_mixed_34 : decode M_Mo_mixed.2.1 34 = .ok (.iadd, 1) := by decide +kernel
theorem d_Mo_mixed_35 : decode M_Mo_mixed.2.1 35 = .ok (.goto 34, 3) := by decide +kernel
theorem d_Mo_mixed_38 : decode M_Mo_mixed.2.1 38 = .ok (.iload_n 0, 1) := by decide +kernel
theorem d_Mo_mixed_39 : decode M_Mo_mixed.2.1 39 = .ok (.bipush 60, 2) := by decide +kernel
theorem d_Mo_mixed_41 : decode M_Mo_mixed.2.1 41 = .ok (.if_icmp .ge 20, 3) := by decide +kernel
theorem d_Mo_mixed_44 : decode M_Mo_mixed.2.1 44 = .ok (.iload_n 1, 1) := by decide +kernel
theorem d_Mo_mixed_45 : decode M_Mo_mixed.2.1 45 = .ok (.iload_n 2, 1) := by decide +kernel
theorem d_Mo_mixed_46 : decode M_Mo_mixed.2.1 46 = .ok (.iand, 1) := by decide +kernel
theorem d_Mo_mixed_47 : decode M_Mo_mixed.2.1 47 = .ok (.iload_n 1, 1) := by decide +kernel
theorem d_Mo_mixed_48 : decode M_Mo_mixed.2.1 48 = .ok (.iload_n 3, 1) := by decide +kernel
theorem d_Mo_mixed_49 : decode M_Mo_mixed.2.1 49 = .ok (.iand, 1) := by decide +kernel
theorem d_Mo_mixed_50 : decode M_Mo_mixed.2.1 50 = .ok (.ior, 1) := by decide +kernel
theorem d_Mo_mixed_51 : decode M_Mo_mixed.2.1 51 = .ok (.iload_n 2, 1) := by decide +kernel
theorem d_Mo_mixed_52 : decode M_Mo_mixed.2.1 52 = .ok (.iload_n 3, 1) := by decide +kernel
theorem d_Mo_mixed_53 : decode M_Mo_mixed.2.1 53 = .ok (.iand, 1) := by decide +kernel
theorem d_Mo_mixed_54 : decode M_Mo_mixed.2.1 54 = .ok (.ior, 1) := by decide +kernel
theorem d_Mo_mixed_55 : decode M_Mo_mixed.2.1 55 = .ok (.ldc 77, 2) := by decide +kernel
theorem d_Mo_mixed_57 : decode M_Mo_mixed.2.1 57 = .ok (.isub, 1) := by decide +kernel
theorem d_Mo_mixed_58 : decode M_Mo_mixed.2.1 58 = .ok (.goto 11, 3) := by decide +kernel
theorem d_Mo_mixed_61 : decode M_Mo_mixed.2.1 61 = .ok (.iload_n 1, 1) := by decide +kernel
theorem d_Mo_mixed_62 : decode M_Mo_mixed.2.1 62 = .ok (.iload_n 2, 1) := by decide +kernel
theorem d_Mo_mixed_63 : decode M_Mo_mixed.2.1 63 = .ok (.ixor, 1) := by decide +kernel
theorem d_Mo_mixed_64 : decode M_Mo_mixed.2.1 64 = .ok (.iload_n 3, 1) := by decide +kernel
theorem d_Mo_mixed_65 : decode M_Mo_mixed.2.1 65 = .ok (.ixor, 1) := by decide +kernel
theorem d_Mo_mixed_66 : decode M_Mo_mixed.2.1 66 = .ok (.ldc 78, 2) := by decide +kernel
theorem d_Mo_mixed_68 : decode M_Mo_mixed.2.1 68 = .ok (.isub, 1) := by decide +kernel
theorem d_Mo_mixed_69 : decode M_Mo_mixed.2.1 69 = .ok (.ireturn, 1) := by decide +kernel
def f_Mo_mixed (x0 : Int32) (x1 : Int32) (x2 : Int32) (x3 : Int32) (c : cM) (K : Int32 → cM → Prop) : Prop :=
  ((20 ≤ x0) → (((40 ≤ x0) → (((60 ≤ x0) → (K (((x1 ^^^ x2) ^^^ x3) - 899497514) c)) ∧ (¬ (60 ≤ x0) → (K ((((x1 &&& x2) ||| (x1 &&& x3)) ||| (x2 &&& x3)) - 1894007588) c)))) ∧ (¬ (40 ≤ x0) → (K (((x1 ^^^ x2) ^^^ x3) + 1859775393) c)))) ∧ (¬ (20 ≤ x0) → (K (((x1 &&& x2) ||| ((x1 ^^^ (-1)) &&& x3)) + 1518500249) c))
theorem c_Mo_mixed {x0 : Int32} {x1 : Int32} {x2 : Int32} {x3 : Int32} {c : cM} {K : Int32 → cM → Prop} (h : f_Mo_mixed x0 x1 x2 x3 c K) : Ct M_Mo_mixed 0 0 0 (wd c) [.int x0, .int x1, .int x2, .int x3] (PoI K) := by
  refine Ct.of (by decide +kernel) (Nat.le_of_ble_eq_true rfl) (fun Z T => ?_)
  have F := T.F
  unfold f_Mo_mixed at h
  show Z (wd c) 0 [(0, .int x0), (1, .int x1), (2, .int x2), (3, .int x3)] [] 0 0
  refine g_iload_n F (pc := 0) d_Mo_mixed_0 0 rfl (g_bipush (v := 20) F (pc := 1) d_Mo_mixed_1 (by decide) ?_)
  refine g_icmp_ge (tgt := 21) F (pc := 3) d_Mo_mixed_3 (by decide) (fun b1 => ?_) (fun b1 => ?_)
  · replace h := h.1 b1
    refine g_iload_n F (pc := 21) d_Mo_mixed_21 0 rfl (g_bipush (v := 40) F (pc := 22) d_Mo_mixed_22 (by decide) ?_)
    refine g_icmp_ge (tgt := 38) F (pc := 24) d_Mo_mixed_24 (by decide) (fun b2 => ?_) (fun b2 => ?_)
    · replace h := h.1 b2
      refine g_iload_n F (pc := 38) d_Mo_mixed_38 0 rfl (g_bipush (v := 60) F (pc := 39) d_Mo_mixed_39 (by decide) ?_)
      refine g_icmp_ge (tgt := 61) F (pc := 41) d_Mo_mixed_41 (by decide) (fun b3 => ?_) (fun b3 => ?_)
      · replace h := h.1 b3
        refine g_iload_n F (pc := 61) d_Mo_mixed_61 1 rfl (g_iload_n F (pc := 62) d_Mo_mixed_62 2 rfl (g_ixor F (pc := 63) d_Mo_mixed_63 (g_iload_n F (pc := 64) d_Mo_mixed_64 3 rfl (g_ixor F (pc := 65) d_Mo_mixed_65 (g_ldc F (pc := 66) d_Mo_mixed_66 kc_Mo_78 ?_)))))
        refine g_isub F (pc := 68) d_Mo_mixed_68 ?_
        exact g_iret T (pc := 69) d_Mo_mixed_69 rfl (Nat.le_refl _) (Nat.le_refl _) (poI h)
      · replace h := h.2 b3
        refine g_iload_n F (pc := 44) d_Mo_mixed_44 1 rfl (g_iload_n F (pc := 45) d_Mo_mixed_45 2 rfl (g_iand F (pc := 46) d_Mo_mixed_46 (g_iload_n F (pc := 47) d_Mo_mixed_47 1 rfl (g_iload_n F (pc := 48) d_Mo_mixed_48 3 rfl (g_iand F (pc := 49) d_Mo_mixed_49 ?_)))))
        refine g_ior F (pc := 50) d_Mo_mixed_50 (g_iload_n F (pc := 51) d_Mo_mixed_51 2 rfl (g_iload_n F (pc := 52) d_Mo_mixed_52 3 rfl (g_iand F (pc := 53) d_Mo_mixed_53 (g_ior F (pc := 54) d_Mo_mixed_54 (g_ldc F (pc := 55) d_Mo_mixed_55 kc_Mo_77 ?_)))))
        refine g_isub F (pc := 57) d_Mo_mixed_57 (g_goto (tgt := 69) F (pc := 58) d_Mo_mixed_58 (by decide) ?_)
        exact g_iret T (pc := 69) d_Mo_mixed_69 rfl (Nat.le_refl _) (Nat.le_refl _) (poI h)
    · replace h := h.2 b2
      refine g_iload_n F (pc := 27) d_Mo_mixed_27 1 rfl (g_iload_n F (pc := 28) d_Mo_mixed_28 2 rfl (g_ixor F (pc := 29) d_Mo_mixed_29 (g_iload_n F (pc := 30) d_Mo_mixed_30 3 rfl (g_ixor F (pc := 31) d_Mo_mixed_31 (g_ldc F (pc := 32) d_Mo_mixed_32 kc_Mo_76 ?_)))))
      refine g_iadd F (pc := 34) d_Mo_mixed_34 (g_goto (tgt := 69) F (pc := 35) d_Mo_mixed_35 (by decide) ?_)
      exact g_iret T (pc := 69) d_Mo_mixed_69 rfl (Nat.le_refl _) (Nat.le_refl _) (poI h)
  · replace h := h.2 b1
    refine g_iload_n F (pc := 6) d_Mo_mixed_6 1 rfl (g_iload_n F (pc := 7) d_Mo_mixed_7 2 rfl (g_iand F (pc := 8) d_Mo_mixed_8 (g_iload_n F (pc := 9) d_Mo_mixed_9 1 rfl (g_iconst (v := (-1)) F (pc := 10) d_Mo_mixed_10 (by decide) (g_ixor F (pc := 11) d_Mo_mixed_11 ?_)))))
    refine g_iload_n F (pc := 12) d_Mo_mixed_12 3 rfl (g_iand F (pc := 13) d_Mo_mixed_13 (g_ior F (pc := 14) d_Mo_mixed_14 (g_ldc F (pc := 15) d_Mo_mixed_15 kc_Mo_75 (g_iadd F (pc := 17) d_Mo_mixed_17 (g_goto (tgt := 69) F (pc := 18) d_Mo_mixed_18 (by decide) ?_)))))
    exact g_iret T (pc := 69) d_Mo_mixed_69 rfl (Nat.le_refl _) (Nat.le_refl _) (poI h)
theorem d_Mo_block_0 : decode M_Mo_block.2.1 0 = .ok (.iconst 0, 1) := by decide +kernel
theorem d_Mo_block_1 : decode M_Mo_block.2.1 1 = .ok (.istore_n 2, 1) := by decide +kernel
theorem d_Mo_block_2 : decode M_Mo_block.2.1 2 = .ok (.iload_n 2, 1) := by decide +kernel
theorem d_Mo_block_3 : decode M_Mo_block.2.1 3 = .ok (.bipush 16, 2) := by decide +kernel
theorem d_Mo_block_5 : decode M_Mo_block.2.1 5 = .ok (.if_icmp .ge 73, 3) := by decide +kernel
theorem d_Mo_block_8 : decode M_Mo_block.2.1 8 = .ok (.aload_n 0, 1) := by decide +kernel
theorem d_Mo_block_9 : decode M_Mo_block.2.1 9 = .ok (.getfield 44, 3) := by decide +kernel
theorem d_Mo_block_12 : decode M_Mo_block.2.1 12 = .ok (.iload_n 2, 1) := by decide +kernel
theorem d_Mo_block_13 : decode M_Mo_block.2.1 13 = .ok (.aload_n 0, 1) := by decide +kernel
theorem d_Mo_block_14 : decode M_Mo_block.2.1 14 = .ok (.getfield 41, 3) := by decide +kernel
theorem d_Mo_block_17 : decode M_Mo_block.2.1 17 = .ok (.iload_n 1, 1) := by decide +kernel
theorem d_Mo_block_18 : decode M_Mo_block.2.1 18 = .ok (.iconst 4, 1) := by decide +kernel
theorem d_Mo_block_19 : decode M_Mo_block.2.1 19 = .ok (.iload_n 2, 1) := by decide +kernel
theorem d_Mo_block_20 : decode M_Mo_block.2.1 20 = .ok (.imul, 1) := by decide +kernel
theorem d_Mo_block_21 : decode M_Mo_block.2.1 21 = .ok (.iadd, 1) := by decide +kernel
theorem d_Mo_block_22 : decode M_Mo_block.2.1 22 = .ok (.iaload, 1) := by decide +kernel
theorem d_Mo_block_23 : decode M_Mo_block.2.1 23 = .ok (.bipush 24, 2) := by decide +kernel
theorem d_Mo_block_25 : decode M_Mo_block.2.1 25 = .ok (.ishl, 1) := by decide +kernel
theorem d_Mo_block_26 : decode M_Mo_block.2.1 26 = .ok (.aload_n 0, 1) := by decide +kernel
theorem d_Mo_block_27 : decode M_Mo_block.2.1 27 = .ok (.getfield 41, 3) := by decide +kernel
theorem d_Mo_block_30 : decode M_Mo_block.2.1 30 = .ok (.iload_n 1, 1) := by decide +kernel
theorem d_Mo_block_31 : decode M_Mo_block.2.1 31 = .ok (.iconst 4, 1) := by decide +kernel
theorem d_Mo_block_32 : decode M_Mo_block.2.1 32 = .ok (.iload_n 2, 1) := by decide +kernel
theorem d_Mo_block_33 : decode M_Mo_block.2.1 33 = .ok (.imul, 1) := by decide +kernel
theorem d_Mo_block_34 : decode M_Mo_block.2.1 34 = .ok (.iadd, 1) := by decide +kernel
theorem d_Mo_block_35 : decode M_Mo_block.2.1 35 = .ok (.iconst 1, 1) := by decide +kernel
theorem d_Mo_block_36 : decode M_Mo_block.2.1 36 = .ok (.iadd, 1) := by decide +kernel
theorem d_Mo_block_37 : decode M_Mo_block.2.1 37 = .ok (.iaload, 1) := by decide +kernel
theorem d_Mo_block_38 : decode M_Mo_block.2.1 38 = .ok (.bipush 16, 2) := by decide +kernel
theorem d_Mo_block_40 : decode M_Mo_block.2.1 40 = .ok (.ishl, 1) := by decide +kernel
theorem d_Mo_block_41 : decode M_Mo_block.2.1 41 = .ok (.ior, 1) := by decide +kernel
theorem d_Mo_block_42 : decode M_Mo_block.2.1 42 = .ok (.aload_n 0, 1) := by decide +kernel
theorem d_Mo_block_43 : decode M_Mo_block.2.1 43 = .ok (.getfield 41, 3) := by decide +kernel
theorem d_Mo_block_46 : decode M_Mo_block.2.1 46 = .ok (.iload_n 1, 1) := by decide +kernel
theorem d_Mo_block_47 : decode M_Mo_block.2.1 47 = .ok (.iconst 4, 1) := by decide +kernel
theorem d_Mo_block_48 : decode M_Mo_block.2.1 48 = .ok (.iload_n 2, 1) := by decide +kernel
theorem d_Mo_block_49 : decode M_Mo_block.2.1 49 = .ok (.imul, 1) := by decide +kernel
theorem d_Mo_block_50 : decode M_Mo_block.2.1 50 = .ok (.iadd, 1) := by decide +kernel
theorem d_Mo_block_51 : decode M_Mo_block.2.1 51 = .ok (.iconst 2, 1) := by decide +kernel
theorem d_Mo_block_52 : decode M_Mo_block.2.1 52 = .ok (.iadd, 1) := by decide +kernel
theorem d_Mo_block_53 : decode M_Mo_block.2.1 53 = .ok (.iaload, 1) := by decide +kernel
theorem d_Mo_block_54 : decode M_Mo_block.2.1 54 = .ok (.bipush 8, 2) := by decide +kernel
theorem d_Mo_block_56 : decode M_Mo_block.2.1 56 = .ok (.ishl, 1) := by decide +kernel
theorem d_Mo_block_57 : decode M_Mo_block.2.1 57 = .ok (.ior, 1) := by decide +kernel
theorem d_Mo_block_58 : decode M_Mo_block.2.1 58 = .ok (.aload_n 0, 1) := by decide +kernel
theorem d_Mo_block_59 : decode M_Mo_block.2.1 59 = .ok (.getfield 41, 3) := by decide +kernel
theorem d_Mo_block_62 : decode M_Mo_block.2.1 62 = .ok (.iload_n 1, 1) := by decide +kernel
theorem d_Mo_block_63 : decode M_Mo_block.2.1 63 = .ok (.iconst 4, 1) := by decide +kernel
theorem d_Mo_block_64 : decode M_Mo_block.2.1 64 = .ok (.iload_n 2, 1) := by decide +kernel
theorem d_Mo_block_65 : decode M_Mo_block.2.1 65 = .ok (.imul, 1) := by decide +kernel
theorem d_Mo_block_66 : decode M_Mo_block.2.1 66 = .ok (.iadd, 1) := by decide +kernel
theorem d_Mo_block_67 : decode M_Mo_block.2.1 67 = .ok (.iconst 3, 1) := by decide +kernel
theorem d_Mo_block_68 : decode M_Mo_block.2.1 68 = .ok (.iadd, 1) := by decide +kernel
theorem d_Mo_block_69 : decode M_Mo_block.2.1 69 = .ok (.iaload, 1) := by decide +kernel
theorem d_Mo_block_70 : decode M_Mo_block.2.1 70 = .ok (.ior, 1) := by decide +kernel
theorem d_Mo_block_71 : decode M_Mo_block.2.1 71 = .ok (.iastore, 1) := by decide +kernel
theorem d_Mo_block_72 : decode M_Mo_block.2.1 72 = .ok (.iinc 2 1, 3) := by decide +kernel
theorem d_Mo_block_75 : decode M_Mo_block.2.1 75 = .ok (.goto (-73), 3) := by decide +kernel
theorem d_Mo_block_78 : decode M_Mo_block.2.1 78 = .ok (.bipush 16, 2) := by decide +kernel
theorem d_Mo_block_80 : decode M_Mo_block.2.1 80 = .ok (.istore_n 2, 1) := by decide +kernel
theorem d_Mo_block_81 : decode M_Mo_block.2.1 81 = .ok (.iload_n 2, 1) := by decide +kernel
theorem d_Mo_block_82 : decode M_Mo_block.2.1 82 = .ok (.bipush 80, 2) := by decide +kernel
theorem d_Mo_block_84 : decode M_Mo_block.2.1 84 = .ok (.if_icmp .ge 57, 3) := by decide +kernel
theorem d_Mo_block_87 : decode M_Mo_block.2.1 87 = .ok (.aload_n 0, 1) := by decide +kernel
theorem d_Mo_block_88 : decode M_Mo_block.2.1 88 = .ok (.getfield 44, 3) := by decide +kernel
theorem d_Mo_block_91 : decode M_Mo_block.2.1 91 = .ok (.iload_n 2, 1) := by decide +kernel
theorem d_Mo_block_92 : decode M_Mo_block.2.1 92 = .ok (.aload_n 0, 1) := by decide +kernel
theorem d_Mo_block_93 : decode M_Mo_block.2.1 93 = .ok (.getfield 44, 3) := by decide +kernel
theorem d_Mo_block_96 : decode M_Mo_block.2.1 96 = .ok (.iload_n 2, 1) := by decide +kernel
theorem d_Mo_block_97 : decode M_Mo_block.2.1 97 = .ok (.iconst 3, 1) := by decide +kernel
theorem d_Mo_block_98 : decode M_Mo_block.2.1 98 = .ok (.isub, 1) := by decide +kernel
theorem d_Mo_block_99 : decode M_Mo_block.2.1 99 = .ok (.iaload, 1) := by decide +kernel
theorem d_Mo_block_100 : decode M_Mo_block.2.1 100 = .ok (.aload_n 0, 1) := by decide +kernel
theorem d_Mo_block_101 : decode M_Mo_block.2.1 101 = .ok (.getfield 44, 3) := by decide +kernel
theorem d_Mo_block_104 : decode M_Mo_block.2.1 104 = .ok (.iload_n 2, 1) := by decide +kernel
theorem d_Mo_block_105 : decode M_Mo_block.2.1 105 = .ok (.bipush 8, 2) := by decide +kernel
theorem d_Mo_block_107 : decode M_Mo_block.2.1 107 = .ok (.isub, 1) := by decide +kernel
theorem d_Mo_block_108 : decode M_Mo_block.2.1 108 = .ok (.iaload, 1) := by decide +kernel
theorem d_Mo_block_109 : decode M_Mo_block.2.1 109 = .ok (.ixor, 1) := by decide +kernel
theorem d_Mo_block_110 : decode M_Mo_block.2.1 110 = .ok (.aload_n 0, 1) := by decide +kernel
theorem d_Mo_block_111 : decode M_Mo_block.2.1 111 = .ok (.getfield 44, 3) := by decide +kernel
theorem d_Mo_block_114 : decode M_Mo_block.2.1 114 = .ok (.iload_n 2, 1) := by decide +kernel
theorem d_Mo_block_115 : decode M_Mo_block.2.1 115 = .ok (.bipush 14, 2) := by decide +kernel
theorem d_Mo_block_117 : decode M_Mo_block.2.1 117 = .ok (.isub, 1) := by decide +kernel
theorem d_Mo_block_118 : decode M_Mo_block.2.1 118 = .ok (.iaload, 1) := by decide +kernel
theorem d_Mo_block_119 : decode M_Mo_block.2.1 119 = .ok (.ixor, 1) := by decide +kernel
theorem d_Mo_block_120 : decode M_Mo_block.2.1 120 = .ok (.aload_n 0, 1) := by decide +kernel
theorem d_Mo_block_121 : decode M_Mo_block.2.1 121 = .ok (.getfield 44, 3) := by decide +kernel
theorem d_Mo_block_124 : decode M_Mo_block.2.1 124 = .ok (.iload_n 2, 1) := by decide +kernel
theorem d_Mo_block_125 : decode M_Mo_block.2.1 125 = .ok (.bipush 16, 2) := by decide +kernel
theorem d_Mo_block_127 : decode M_Mo_block.2.1 127 = .ok (.isub, 1) := by decide +kernel
theorem d_Mo_block_128 : decode M_Mo_block.2.1 128 = .ok (.iaload, 1) := by decide +kernel
theorem d_Mo_block_129 : decode M_Mo_block.2.1 129 = .ok (.ixor, 1) := by decide +kernel
theorem d_Mo_block_130 : decode M_Mo_block.2.1 130 = .ok (.iconst 1, 1) := by decide +kernel
theorem d_Mo_block_131 : decode M_Mo_block.2.1 131 = .ok (.invokestatic 79, 3) := by decide +kernel
theorem d_Mo_block_134 : decode M_Mo_block.2.1 134 = .ok (.iastore, 1) := by decide +kernel
theorem d_Mo_block_135 : decode M_Mo_block.2.1 135 = .ok (.iinc 2 1, 3) := by decide +kernel
theorem d_Mo_block_138 : decode M_Mo_block.2.1 138 = .ok (.goto (-57), 3) := by decide +kernel
theorem d_Mo_block_141 : decode M_Mo_block.2.1 141 = .ok (.aload_n 0, 1) := by decide +kernel
theorem d_Mo_block_142 : decode M_Mo_block.2.1 142 = .ok (.getfield 47, 3) := by decide +kernel
theorem d_Mo_block_145 : decode M_Mo_block.2.1 145 = .ok (.iconst 0, 1) := by decide +kernel
theorem d_Mo_block_146 : decode M_Mo_block.2.1 146 = .ok (.iaload, 1) := by decide +kernel
theorem d_Mo_block_147 : decode M_Mo_block.2.1 147 = .ok (.istore_n 2, 1) := by decide +kernel
theorem d_Mo_block_148 : decode M_Mo_block.2.1 148 = .ok (.aload_n 0, 1) := by decide +kernel
theorem d_Mo_block_149 : decode M_Mo_block.2.1 149 = .ok (.getfield 47, 3) := by decide +kernel
theorem d_Mo_block_152 : decode M_Mo_block.2.1 152 = .ok (.iconst 1, 1) := by decide +kernel
theorem d_Mo_block_153 : decode M_Mo_block.2.1 153 = .ok (.iaload, 1) := by decide +kernel
theorem d_Mo_block_154 : decode M_Mo_block.2.1 154 = .ok (.istore_n 3, 1) := by decide +kernel
theorem d_Mo_block_155 : decode M_Mo_block.2.1 155 = .ok (.aload_n 0, 1) := by decide +kernel
theorem d_Mo_block_156 : decode M_Mo_block.2.1 156 = .ok (.getfield 47, 3) := by decide +kernel
theorem d_Mo_block_159 : decode M_Mo_block.2.1 159 = .ok (.iconst 2, 1) := by decide +kernel
theorem d_Mo_block_160 : decode M_Mo_block.2.1 160 = .ok (.iaload, 1) := by decide +kernel
theorem d_Mo_block_161 : decode M_Mo_block.2.1 161 = .ok (.istore 4, 2) := by decide +kernel
theorem d_Mo_block_163 : decode M_Mo_block.2.1 163 = .ok (.aload_n 0, 1) := by decide +kernel
theorem d_Mo_block_164 : decode M_Mo_block.2.1 164 = .ok (.getfield 47, 3) := by decide +kernel
theorem d_Mo_block_167 : decode M_Mo_block.2.1 167 = .ok (.iconst 3, 1) := by decide +kernel
theorem d_Mo_block_168 : decode M_Mo_block.2.1 168 = .ok (.iaload, 1) := by decide +kernel
theorem d_Mo_block_169 : decode M_Mo_block.2.1 169 = .ok (.istore 5, 2) := by decide +kernel
theorem d_Mo_block_171 : decode M_Mo_block.2.1 171 = .ok (.aload_n 0, 1) := by decide +kernel
theorem d_Mo_block_172 : decode M_Mo_block.2.1 172 = .ok (.getfield 47, 3) := by decide +kernel
theorem d_Mo_block_175 : decode M_Mo_block.2.1 175 = .ok (.iconst 4, 1) := by decide +kernel
theorem d_Mo_block_176 : decode M_Mo_block.2.1 176 = .ok (.iaload, 1) := by decide +kernel
theorem d_Mo_block_177 : decode M_Mo_block.2.1 177 = .ok (.istore 6, 2) := by decide +kernel
theorem d_Mo_block_179 : decode M_Mo_block.2.1 179 = .ok (.iconst 0, 1) := by decide +kernel
theorem d_Mo_block_180 : decode M_Mo_block.2.1 180 = .ok (.istore 7, 2) := by decide +kernel
theorem d_Mo_block_182 : decode M_Mo_block.2.1 182 = .ok (.iload 7, 2) := by decide +kernel
theorem d_Mo_block_184 : decode M_Mo_block.2.1 184 = .ok (.bipush 80, 2) := by decide +kernel
theorem d_Mo_block_186 : decode M_Mo_block.2.1 186 = .ok (.if_icmp .ge 59, 3) := by decide +kernel
theorem d_Mo_block_189 : decode M_Mo_block.2.1 189 = .ok (.iload_n 2, 1) := by decide +kernel
theorem d_Mo_block_190 : decode M_Mo_block.2.1 190 = .ok (.iconst 5, 1) := by decide +kernel
theorem d_Mo_block_191 : decode M_Mo_block.2.1 191 = .ok (.invokestatic 79, 3) := by decide +kernel
theorem d_Mo_block_194 : decode M_Mo_block.2.1 194 = .ok (.iload 7, 2) := by decide +kernel
theorem d_Mo_block_196 : decode M_Mo_block.2.1 196 = .ok (.iload_n 3, 1) := by decide +kernel
theorem d_Mo_block_197 : decode M_Mo_block.2.1 197 = .ok (.iload 4, 2) := by decide +kernel
theorem d_Mo_block_199 : decode M_Mo_block.2.1 199 = .ok (.iload 5, 2) := by decide +kernel
theorem d_Mo_block_201 : decode M_Mo_block.2.1 201 = .ok (.invokestatic 83, 3) := by decide +kernel
theorem d_Mo_block_204 : decode M_Mo_block.2.1 204 = .ok (.iadd, 1) := by decide +kernel
theorem d_Mo_block_205 : decode M_Mo_block.2.1 205 = .ok (.iload 6, 2) := by decide +kernel
theorem d_Mo_block_207 : decode M_Mo_block.2.1 207 = .ok (.iadd, 1) := by decide +kernel
theorem d_Mo_block_208 : decode M_Mo_block.2.1 208 = .ok (.aload_n 0, 1) := by decide +kernel
theorem d_Mo_block_209 : decode M_Mo_block.2.1 209 = .ok (.getfield 44, 3) := by decide +kernel
theorem d_Mo_block_212 : decode M_Mo_block.2.1 212 = .ok (.iload 7, 2) := by decide +kernel
theorem d_Mo_block_214 : decode M_Mo_block.2.1 214 = .ok (.iaload, 1) := by decide +kernel
theorem d_Mo_block_215 : decode M_Mo_block.2.1 215 = .ok (.iadd, 1) := by decide +kernel
theorem d_Mo_block_216 : decode M_Mo_block.2.1 216 = .ok (.istore 8, 2) := by decide +kernel
theorem d_Mo_block_218 : decode M_Mo_block.2.1 218 = .ok (.iload 5, 2) := by decide +kernel
theorem d_Mo_block_220 : decode M_Mo_block.2.1 220 = .ok (.istore 6, 2) := by decide +kernel
theorem d_Mo_block_222 : decode M_Mo_block.2.1 222 = .ok (.iload 4, 2) := by decide +kernel
theorem d_Mo_block_224 : decode M_Mo_block.2.1 224 = .ok (.istore 5, 2) := by decide +kernel
theorem d_Mo_block_226 : decode M_Mo_block.2.1 226 = .ok (.iload_n 3, 1) := by decide +kernel
theorem d_Mo_block_227 : decode M_Mo_block.2.1 227 = .ok (.bipush 30, 2) := by decide +kernel
theorem d_Mo_block_229 : decode M_Mo_block.2.1 229 = .ok (.invokestatic 79, 3) := by decide +kernel
theorem d_Mo_block_232 : decode M_Mo_block.2.1 232 = .ok (.istore 4, 2) := by decide +kernel
theorem d_Mo_block_234 : decode M_Mo_block.2.1 234 = .ok (.iload_n 2, 1) := by decide +kernel
theorem d_Mo_block_235 : decode M_Mo_block.2.1 235 = .ok (.istore_n 3, 1) := by decide +kernel
theorem d_Mo_block_236 : decode M_Mo_block.2.1 236 = .ok (.iload 8, 2) := by decide +kernel
theorem d_Mo_block_238 : decode M_Mo_block.2.1 238 = .ok (.istore_n 2, 1) := by decide +kernel
theorem d_Mo_block_239 : decode M_Mo_block.2.1 239 = .ok (.iinc 7 1, 3) := by decide +kernel
theorem d_Mo_block_242 : decode M_Mo_block.2.1 242 = .ok (.goto (-60), 3) := by decide +kernel
theorem d_Mo_block_245 : decode M_Mo_block.2.1 245 = .ok (.aload_n 0, 1) := by decide +kernel
theorem d_Mo_block_246 : decode M_Mo_block.2.1 246 = .ok (.getfield 47, 3) := by decide +kernel
theorem d_Mo_block_249 : decode M_Mo_block.2.1 249 = .ok (.iconst 0, 1) := by decide +kernel
theorem d_Mo_block_250 : decode M_Mo_block.2.1 250 = .ok (.dup2, 1) := by decide +kernel
theorem d_Mo_block_251 : decode M_Mo_block.2.1 251 = .ok (.iaload, 1) := by decide +kernel
theorem d_Mo_block_252 : decode M_Mo_block.2.1 252 = .ok (.iload_n 2, 1) := by decide +kernel
theorem d_Mo_block_253 : decode M_Mo_block.2.1 253 = .ok (.iadd, 1) := by decide +kernel
theorem d_Mo_block_254 : decode M_Mo_block.2.1 254 = .ok (.iastore, 1) := by decide +kernel
theorem d_Mo_block_255 : decode M_Mo_block.2.1 255 = .ok (.aload_n 0, 1) := by decide +kernel
theorem d_Mo_block_256 : decode M_Mo_block.2.1 256 = .ok (.getfield 47, 3) := by decide +kernel
theorem d_Mo_block_259 : decode M_Mo_block.2.1 259 = .ok (.iconst 1, 1) := by decide +kernel
theorem d_Mo_block_260 : decode M_Mo_block.2.1 260 = .ok (.dup2, 1) := by decide +kernel
theorem d_Mo_block_261 : decode M_Mo_block.2.1 261 = .ok (.iaload, 1) := by decide +kernel
theorem d_Mo_block_262 : decode M_Mo_block.2.1 262 = .ok (.iload_n 3, 1) := by decide +kernel
theorem d_Mo_block_263 : decode M_Mo_block.2.1 263 = .ok (.iadd, 1) := by decide +kernel
theorem d_Mo_block_264 : decode M_Mo_block.2.1 264 = .ok (.iastore, 1) := by decide +kernel
theorem d_Mo_block_265 : decode M_Mo_block.2.1 265 = .ok (.aload_n 0, 1) := by decide +kernel
theorem d_Mo_block_266 : decode M_Mo_block.2.1 266 = .ok (.getfield 47, 3) := by decide +kernel
theorem d_Mo_block_269 : decode M_Mo_block.2.1 269 = .ok (.iconst 2, 1) := by decide +kernel
theorem d_Mo_block_270 : decode M_Mo_block.2.1 270 = .ok (.dup2, 1) := by decide +kernel
theorem d_Mo_block_271 : decode M_Mo_block.2.1 271 = .ok (.iaload, 1) := by decide +kernel
theorem d_Mo_block_272 : decode M_Mo_block.2.1 272 = .ok (.iload 4, 2) := by decide +kernel
theorem d_Mo_block_274 : decode M_Mo_block.2.1 274 = .ok (.iadd, 1) := by decide +kernel
theorem d_Mo_block_275 : decode M_Mo_block.2.1 275 = .ok (.iastore, 1) := by decide +kernel
theorem d_Mo_block_276 : decode M_Mo_block.2.1 276 = .ok (.aload_n 0, 1) := by decide +kernel
theorem d_Mo_block_277 : decode M_Mo_block.2.1 277 = .ok (.getfield 47, 3) := by decide +kernel
theorem d_Mo_block_280 : decode M_Mo_block.2.1 280 = .ok (.iconst 3, 1) := by decide +kernel
theorem d_Mo_block_281 : decode M_Mo_block.2.1 281 = .ok (.dup2, 1) := by decide +kernel
theorem d_Mo_block_282 : decode M_Mo_block.2.1 282 = .ok (.iaload, 1) := by decide +kernel
theorem d_Mo_block_283 : decode M_Mo_block.2.1 283 = .ok (.iload 5, 2) := by decide +kernel
theorem d_Mo_block_285 : decode M_Mo_block.2.1 285 = .ok (.iadd, 1) := by decide +kernel
theorem d_Mo_block_286 : decode M_Mo_block.2.1 286 = .ok (.iastore, 1) := by decide +kernel
theorem d_Mo_block_287 : decode M_Mo_block.2.1 287 = .ok (.aload_n 0, 1) := by decide +kernel
theorem d_Mo_block_288 : decode M_Mo_block.2.1 288 = .ok (.getfield 47, 3) := by decide +kernel
theorem d_Mo_block_291 : decode M_Mo_block.2.1 291 = .ok (.iconst 4, 1) := by decide +kernel
theorem d_Mo_block_292 : decode M_Mo_block.2.1 292 = .ok (.dup2, 1) := by decide +kernel
theorem d_Mo_block_293 : decode M_Mo_block.2.1 293 = .ok (.iaload, 1) := by decide +kernel
theorem d_Mo_block_294 : decode M_Mo_block.2.1 294 = .ok (.iload 6, 2) := by decide +kernel
theorem d_Mo_block_296 : decode M_Mo_block.2.1 296 = .ok (.iadd, 1) := by decide +kernel
theorem d_Mo_block_297 : decode M_Mo_block.2.1 297 = .ok (.iastore, 1) := by decide +kernel
theorem d_Mo_block_298 : decode M_Mo_block.2.1 298 = .ok (.return_, 1) := by decide +kernel
def f_Mo_block (x0 : Nat) (x1 : Int32) (c : cM) (K : cM → Prop) : Prop :=
  ∃ I1 : Nat → Int32 → cM → Prop, (∃ n, I1 n 0 c) ∧ ∀ (n2 : Nat) (y5 : Int32) (c6 : cM), I1 n2 y5 c6 → (((16 ≤ y5) → (∃ I8 : Nat → Int32 → cM → Prop, (∃ n, I8 n 16 c6) ∧ ∀ (n9 : Nat) (y12 : Int32) (c13 : cM), I8 n9 y12 c13 → (((80 ≤ y12) → (kd x0 = 7 ∧ (kd (rf x0 16) = 100 ∧ (vp_in 0 (ln (rf x0 16)) ∧ (vp_in 1 (ln (rf x0 16)) ∧ (vp_in 2 (ln (rf x0 16)) ∧ (vp_in 3 (ln (rf x0 16)) ∧ (vp_in 4 (ln (rf x0 16)) ∧ (∃ I22 : Nat → Int32 → Int32 → Int32 → Int32 → Int32 → Int32 → cM → Prop, (∃ n, I22 n (c13 (rf x0 16) (Int32.toNatClampNeg 0)) (c13 (rf x0 16) (Int32.toNatClampNeg 1)) (c13 (rf x0 16) (Int32.toNatClampNeg 2)) (c13 (rf x0 16) (Int32.toNatClampNeg 3)) (c13 (rf x0 16) (Int32.toNatClampNeg 4)) 0 c13) ∧ ∀ (n23 : Nat) (y26 : Int32) (y27 : Int32) (y28 : Int32) (y29 : Int32) (y30 : Int32) (y31 : Int32) (c32 : cM), I22 n23 y26 y27 y28 y29 y30 y31 c32 → (((80 ≤ y31) → (∀ c34 : cM, c34 = c_up c32 (rf x0 16) (Int32.toNatClampNeg 0) ((c32 (rf x0 16) (Int32.toNatClampNeg 0)) + y26) → (∀ c35 : cM, c35 = c_up c34 (rf x0 16) (Int32.toNatClampNeg 1) ((c34 (rf x0 16) (Int32.toNatClampNeg 1)) + y27) → (∀ c36 : cM, c36 = c_up c35 (rf x0 16) (Int32.toNatClampNeg 2) ((c35 (rf x0 16) (Int32.toNatClampNeg 2)) + y28) → (∀ c37 : cM, c37 = c_up c36 (rf x0 16) (Int32.toNatClampNeg 3) ((c36 (rf x0 16) (Int32.toNatClampNeg 3)) + y29) → (∀ c38 : cM, c38 = c_up c37 (rf x0 16) (Int32.toNatClampNeg 4) ((c37 (rf x0 16) (Int32.toNatClampNeg 4)) + y30) → (K c38))))))) ∧ (¬ (80 ≤ y31) → (f_Mo_turned y26 5 c32 (fun v40 c39 => f_Mo_mixed y31 y27 y28 y29 c39 (fun v42 c41 => kd (rf x0 15) = 100 ∧ (vp_in y31 (ln (rf x0 15)) ∧ (f_Mo_turned y27 30 c41 (fun v46 c45 => ∃ m, m < n23 ∧ I22 m (((v40 + v42) + y30) + (c41 (rf x0 15) (Int32.toNatClampNeg y31))) y26 v46 y28 y29 (y31 + 1) c45))))))))))))))))) ∧ (¬ (80 ≤ y12) → (kd x0 = 7 ∧ (kd (rf x0 15) = 100 ∧ (vp_in (y12 - 3) (ln (rf x0 15)) ∧ (vp_in (y12 - 8) (ln (rf x0 15)) ∧ (vp_in (y12 - 14) (ln (rf x0 15)) ∧ (vp_in (y12 - 16) (ln (rf x0 15)) ∧ (f_Mo_turned ((((c13 (rf x0 15) (Int32.toNatClampNeg (y12 - 3))) ^^^ (c13 (rf x0 15) (Int32.toNatClampNeg (y12 - 8)))) ^^^ (c13 (rf x0 15) (Int32.toNatClampNeg (y12 - 14)))) ^^^ (c13 (rf x0 15) (Int32.toNatClampNeg (y12 - 16)))) 1 c13 (fun v54 c53 => vp_in y12 (ln (rf x0 15)) ∧ (∀ c56 : cM, c56 = c_up c53 (rf x0 15) (Int32.toNatClampNeg y12) v54 → (∃ m, m < n9 ∧ I8 m (y12 + 1) c56)))))))))))))) ∧ (¬ (16 ≤ y5) → (kd x0 = 7 ∧ (kd (rf x0 14) = 100 ∧ (vp_in (x1 + (4 * y5)) (ln (rf x0 14)) ∧ (vp_in ((x1 + (4 * y5)) + 1) (ln (rf x0 14)) ∧ (vp_in ((x1 + (4 * y5)) + 2) (ln (rf x0 14)) ∧ (vp_in ((x1 + (4 * y5)) + 3) (ln (rf x0 14)) ∧ (kd (rf x0 15) = 100 ∧ (vp_in y5 (ln (rf x0 15)) ∧ (∀ c65 : cM, c65 = c_up c6 (rf x0 15) (Int32.toNatClampNeg y5) ((((c_shl (c6 (rf x0 14) (Int32.toNatClampNeg (x1 + (4 * y5)))) 24) ||| (c_shl (c6 (rf x0 14) (Int32.toNatClampNeg ((x1 + (4 * y5)) + 1))) 16)) ||| (c_shl (c6 (rf x0 14) (Int32.toNatClampNeg ((x1 + (4 * y5)) + 2))) 8)) ||| (c6 (rf x0 14) (Int32.toNatClampNeg ((x1 + (4 * y5)) + 3)))) → (∃ m, m < n2 ∧ I1 m (y5 + 1) c65))))))))))))
theorem c_Mo_block {x0 : Nat} {x1 : Int32} {c : cM} {K : cM → Prop} (h : f_Mo_block x0 x1 c K) : Ct M_Mo_block 1 0 0 (wd c) [.ref x0, .int x1] (PoV K) := by
  refine Ct.of (by decide +kernel) (Nat.le_of_ble_eq_true rfl) (fun Z T => ?_)
  have F := T.F
  unfold f_Mo_block at h
  show Z (wd c) 0 [(0, .ref x0), (1, .int x1)] [] 0 0
  refine g_iconst (v := 0) F (pc := 0) d_Mo_block_0 (by decide) (g_istore_n (lv' := [(2, .int 0), (0, .ref x0), (1, .int x1)]) F (pc := 1) d_Mo_block_1 (by decide) rfl ?_)
  refine g_lv (lv' := [(0, .ref x0), (1, .int x1), (2, .int 0)]) F [1, 2, 0] rfl ?_
  obtain ⟨I1, ⟨n0, h⟩, hI1⟩ := h
  have lp4 : ∀ (n2 : Nat) (y5 : Int32) (c6 : cM), I1 n2 y5 c6 → Z (wd c6) 2 [(0, .ref x0), (1, .int x1), (2, .int y5)] [] 0 0 := by
    intro n2
    induction n2 using Nat.strongRecOn with
    | _ n2 ih3 =>
      intro y5 c6 h
      replace h := hI1 n2 y5 c6 h
      refine g_iload_n F (pc := 2) d_Mo_block_2 2 rfl (g_bipush (v := 16) F (pc := 3) d_Mo_block_3 (by decide) ?_)
      refine g_icmp_ge (tgt := 78) F (pc := 5) d_Mo_block_5 (by decide) (fun b7 => ?_) (fun b7 => ?_)
      · replace h := h.1 b7
        refine g_bipush (v := 16) F (pc := 78) d_Mo_block_78 (by decide) (g_istore_n (lv' := [(2, .int 16), (0, .ref x0), (1, .int x1)]) F (pc := 80) d_Mo_block_80 (by decide) rfl ?_)
        refine g_lv (lv' := [(0, .ref x0), (2, .int 16)]) F [1, 0] rfl ?_
        obtain ⟨I8, ⟨n0, h⟩, hI8⟩ := h
        have lp11 : ∀ (n9 : Nat) (y12 : Int32) (c13 : cM), I8 n9 y12 c13 → Z (wd c13) 81 [(0, .ref x0), (2, .int y12)] [] 0 0 := by
          intro n9
          induction n9 using Nat.strongRecOn with
          | _ n9 ih10 =>
            intro y12 c13 h
            replace h := hI8 n9 y12 c13 h
            refine g_iload_n F (pc := 81) d_Mo_block_81 1 rfl (g_bipush (v := 80) F (pc := 82) d_Mo_block_82 (by decide) ?_)
            refine g_icmp_ge (tgt := 141) F (pc := 84) d_Mo_block_84 (by decide) (fun b14 => ?_) (fun b14 => ?_)
            · replace h := h.1 b14
              refine g_aload_n F (pc := 141) d_Mo_block_141 0 rfl ?_
              obtain ⟨o15, h⟩ := h
              refine gc_getR F (pc := 142) d_Mo_block_142 fi_Mo_47 o15 (g_iconst (v := 0) F (pc := 145) d_Mo_block_145 (by decide) ?_)
              obtain ⟨o16, h⟩ := h
              obtain ⟨o17, h⟩ := h
              refine gc_iald F (pc := 146) d_Mo_block_146 o16 o17 (g_istore_n (lv' := [(2, .int (c13 (rf x0 16) (Int32.toNatClampNeg 0))), (0, .ref x0)]) F (pc := 147) d_Mo_block_147 (by decide) rfl (g_aload_n F (pc := 148) d_Mo_block_148 1 rfl (gc_getR F (pc := 149) d_Mo_block_149 fi_Mo_47 o15 (g_iconst (v := 1) F (pc := 152) d_Mo_block_152 (by decide) ?_))))
              obtain ⟨o18, h⟩ := h
              refine gc_iald F (pc := 153) d_Mo_block_153 o16 o18 (g_istore_n (lv' := [(3, .int (c13 (rf x0 16) (Int32.toNatClampNeg 1))), (2, .int (c13 (rf x0 16) (Int32.toNatClampNeg 0))), (0, .ref x0)]) F (pc := 154) d_Mo_block_154 (by decide) rfl (g_aload_n F (pc := 155) d_Mo_block_155 2 rfl (gc_getR F (pc := 156) d_Mo_block_156 fi_Mo_47 o15 (g_iconst (v := 2) F (pc := 159) d_Mo_block_159 (by decide) ?_))))
              obtain ⟨o19, h⟩ := h
              refine gc_iald F (pc := 160) d_Mo_block_160 o16 o19 (g_istore (lv' := [(4, .int (c13 (rf x0 16) (Int32.toNatClampNeg 2))), (3, .int (c13 (rf x0 16) (Int32.toNatClampNeg 1))), (2, .int (c13 (rf x0 16) (Int32.toNatClampNeg 0))), (0, .ref x0)]) F (pc := 161) d_Mo_block_161 (by decide) rfl (g_aload_n F (pc := 163) d_Mo_block_163 3 rfl (gc_getR F (pc := 164) d_Mo_block_164 fi_Mo_47 o15 (g_iconst (v := 3) F (pc := 167) d_Mo_block_167 (by decide) ?_))))
              obtain ⟨o20, h⟩ := h
              refine gc_iald F (pc := 168) d_Mo_block_168 o16 o20 (g_istore (lv' := [(5, .int (c13 (rf x0 16) (Int32.toNatClampNeg 3))), (4, .int (c13 (rf x0 16) (Int32.toNatClampNeg 2))), (3, .int (c13 (rf x0 16) (Int32.toNatClampNeg 1))), (2, .int (c13 (rf x0 16) (Int32.toNatClampNeg 0))), (0, .ref x0)]) F (pc := 169) d_Mo_block_169 (by decide) rfl (g_aload_n F (pc := 171) d_Mo_block_171 4 rfl (gc_getR F (pc := 172) d_Mo_block_172 fi_Mo_47 o15 (g_iconst (v := 4) F (pc := 175) d_Mo_block_175 (by decide) ?_))))
              obtain ⟨o21, h⟩ := h
              refine gc_iald F (pc := 176) d_Mo_block_176 o16 o21 (g_istore (lv' := [(6, .int (c13 (rf x0 16) (Int32.toNatClampNeg 4))), (5, .int (c13 (rf x0 16) (Int32.toNatClampNeg 3))), (4, .int (c13 (rf x0 16) (Int32.toNatClampNeg 2))), (3, .int (c13 (rf x0 16) (Int32.toNatClampNeg 1))), (2, .int (c13 (rf x0 16) (Int32.toNatClampNeg 0))), (0, .ref x0)]) F (pc := 177) d_Mo_block_177 (by decide) rfl (g_iconst (v := 0) F (pc := 179) d_Mo_block_179 (by decide) (g_istore (lv' := [(7, .int 0), (6, .int (c13 (rf x0 16) (Int32.toNatClampNeg 4))), (5, .int (c13 (rf x0 16) (Int32.toNatClampNeg 3))), (4, .int (c13 (rf x0 16) (Int32.toNatClampNeg 2))), (3, .int (c13 (rf x0 16) (Int32.toNatClampNeg 1))), (2, .int (c13 (rf x0 16) (Int32.toNatClampNeg 0))), (0, .ref x0)]) F (pc := 180) d_Mo_block_180 (by decide) rfl ?_)))
              refine g_lv (lv' := [(0, .ref x0), (2, .int (c13 (rf x0 16) (Int32.toNatClampNeg 0))), (3, .int (c13 (rf x0 16) (Int32.toNatClampNeg 1))), (4, .int (c13 (rf x0 16) (Int32.toNatClampNeg 2))), (5, .int (c13 (rf x0 16) (Int32.toNatClampNeg 3))), (6, .int (c13 (rf x0 16) (Int32.toNatClampNeg 4))), (7, .int 0)]) F [6, 5, 4, 3, 2, 1, 0] rfl ?_
              obtain ⟨I22, ⟨n0, h⟩, hI22⟩ := h
              have lp25 : ∀ (n23 : Nat) (y26 : Int32) (y27 : Int32) (y28 : Int32) (y29 : Int32) (y30 : Int32) (y31 : Int32) (c32 : cM), I22 n23 y26 y27 y28 y29 y30 y31 c32 → Z (wd c32) 182 [(0, .ref x0), (2, .int y26), (3, .int y27), (4, .int y28), (5, .int y29), (6, .int y30), (7, .int y31)] [] 0 0 := by
                intro n23
                induction n23 using Nat.strongRecOn with
                | _ n23 ih24 =>
                  intro y26 y27 y28 y29 y30 y31 c32 h
                  replace h := hI22 n23 y26 y27 y28 y29 y30 y31 c32 h
                  refine g_iload F (pc := 182) d_Mo_block_182 6 rfl (g_bipush (v := 80) F (pc := 184) d_Mo_block_184 (by decide) ?_)
                  refine g_icmp_ge (tgt := 245) F (pc := 186) d_Mo_block_186 (by decide) (fun b33 => ?_) (fun b33 => ?_)
                  · replace h := h.1 b33
                    refine g_aload_n F (pc := 245) d_Mo_block_245 0 rfl (gc_getR F (pc := 246) d_Mo_block_246 fi_Mo_47 o15 (g_iconst (v := 0) F (pc := 249) d_Mo_block_249 (by decide) (g_dup2 F (pc := 250) d_Mo_block_250 rfl rfl (gc_iald F (pc := 251) d_Mo_block_251 o16 o17 (g_iload_n F (pc := 252) d_Mo_block_252 1 rfl ?_)))))
                    refine g_iadd F (pc := 253) d_Mo_block_253 (gc_iast F (pc := 254) d_Mo_block_254 o16 o17 ?_)
                    obtain ⟨c34, ec34⟩ : ∃ c34 : cM, c34 = c_up c32 (rf x0 16) (Int32.toNatClampNeg 0) ((c32 (rf x0 16) (Int32.toNatClampNeg 0)) + y26) := ⟨_, rfl⟩
                    rw [← ec34]
                    replace h := h c34 ec34
                    refine g_aload_n F (pc := 255) d_Mo_block_255 0 rfl (gc_getR F (pc := 256) d_Mo_block_256 fi_Mo_47 o15 (g_iconst (v := 1) F (pc := 259) d_Mo_block_259 (by decide) (g_dup2 F (pc := 260) d_Mo_block_260 rfl rfl (gc_iald F (pc := 261) d_Mo_block_261 o16 o18 (g_iload_n F (pc := 262) d_Mo_block_262 2 rfl ?_)))))
                    refine g_iadd F (pc := 263) d_Mo_block_263 (gc_iast F (pc := 264) d_Mo_block_264 o16 o18 ?_)
                    obtain ⟨c35, ec35⟩ : ∃ c35 : cM, c35 = c_up c34 (rf x0 16) (Int32.toNatClampNeg 1) ((c34 (rf x0 16) (Int32.toNatClampNeg 1)) + y27) := ⟨_, rfl⟩
                    rw [← ec35]
                    replace h := h c35 ec35
                    refine g_aload_n F (pc := 265) d_Mo_block_265 0 rfl (gc_getR F (pc := 266) d_Mo_block_266 fi_Mo_47 o15 (g_iconst (v := 2) F (pc := 269) d_Mo_block_269 (by decide) (g_dup2 F (pc := 270) d_Mo_block_270 rfl rfl (gc_iald F (pc := 271) d_Mo_block_271 o16 o19 (g_iload F (pc := 272) d_Mo_block_272 3 rfl ?_)))))
                    refine g_iadd F (pc := 274) d_Mo_block_274 (gc_iast F (pc := 275) d_Mo_block_275 o16 o19 ?_)
                    obtain ⟨c36, ec36⟩ : ∃ c36 : cM, c36 = c_up c35 (rf x0 16) (Int32.toNatClampNeg 2) ((c35 (rf x0 16) (Int32.toNatClampNeg 2)) + y28) := ⟨_, rfl⟩
                    rw [← ec36]
                    replace h := h c36 ec36
                    refine g_aload_n F (pc := 276) d_Mo_block_276 0 rfl (gc_getR F (pc := 277) d_Mo_block_277 fi_Mo_47 o15 (g_iconst (v := 3) F (pc := 280) d_Mo_block_280 (by decide) (g_dup2 F (pc := 281) d_Mo_block_281 rfl rfl (gc_iald F (pc := 282) d_Mo_block_282 o16 o20 (g_iload F (pc := 283) d_Mo_block_283 4 rfl ?_)))))
                    refine g_iadd F (pc := 285) d_Mo_block_285 (gc_iast F (pc := 286) d_Mo_block_286 o16 o20 ?_)
                    obtain ⟨c37, ec37⟩ : ∃ c37 : cM, c37 = c_up c36 (rf x0 16) (Int32.toNatClampNeg 3) ((c36 (rf x0 16) (Int32.toNatClampNeg 3)) + y29) := ⟨_, rfl⟩
                    rw [← ec37]
                    replace h := h c37 ec37
                    refine g_aload_n F (pc := 287) d_Mo_block_287 0 rfl (gc_getR F (pc := 288) d_Mo_block_288 fi_Mo_47 o15 (g_iconst (v := 4) F (pc := 291) d_Mo_block_291 (by decide) (g_dup2 F (pc := 292) d_Mo_block_292 rfl rfl (gc_iald F (pc := 293) d_Mo_block_293 o16 o21 (g_iload F (pc := 294) d_Mo_block_294 5 rfl ?_)))))
                    refine g_iadd F (pc := 296) d_Mo_block_296 (gc_iast F (pc := 297) d_Mo_block_297 o16 o21 ?_)
                    obtain ⟨c38, ec38⟩ : ∃ c38 : cM, c38 = c_up c37 (rf x0 16) (Int32.toNatClampNeg 4) ((c37 (rf x0 16) (Int32.toNatClampNeg 4)) + y30) := ⟨_, rfl⟩
                    rw [← ec38]
                    replace h := h c38 ec38
                    exact g_vret T (pc := 298) d_Mo_block_298 rfl (Nat.le_refl _) (Nat.le_refl _) (poV h)
                  · replace h := h.2 b33
                    refine g_iload_n F (pc := 189) d_Mo_block_189 1 rfl (g_iconst (v := 5) F (pc := 190) d_Mo_block_190 (by decide) ?_)
                    refine gc_callSI (As := [.int y26, .int 5]) (st := []) F (pc := 191) d_Mo_block_191 cb_Mo_79 iv_Mo_turned np_Mo_turned (c_Mo_turned h) rfl (by decide) (Nat.le_refl _) (Nat.le_refl _) (Nat.le_of_ble_eq_true rfl) (fun v40 c39 h => ?_)
                    refine g_iload F (pc := 194) d_Mo_block_194 6 rfl (g_iload_n F (pc := 196) d_Mo_block_196 2 rfl (g_iload F (pc := 197) d_Mo_block_197 3 rfl (g_iload F (pc := 199) d_Mo_block_199 4 rfl ?_)))
                    refine gc_callSI (As := [.int y31, .int y27, .int y28, .int y29]) (st := [.int v40]) F (pc := 201) d_Mo_block_201 cb_Mo_83 iv_Mo_mixed np_Mo_mixed (c_Mo_mixed h) rfl (by decide) (Nat.le_refl _) (Nat.le_refl _) (Nat.le_of_ble_eq_true rfl) (fun v42 c41 h => ?_)
                    refine g_iadd F (pc := 204) d_Mo_block_204 (g_iload F (pc := 205) d_Mo_block_205 5 rfl (g_iadd F (pc := 207) d_Mo_block_207 (g_aload_n F (pc := 208) d_Mo_block_208 0 rfl (gc_getR F (pc := 209) d_Mo_block_209 fi_Mo_44 o15 (g_iload F (pc := 212) d_Mo_block_212 6 rfl ?_)))))
                    obtain ⟨o43, h⟩ := h
                    obtain ⟨o44, h⟩ := h
                    refine gc_iald F (pc := 214) d_Mo_block_214 o43 o44 (g_iadd F (pc := 215) d_Mo_block_215 (g_istore (lv' := [(8, .int (((v40 + v42) + y30) + (c41 (rf x0 15) (Int32.toNatClampNeg y31)))), (0, .ref x0), (2, .int y26), (3, .int y27), (4, .int y28), (5, .int y29), (6, .int y30), (7, .int y31)]) F (pc := 216) d_Mo_block_216 (by decide) rfl (g_iload F (pc := 218) d_Mo_block_218 5 rfl (g_istore (lv' := [(6, .int y29), (8, .int (((v40 + v42) + y30) + (c41 (rf x0 15) (Int32.toNatClampNeg y31)))), (0, .ref x0), (2, .int y26), (3, .int y27), (4, .int y28), (5, .int y29), (7, .int y31)]) F (pc := 220) d_Mo_block_220 (by decide) rfl (g_iload F (pc := 222) d_Mo_block_222 5 rfl ?_)))))
                    refine g_istore (lv' := [(5, .int y28), (6, .int y29), (8, .int (((v40 + v42) + y30) + (c41 (rf x0 15) (Int32.toNatClampNeg y31)))), (0, .ref x0), (2, .int y26), (3, .int y27), (4, .int y28), (7, .int y31)]) F (pc := 224) d_Mo_block_224 (by decide) rfl (g_iload_n F (pc := 226) d_Mo_block_226 5 rfl (g_bipush (v := 30) F (pc := 227) d_Mo_block_227 (by decide) ?_))
                    refine gc_callSI (As := [.int y27, .int 30]) (st := []) F (pc := 229) d_Mo_block_229 cb_Mo_79 iv_Mo_turned np_Mo_turned (c_Mo_turned h) rfl (by decide) (Nat.le_refl _) (Nat.le_refl _) (Nat.le_of_ble_eq_true rfl) (fun v46 c45 h => ?_)
                    refine g_istore (lv' := [(4, .int v46), (5, .int y28), (6, .int y29), (8, .int (((v40 + v42) + y30) + (c41 (rf x0 15) (Int32.toNatClampNeg y31)))), (0, .ref x0), (2, .int y26), (3, .int y27), (7, .int y31)]) F (pc := 232) d_Mo_block_232 (by decide) rfl (g_iload_n F (pc := 234) d_Mo_block_234 5 rfl (g_istore_n (lv' := [(3, .int y26), (4, .int v46), (5, .int y28), (6, .int y29), (8, .int (((v40 + v42) + y30) + (c41 (rf x0 15) (Int32.toNatClampNeg y31)))), (0, .ref x0), (2, .int y26), (7, .int y31)]) F (pc := 235) d_Mo_block_235 (by decide) rfl (g_iload F (pc := 236) d_Mo_block_236 4 rfl (g_istore_n (lv' := [(2, .int (((v40 + v42) + y30) + (c41 (rf x0 15) (Int32.toNatClampNeg y31)))), (3, .int y26), (4, .int v46), (5, .int y28), (6, .int y29), (8, .int (((v40 + v42) + y30) + (c41 (rf x0 15) (Int32.toNatClampNeg y31)))), (0, .ref x0), (7, .int y31)]) F (pc := 238) d_Mo_block_238 (by decide) rfl (g_iinc (v := (y31 + 1)) (lv' := [(7, .int (y31 + 1)), (2, .int (((v40 + v42) + y30) + (c41 (rf x0 15) (Int32.toNatClampNeg y31)))), (3, .int y26), (4, .int v46), (5, .int y28), (6, .int y29), (8, .int (((v40 + v42) + y30) + (c41 (rf x0 15) (Int32.toNatClampNeg y31)))), (0, .ref x0)]) F (pc := 239) d_Mo_block_239 7 rfl (sk_inc (by decide)) (by decide) rfl ?_)))))
                    refine g_goto (tgt := 182) F (pc := 242) d_Mo_block_242 (by decide) ?_
                    refine g_lv (lv' := [(0, .ref x0), (2, .int (((v40 + v42) + y30) + (c41 (rf x0 15) (Int32.toNatClampNeg y31)))), (3, .int y26), (4, .int v46), (5, .int y28), (6, .int y29), (7, .int (y31 + 1))]) F [7, 1, 2, 3, 4, 5, 0] rfl ?_
                    obtain ⟨m, hm, h⟩ := h
                    exact ih24 m hm _ _ _ _ _ _ _ h
              exact lp25 n0 _ _ _ _ _ _ _ h
            · replace h := h.2 b14
              refine g_aload_n F (pc := 87) d_Mo_block_87 0 rfl ?_
              obtain ⟨o47, h⟩ := h
              refine gc_getR F (pc := 88) d_Mo_block_88 fi_Mo_44 o47 (g_iload_n F (pc := 91) d_Mo_block_91 1 rfl (g_aload_n F (pc := 92) d_Mo_block_92 0 rfl (gc_getR F (pc := 93) d_Mo_block_93 fi_Mo_44 o47 (g_iload_n F (pc := 96) d_Mo_block_96 1 rfl (g_iconst (v := 3) F (pc := 97) d_Mo_block_97 (by decide) ?_)))))
              refine g_isub F (pc := 98) d_Mo_block_98 ?_
              obtain ⟨o48, h⟩ := h
              obtain ⟨o49, h⟩ := h
              refine gc_iald F (pc := 99) d_Mo_block_99 o48 o49 (g_aload_n F (pc := 100) d_Mo_block_100 0 rfl (gc_getR F (pc := 101) d_Mo_block_101 fi_Mo_44 o47 (g_iload_n F (pc := 104) d_Mo_block_104 1 rfl (g_bipush (v := 8) F (pc := 105) d_Mo_block_105 (by decide) (g_isub F (pc := 107) d_Mo_block_107 ?_)))))
              obtain ⟨o50, h⟩ := h
              refine gc_iald F (pc := 108) d_Mo_block_108 o48 o50 (g_ixor F (pc := 109) d_Mo_block_109 (g_aload_n F (pc := 110) d_Mo_block_110 0 rfl (gc_getR F (pc := 111) d_Mo_block_111 fi_Mo_44 o47 (g_iload_n F (pc := 114) d_Mo_block_114 1 rfl (g_bipush (v := 14) F (pc := 115) d_Mo_block_115 (by decide) ?_)))))
              refine g_isub F (pc := 117) d_Mo_block_117 ?_
              obtain ⟨o51, h⟩ := h
              refine gc_iald F (pc := 118) d_Mo_block_118 o48 o51 (g_ixor F (pc := 119) d_Mo_block_119 (g_aload_n F (pc := 120) d_Mo_block_120 0 rfl (gc_getR F (pc := 121) d_Mo_block_121 fi_Mo_44 o47 (g_iload_n F (pc := 124) d_Mo_block_124 1 rfl (g_bipush (v := 16) F (pc := 125) d_Mo_block_125 (by decide) ?_)))))
              refine g_isub F (pc := 127) d_Mo_block_127 ?_
              obtain ⟨o52, h⟩ := h
              refine gc_iald F (pc := 128) d_Mo_block_128 o48 o52 (g_ixor F (pc := 129) d_Mo_block_129 (g_iconst (v := 1) F (pc := 130) d_Mo_block_130 (by decide) ?_))
              refine gc_callSI (As := [.int ((((c13 (rf x0 15) (Int32.toNatClampNeg (y12 - 3))) ^^^ (c13 (rf x0 15) (Int32.toNatClampNeg (y12 - 8)))) ^^^ (c13 (rf x0 15) (Int32.toNatClampNeg (y12 - 14)))) ^^^ (c13 (rf x0 15) (Int32.toNatClampNeg (y12 - 16)))), .int 1]) (st := [.int y12, .ref (rf x0 15)]) F (pc := 131) d_Mo_block_131 cb_Mo_79 iv_Mo_turned np_Mo_turned (c_Mo_turned h) rfl (by decide) (Nat.le_refl _) (Nat.le_refl _) (Nat.le_of_ble_eq_true rfl) (fun v54 c53 h => ?_)
              obtain ⟨o55, h⟩ := h
              refine gc_iast F (pc := 134) d_Mo_block_134 o48 o55 ?_
              obtain ⟨c56, ec56⟩ : ∃ c56 : cM, c56 = c_up c53 (rf x0 15) (Int32.toNatClampNeg y12) v54 := ⟨_, rfl⟩
              rw [← ec56]
              replace h := h c56 ec56
              refine g_iinc (v := (y12 + 1)) (lv' := [(2, .int (y12 + 1)), (0, .ref x0)]) F (pc := 135) d_Mo_block_135 1 rfl (sk_inc (by decide)) (by decide) rfl (g_goto (tgt := 81) F (pc := 138) d_Mo_block_138 (by decide) ?_)
              refine g_lv (lv' := [(0, .ref x0), (2, .int (y12 + 1))]) F [1, 0] rfl ?_
              obtain ⟨m, hm, h⟩ := h
              exact ih10 m hm _ _ h
        exact lp11 n0 _ _ h
      · replace h := h.2 b7
        refine g_aload_n F (pc := 8) d_Mo_block_8 0 rfl ?_
        obtain ⟨o57, h⟩ := h
        refine gc_getR F (pc := 9) d_Mo_block_9 fi_Mo_44 o57 (g_iload_n F (pc := 12) d_Mo_block_12 2 rfl (g_aload_n F (pc := 13) d_Mo_block_13 0 rfl (gc_getR F (pc := 14) d_Mo_block_14 fi_Mo_41 o57 (g_iload_n F (pc := 17) d_Mo_block_17 1 rfl (g_iconst (v := 4) F (pc := 18) d_Mo_block_18 (by decide) ?_)))))
        refine g_iload_n F (pc := 19) d_Mo_block_19 2 rfl (g_imul F (pc := 20) d_Mo_block_20 (g_iadd F (pc := 21) d_Mo_block_21 ?_))
        obtain ⟨o58, h⟩ := h
        obtain ⟨o59, h⟩ := h
        refine gc_iald F (pc := 22) d_Mo_block_22 o58 o59 (g_bipush (v := 24) F (pc := 23) d_Mo_block_23 (by decide) (g_ishl F (pc := 25) d_Mo_block_25 (g_aload_n F (pc := 26) d_Mo_block_26 0 rfl (gc_getR F (pc := 27) d_Mo_block_27 fi_Mo_41 o57 (g_iload_n F (pc := 30) d_Mo_block_30 1 rfl ?_)))))
        refine g_iconst (v := 4) F (pc := 31) d_Mo_block_31 (by decide) (g_iload_n F (pc := 32) d_Mo_block_32 2 rfl (g_imul F (pc := 33) d_Mo_block_33 (g_iadd F (pc := 34) d_Mo_block_34 (g_iconst (v := 1) F (pc := 35) d_Mo_block_35 (by decide) (g_iadd F (pc := 36) d_Mo_block_36 ?_)))))
        obtain ⟨o60, h⟩ := h
        refine gc_iald F (pc := 37) d_Mo_block_37 o58 o60 (g_bipush (v := 16) F (pc := 38) d_Mo_block_38 (by decide) (g_ishl F (pc := 40) d_Mo_block_40 (g_ior F (pc := 41) d_Mo_block_41 (g_aload_n F (pc := 42) d_Mo_block_42 0 rfl (gc_getR F (pc := 43) d_Mo_block_43 fi_Mo_41 o57 ?_)))))
        refine g_iload_n F (pc := 46) d_Mo_block_46 1 rfl (g_iconst (v := 4) F (pc := 47) d_Mo_block_47 (by decide) (g_iload_n F (pc := 48) d_Mo_block_48 2 rfl (g_imul F (pc := 49) d_Mo_block_49 (g_iadd F (pc := 50) d_Mo_block_50 (g_iconst (v := 2) F (pc := 51) d_Mo_block_51 (by decide) ?_)))))
        refine g_iadd F (pc := 52) d_Mo_block_52 ?_
        obtain ⟨o61, h⟩ := h
        refine gc_iald F (pc := 53) d_Mo_block_53 o58 o61 (g_bipush (v := 8) F (pc := 54) d_Mo_block_54 (by decide) (g_ishl F (pc := 56) d_Mo_block_56 (g_ior F (pc := 57) d_Mo_block_57 (g_aload_n F (pc := 58) d_Mo_block_58 0 rfl (gc_getR F (pc := 59) d_Mo_block_59 fi_Mo_41 o57 ?_)))))
        refine g_iload_n F (pc := 62) d_Mo_block_62 1 rfl (g_iconst (v := 4) F (pc := 63) d_Mo_block_63 (by decide) (g_iload_n F (pc := 64) d_Mo_block_64 2 rfl (g_imul F (pc := 65) d_Mo_block_65 (g_iadd F (pc := 66) d_Mo_block_66 (g_iconst (v := 3) F (pc := 67) d_Mo_block_67 (by decide) ?_)))))
        refine g_iadd F (pc := 68) d_Mo_block_68 ?_
        obtain ⟨o62, h⟩ := h
        refine gc_iald F (pc := 69) d_Mo_block_69 o58 o62 (g_ior F (pc := 70) d_Mo_block_70 ?_)
        obtain ⟨o63, h⟩ := h
        obtain ⟨o64, h⟩ := h
        refine gc_iast F (pc := 71) d_Mo_block_71 o63 o64 ?_
        obtain ⟨c65, ec65⟩ : ∃ c65 : cM, c65 = c_up c6 (rf x0 15) (Int32.toNatClampNeg y5) ((((c_shl (c6 (rf x0 14) (Int32.toNatClampNeg (x1 + (4 * y5)))) 24) ||| (c_shl (c6 (rf x0 14) (Int32.toNatClampNeg ((x1 + (4 * y5)) + 1))) 16)) ||| (c_shl (c6 (rf x0 14) (Int32.toNatClampNeg ((x1 + (4 * y5)) + 2))) 8)) ||| (c6 (rf x0 14) (Int32.toNatClampNeg ((x1 + (4 * y5)) + 3)))) := ⟨_, rfl⟩
        rw [← ec65]
        replace h := h c65 ec65
        refine g_iinc (v := (y5 + 1)) (lv' := [(2, .int (y5 + 1)), (0, .ref x0), (1, .int x1)]) F (pc := 72) d_Mo_block_72 2 rfl (sk_inc (by decide)) (by decide) rfl (g_goto (tgt := 2) F (pc := 75) d_Mo_block_75 (by decide) ?_)
        refine g_lv (lv' := [(0, .ref x0), (1, .int x1), (2, .int (y5 + 1))]) F [1, 2, 0] rfl ?_
        obtain ⟨m, hm, h⟩ := h
        exact ih3 m hm _ _ h
  exact lp4 n0 _ _ h
theorem d_Mo_sum_0 : decode M_Mo_sum.2.1 0 = .ok (.aload_n 0, 1) := by decide +kernel
theorem d_Mo_sum_1 : decode M_Mo_sum.2.1 1 = .ok (.getfield 59, 3) := by decide +kernel
theorem d_Mo_sum_4 : decode M_Mo_sum.2.1 4 = .ok (.istore_n 1, 1) := by decide +kernel
theorem d_Mo_sum_5 : decode M_Mo_sum.2.1 5 = .ok (.aload_n 0, 1) := by decide +kernel
theorem d_Mo_sum_6 : decode M_Mo_sum.2.1 6 = .ok (.sipush 128, 3) := by decide +kernel
theorem d_Mo_sum_9 : decode M_Mo_sum.2.1 9 = .ok (.invokevirtual 63, 3) := by decide +kernel
theorem d_Mo_sum_12 : decode M_Mo_sum.2.1 12 = .ok (.aload_n 0, 1) := by decide +kernel
theorem d_Mo_sum_13 : decode M_Mo_sum.2.1 13 = .ok (.getfield 59, 3) := by decide +kernel
theorem d_Mo_sum_16 : decode M_Mo_sum.2.1 16 = .ok (.bipush 64, 2) := by decide +kernel
theorem d_Mo_sum_18 : decode M_Mo_sum.2.1 18 = .ok (.irem, 1) := by decide +kernel
theorem d_Mo_sum_19 : decode M_Mo_sum.2.1 19 = .ok (.bipush 56, 2) := by decide +kernel
theorem d_Mo_sum_21 : decode M_Mo_sum.2.1 21 = .ok (.if_icmp .eq 11, 3) := by decide +kernel
theorem d_Mo_sum_24 : decode M_Mo_sum.2.1 24 = .ok (.aload_n 0, 1) := by decide +kernel
theorem d_Mo_sum_25 : decode M_Mo_sum.2.1 25 = .ok (.iconst 0, 1) := by decide +kernel
theorem d_Mo_sum_26 : decode M_Mo_sum.2.1 26 = .ok (.invokevirtual 63, 3) := by decide +kernel
theorem d_Mo_sum_29 : decode M_Mo_sum.2.1 29 = .ok (.goto (-17), 3) := by decide +kernel
theorem d_Mo_sum_32 : decode M_Mo_sum.2.1 32 = .ok (.iconst 0, 1) := by decide +kernel
theorem d_Mo_sum_33 : decode M_Mo_sum.2.1 33 = .ok (.istore_n 2, 1) := by decide +kernel
theorem d_Mo_sum_34 : decode M_Mo_sum.2.1 34 = .ok (.iload_n 2, 1) := by decide +kernel
theorem d_Mo_sum_35 : decode M_Mo_sum.2.1 35 = .ok (.iconst 4, 1) := by decide +kernel
theorem d_Mo_sum_36 : decode M_Mo_sum.2.1 36 = .ok (.if_icmp .ge 14, 3) := by decide +kernel
theorem d_Mo_sum_39 : decode M_Mo_sum.2.1 39 = .ok (.aload_n 0, 1) := by decide +kernel
theorem d_Mo_sum_40 : decode M_Mo_sum.2.1 40 = .ok (.iconst 0, 1) := by decide +kernel
theorem d_Mo_sum_41 : decode M_Mo_sum.2.1 41 = .ok (.invokevirtual 63, 3) := by decide +kernel
theorem d_Mo_sum_44 : decode M_Mo_sum.2.1 44 = .ok (.iinc 2 1, 3) := by decide +kernel
theorem d_Mo_sum_47 : decode M_Mo_sum.2.1 47 = .ok (.goto (-13), 3) := by decide +kernel
theorem d_Mo_sum_50 : decode M_Mo_sum.2.1 50 = .ok (.iconst 3, 1) := by decide +kernel
theorem d_Mo_sum_51 : decode M_Mo_sum.2.1 51 = .ok (.istore_n 2, 1) := by decide +kernel
theorem d_Mo_sum_52 : decode M_Mo_sum.2.1 52 = .ok (.iload_n 2, 1) := by decide +kernel
theorem d_Mo_sum_53 : decode M_Mo_sum.2.1 53 = .ok (.ifCond .lt 22, 3) := by decide +kernel
theorem d_Mo_sum_56 : decode M_Mo_sum.2.1 56 = .ok (.aload_n 0, 1) := by decide +kernel
theorem d_Mo_sum_57 : decode M_Mo_sum.2.1 57 = .ok (.bipush 8, 2) := by decide +kernel
theorem d_Mo_sum_59 : decode M_Mo_sum.2.1 59 = .ok (.iload_n 1, 1) := by decide +kernel
theorem d_Mo_sum_60 : decode M_Mo_sum.2.1 60 = .ok (.imul, 1) := by decide +kernel
theorem d_Mo_sum_61 : decode M_Mo_sum.2.1 61 = .ok (.bipush 8, 2) := by decide +kernel
theorem d_Mo_sum_63 : decode M_Mo_sum.2.1 63 = .ok (.iload_n 2, 1) := by decide +kernel
theorem d_Mo_sum_64 : decode M_Mo_sum.2.1 64 = .ok (.imul, 1) := by decide +kernel
theorem d_Mo_sum_65 : decode M_Mo_sum.2.1 65 = .ok (.iushr, 1) := by decide +kernel
theorem d_Mo_sum_66 : decode M_Mo_sum.2.1 66 = .ok (.invokevirtual 63, 3) := by decide +kernel
theorem d_Mo_sum_69 : decode M_Mo_sum.2.1 69 = .ok (.iinc 2 (-1), 3) := by decide +kernel
theorem d_Mo_sum_72 : decode M_Mo_sum.2.1 72 = .ok (.goto (-20), 3) := by decide +kernel
theorem d_Mo_sum_75 : decode M_Mo_sum.2.1 75 = .ok (.aload_n 0, 1) := by decide +kernel
theorem d_Mo_sum_76 : decode M_Mo_sum.2.1 76 = .ok (.getfield 47, 3) := by decide +kernel
theorem d_Mo_sum_79 : decode M_Mo_sum.2.1 79 = .ok (.iconst 0, 1) := by decide +kernel
theorem d_Mo_sum_80 : decode M_Mo_sum.2.1 80 = .ok (.ldc 67, 2) := by decide +kernel
theorem d_Mo_sum_82 : decode M_Mo_sum.2.1 82 = .ok (.iastore, 1) := by decide +kernel
theorem d_Mo_sum_83 : decode M_Mo_sum.2.1 83 = .ok (.aload_n 0, 1) := by decide +kernel
theorem d_Mo_sum_84 : decode M_Mo_sum.2.1 84 = .ok (.getfield 47, 3) := by decide +kernel
theorem d_Mo_sum_87 : decode M_Mo_sum.2.1 87 = .ok (.iconst 1, 1) := by decide +kernel
theorem d_Mo_sum_88 : decode M_Mo_sum.2.1 88 = .ok (.ldc 68, 2) := by decide +kernel
theorem d_Mo_sum_90 : decode M_Mo_sum.2.1 90 = .ok (.iastore, 1) := by decide +kernel
theorem d_Mo_sum_91 : decode M_Mo_sum.2.1 91 = .ok (.aload_n 0, 1) := by decide +kernel
theorem d_Mo_sum_92 : decode M_Mo_sum.2.1 92 = .ok (.getfield 47, 3) := by decide +kernel
theorem d_Mo_sum_95 : decode M_Mo_sum.2.1 95 = .ok (.iconst 2, 1) := by decide +kernel
theorem d_Mo_sum_96 : decode M_Mo_sum.2.1 96 = .ok (.ldc 69, 2) := by decide +kernel
theorem d_Mo_sum_98 : decode M_Mo_sum.2.1 98 = .ok (.iastore, 1) := by decide +kernel
theorem d_Mo_sum_99 : decode M_Mo_sum.2.1 99 = .ok (.aload_n 0, 1) := by decide +kernel
theorem d_Mo_sum_100 : decode M_Mo_sum.2.1 100 = .ok (.getfield 47, 3) := by decide +kernel
theorem d_Mo_sum_103 : decode M_Mo_sum.2.1 103 = .ok (.iconst 3, 1) := by decide +kernel
theorem d_Mo_sum_104 : decode M_Mo_sum.2.1 104 = .ok (.ldc 70, 2) := by decide +kernel
theorem d_Mo_sum_106 : decode M_Mo_sum.2.1 106 = .ok (.iastore, 1) := by decide +kernel
theorem d_Mo_sum_107 : decode M_Mo_sum.2.1 107 = .ok (.aload_n 0, 1) := by decide +kernel
theorem d_Mo_sum_108 : decode M_Mo_sum.2.1 108 = .ok (.getfield 47, 3) := by decide +kernel
theorem d_Mo_sum_111 : decode M_Mo_sum.2.1 111 = .ok (.iconst 4, 1) := by decide +kernel
theorem d_Mo_sum_112 : decode M_Mo_sum.2.1 112 = .ok (.ldc 71, 2) := by decide +kernel
theorem d_Mo_sum_114 : decode M_Mo_sum.2.1 114 = .ok (.iastore, 1) := by decide +kernel
theorem d_Mo_sum_115 : decode M_Mo_sum.2.1 115 = .ok (.iconst 0, 1) := by decide +kernel
theorem d_Mo_sum_116 : decode M_Mo_sum.2.1 116 = .ok (.istore_n 2, 1) := by decide +kernel
theorem d_Mo_sum_117 : decode M_Mo_sum.2.1 117 = .ok (.iload_n 2, 1) := by decide +kernel
theorem d_Mo_sum_118 : decode M_Mo_sum.2.1 118 = .ok (.aload_n 0, 1) := by decide +kernel
theorem d_Mo_sum_119 : decode M_Mo_sum.2.1 119 = .ok (.getfield 59, 3) := by decide +kernel
theorem d_Mo_sum_122 : decode M_Mo_sum.2.1 122 = .ok (.if_icmp .ge 14, 3) := by decide +kernel
theorem d_Mo_sum_125 : decode M_Mo_sum.2.1 125 = .ok (.aload_n 0, 1) := by decide +kernel
theorem d_Mo_sum_126 : decode M_Mo_sum.2.1 126 = .ok (.iload_n 2, 1) := by decide +kernel
theorem d_Mo_sum_127 : decode M_Mo_sum.2.1 127 = .ok (.invokevirtual 72, 3) := by decide +kernel
theorem d_Mo_sum_130 : decode M_Mo_sum.2.1 130 = .ok (.iinc 2 64, 3) := by decide +kernel
theorem d_Mo_sum_133 : decode M_Mo_sum.2.1 133 = .ok (.goto (-16), 3) := by decide +kernel
theorem d_Mo_sum_136 : decode M_Mo_sum.2.1 136 = .ok (.return_, 1) := by decide +kernel
def f_Mo_sum (x0 : Nat) (c : cM) (K : cM → Prop) : Prop :=
  kd x0 = 7 ∧ (f_Mo_put x0 128 c (fun c2 => ∃ I3 : Nat → cM → Prop, (∃ n, I3 n c2) ∧ ∀ (n4 : Nat) (c7 : cM), I3 n4 c7 → ((((c_rem (c7 x0 13) 64) = 56) → (∃ I9 : Nat → Int32 → cM → Prop, (∃ n, I9 n 0 c7) ∧ ∀ (n10 : Nat) (y13 : Int32) (c14 : cM), I9 n10 y13 c14 → (((4 ≤ y13) → (∃ I16 : Nat → Int32 → cM → Prop, (∃ n, I16 n 3 c14) ∧ ∀ (n17 : Nat) (y20 : Int32) (c21 : cM), I16 n17 y20 c21 → (((y20 < 0) → (kd (rf x0 16) = 100 ∧ (vp_in 0 (ln (rf x0 16)) ∧ (∀ c25 : cM, c25 = c_up c21 (rf x0 16) (Int32.toNatClampNeg 0) 1732584193 → (vp_in 1 (ln (rf x0 16)) ∧ (∀ c27 : cM, c27 = c_up c25 (rf x0 16) (Int32.toNatClampNeg 1) (-271733879) → (vp_in 2 (ln (rf x0 16)) ∧ (∀ c29 : cM, c29 = c_up c27 (rf x0 16) (Int32.toNatClampNeg 2) (-1732584194) → (vp_in 3 (ln (rf x0 16)) ∧ (∀ c31 : cM, c31 = c_up c29 (rf x0 16) (Int32.toNatClampNeg 3) 271733878 → (vp_in 4 (ln (rf x0 16)) ∧ (∀ c33 : cM, c33 = c_up c31 (rf x0 16) (Int32.toNatClampNeg 4) (-1009589776) → (∃ I34 : Nat → Int32 → cM → Prop, (∃ n, I34 n 0 c33) ∧ ∀ (n35 : Nat) (y38 : Int32) (c39 : cM), I34 n35 y38 c39 → ((((c39 x0 13) ≤ y38) → (K c39)) ∧ (¬ ((c39 x0 13) ≤ y38) → (f_Mo_block x0 y38 c39 (fun c41 => ∃ m, m < n35 ∧ I34 m (y38 + 64) c41))))))))))))))))) ∧ (¬ (y20 < 0) → (f_Mo_put x0 (c_ushr (8 * (c x0 13)) (8 * y20)) c21 (fun c42 => ∃ m, m < n17 ∧ I16 m (y20 + (-1)) c42)))))) ∧ (¬ (4 ≤ y13) → (f_Mo_put x0 0 c14 (fun c43 => ∃ m, m < n10 ∧ I9 m (y13 + 1) c43)))))) ∧ (¬ ((c_rem (c7 x0 13) 64) = 56) → (f_Mo_put x0 0 c7 (fun c44 => ∃ m, m < n4 ∧ I3 m c44))))))
theorem c_Mo_sum {x0 : Nat} {c : cM} {K : cM → Prop} (h : f_Mo_sum x0 c K) : Ct M_Mo_sum 2 0 0 (wd c) [.ref x0] (PoV K) := by
  refine Ct.of (by decide +kernel) (Nat.le_of_ble_eq_true rfl) (fun Z T => ?_)
  have F := T.F
  unfold f_Mo_sum at h
  show Z (wd c) 0 [(0, .ref x0)] [] 0 0
  refine g_aload_n F (pc := 0) d_Mo_sum_0 0 rfl ?_
  obtain ⟨o1, h⟩ := h
  refine gc_getI F (pc := 1) d_Mo_sum_1 fi_Mo_59 o1 (g_istore_n (lv' := [(1, .int (c x0 13)), (0, .ref x0)]) F (pc := 4) d_Mo_sum_4 (by decide) rfl (g_aload_n F (pc := 5) d_Mo_sum_5 1 rfl (g_sipush (v := 128) F (pc := 6) d_Mo_sum_6 (by decide) ?_)))
  refine gc_callVV (As := [.int 128]) (st := []) F (pc := 9) d_Mo_sum_9 cb_Mo_63 iv_Mo_put np_Mo_put o1 vc_7 (c_Mo_put h) rfl (by decide) (Nat.le_refl _) (Nat.le_refl _) (Nat.le_of_ble_eq_true rfl) (fun c2 h => ?_)
  refine g_lv (lv' := [(0, .ref x0), (1, .int (c x0 13))]) F [1, 0] rfl ?_
  obtain ⟨I3, ⟨n0, h⟩, hI3⟩ := h
  have lp6 : ∀ (n4 : Nat) (c7 : cM), I3 n4 c7 → Z (wd c7) 12 [(0, .ref x0), (1, .int (c x0 13))] [] 0 0 := by
    intro n4
    induction n4 using Nat.strongRecOn with
    | _ n4 ih5 =>
      intro c7 h
      replace h := hI3 n4 c7 h
      refine g_aload_n F (pc := 12) d_Mo_sum_12 0 rfl (gc_getI F (pc := 13) d_Mo_sum_13 fi_Mo_59 o1 (g_bipush (v := 64) F (pc := 16) d_Mo_sum_16 (by decide) (g_irem F (pc := 18) d_Mo_sum_18 (by decide) (g_bipush (v := 56) F (pc := 19) d_Mo_sum_19 (by decide) ?_))))
      refine g_icmp_eq (tgt := 32) F (pc := 21) d_Mo_sum_21 (by decide) (fun b8 => ?_) (fun b8 => ?_)
      · replace h := h.1 b8
        refine g_iconst (v := 0) F (pc := 32) d_Mo_sum_32 (by decide) (g_istore_n (lv' := [(2, .int 0), (0, .ref x0), (1, .int (c x0 13))]) F (pc := 33) d_Mo_sum_33 (by decide) rfl ?_)
        refine g_lv (lv' := [(0, .ref x0), (1, .int (c x0 13)), (2, .int 0)]) F [1, 2, 0] rfl ?_
        obtain ⟨I9, ⟨n0, h⟩, hI9⟩ := h
        have lp12 : ∀ (n10 : Nat) (y13 : Int32) (c14 : cM), I9 n10 y13 c14 → Z (wd c14) 34 [(0, .ref x0), (1, .int (c x0 13)), (2, .int y13)] [] 0 0 := by
          intro n10
          induction n10 using Nat.strongRecOn with
          | _ n10 ih11 =>
            intro y13 c14 h
            replace h := hI9 n10 y13 c14 h
            refine g_iload_n F (pc := 34) d_Mo_sum_34 2 rfl (g_iconst (v := 4) F (pc := 35) d_Mo_sum_35 (by decide) ?_)
            refine g_icmp_ge (tgt := 50) F (pc := 36) d_Mo_sum_36 (by decide) (fun b15 => ?_) (fun b15 => ?_)
            · replace h := h.1 b15
              refine g_iconst (v := 3) F (pc := 50) d_Mo_sum_50 (by decide) (g_istore_n (lv' := [(2, .int 3), (0, .ref x0), (1, .int (c x0 13))]) F (pc := 51) d_Mo_sum_51 (by decide) rfl ?_)
              refine g_lv (lv' := [(0, .ref x0), (1, .int (c x0 13)), (2, .int 3)]) F [1, 2, 0] rfl ?_
              obtain ⟨I16, ⟨n0, h⟩, hI16⟩ := h
              have lp19 : ∀ (n17 : Nat) (y20 : Int32) (c21 : cM), I16 n17 y20 c21 → Z (wd c21) 52 [(0, .ref x0), (1, .int (c x0 13)), (2, .int y20)] [] 0 0 := by
                intro n17
                induction n17 using Nat.strongRecOn with
                | _ n17 ih18 =>
                  intro y20 c21 h
                  replace h := hI16 n17 y20 c21 h
                  refine g_iload_n F (pc := 52) d_Mo_sum_52 2 rfl ?_
                  refine g_if_lt (tgt := 75) F (pc := 53) d_Mo_sum_53 (by decide) (fun b22 => ?_) (fun b22 => ?_)
                  · replace h := h.1 b22
                    refine g_aload_n F (pc := 75) d_Mo_sum_75 0 rfl (gc_getR F (pc := 76) d_Mo_sum_76 fi_Mo_47 o1 (g_iconst (v := 0) F (pc := 79) d_Mo_sum_79 (by decide) (g_ldc F (pc := 80) d_Mo_sum_80 kc_Mo_67 ?_)))
                    obtain ⟨o23, h⟩ := h
                    obtain ⟨o24, h⟩ := h
                    refine gc_iast F (pc := 82) d_Mo_sum_82 o23 o24 ?_
                    obtain ⟨c25, ec25⟩ : ∃ c25 : cM, c25 = c_up c21 (rf x0 16) (Int32.toNatClampNeg 0) 1732584193 := ⟨_, rfl⟩
                    rw [← ec25]
                    replace h := h c25 ec25
                    refine g_aload_n F (pc := 83) d_Mo_sum_83 0 rfl (gc_getR F (pc := 84) d_Mo_sum_84 fi_Mo_47 o1 (g_iconst (v := 1) F (pc := 87) d_Mo_sum_87 (by decide) (g_ldc F (pc := 88) d_Mo_sum_88 kc_Mo_68 ?_)))
                    obtain ⟨o26, h⟩ := h
                    refine gc_iast F (pc := 90) d_Mo_sum_90 o23 o26 ?_
                    obtain ⟨c27, ec27⟩ : ∃ c27 : cM, c27 = c_up c25 (rf x0 16) (Int32.toNatClampNeg 1) (-271733879) := ⟨_, rfl⟩
                    rw [← ec27]
                    replace h := h c27 ec27
                    refine g_aload_n F (pc := 91) d_Mo_sum_91 0 rfl (gc_getR F (pc := 92) d_Mo_sum_92 fi_Mo_47 o1 (g_iconst (v := 2) F (pc := 95) d_Mo_sum_95 (by decide) (g_ldc F (pc := 96) d_Mo_sum_96 kc_Mo_69 ?_)))
                    obtain ⟨o28, h⟩ := h
                    refine gc_iast F (pc := 98) d_Mo_sum_98 o23 o28 ?_
                    obtain ⟨c29, ec29⟩ : ∃ c29 : cM, c29 = c_up c27 (rf x0 16) (Int32.toNatClampNeg 2) (-1732584194) := ⟨_, rfl⟩
                    rw [← ec29]
                    replace h := h c29 ec29
                    refine g_aload_n F (pc := 99) d_Mo_sum_99 0 rfl (gc_getR F (pc := 100) d_Mo_sum_100 fi_Mo_47 o1 (g_iconst (v := 3) F (pc := 103) d_Mo_sum_103 (by decide) (g_ldc F (pc := 104) d_Mo_sum_104 kc_Mo_70 ?_)))
                    obtain ⟨o30, h⟩ := h
                    refine gc_iast F (pc := 106) d_Mo_sum_106 o23 o30 ?_
                    obtain ⟨c31, ec31⟩ : ∃ c31 : cM, c31 = c_up c29 (rf x0 16) (Int32.toNatClampNeg 3) 271733878 := ⟨_, rfl⟩
                    rw [← ec31]
                    replace h := h c31 ec31
                    refine g_aload_n F (pc := 107) d_Mo_sum_107 0 rfl (gc_getR F (pc := 108) d_Mo_sum_108 fi_Mo_47 o1 (g_iconst (v := 4) F (pc := 111) d_Mo_sum_111 (by decide) (g_ldc F (pc := 112) d_Mo_sum_112 kc_Mo_71 ?_)))
                    obtain ⟨o32, h⟩ := h
                    refine gc_iast F (pc := 114) d_Mo_sum_114 o23 o32 ?_
                    obtain ⟨c33, ec33⟩ : ∃ c33 : cM, c33 = c_up c31 (rf x0 16) (Int32.toNatClampNeg 4) (-1009589776) := ⟨_, rfl⟩
                    rw [← ec33]
                    replace h := h c33 ec33
                    refine g_iconst (v := 0) F (pc := 115) d_Mo_sum_115 (by decide) (g_istore_n (lv' := [(2, .int 0), (0, .ref x0), (1, .int (c x0 13))]) F (pc := 116) d_Mo_sum_116 (by decide) rfl ?_)
                    refine g_lv (lv' := [(0, .ref x0), (2, .int 0)]) F [1, 0] rfl ?_
                    obtain ⟨I34, ⟨n0, h⟩, hI34⟩ := h
                    have lp37 : ∀ (n35 : Nat) (y38 : Int32) (c39 : cM), I34 n35 y38 c39 → Z (wd c39) 117 [(0, .ref x0), (2, .int y38)] [] 0 0 := by
                      intro n35
                      induction n35 using Nat.strongRecOn with
                      | _ n35 ih36 =>
                        intro y38 c39 h
                        replace h := hI34 n35 y38 c39 h
                        refine g_iload_n F (pc := 117) d_Mo_sum_117 1 rfl (g_aload_n F (pc := 118) d_Mo_sum_118 0 rfl (gc_getI F (pc := 119) d_Mo_sum_119 fi_Mo_59 o1 ?_))
                        refine g_icmp_ge (tgt := 136) F (pc := 122) d_Mo_sum_122 (by decide) (fun b40 => ?_) (fun b40 => ?_)
                        · replace h := h.1 b40
                          exact g_vret T (pc := 136) d_Mo_sum_136 rfl (Nat.le_refl _) (Nat.le_refl _) (poV h)
                        · replace h := h.2 b40
                          refine g_aload_n F (pc := 125) d_Mo_sum_125 0 rfl (g_iload_n F (pc := 126) d_Mo_sum_126 1 rfl ?_)
                          refine gc_callVV (As := [.int y38]) (st := []) F (pc := 127) d_Mo_sum_127 cb_Mo_72 iv_Mo_block np_Mo_block o1 vc_7 (c_Mo_block h) rfl (by decide) (Nat.le_refl _) (Nat.le_refl _) (Nat.le_of_ble_eq_true rfl) (fun c41 h => ?_)
                          refine g_iinc (v := (y38 + 64)) (lv' := [(2, .int (y38 + 64)), (0, .ref x0)]) F (pc := 130) d_Mo_sum_130 1 rfl (sk_inc (by decide)) (by decide) rfl (g_goto (tgt := 117) F (pc := 133) d_Mo_sum_133 (by decide) ?_)
                          refine g_lv (lv' := [(0, .ref x0), (2, .int (y38 + 64))]) F [1, 0] rfl ?_
                          obtain ⟨m, hm, h⟩ := h
                          exact ih36 m hm _ _ h
                    exact lp37 n0 _ _ h
                  · replace h := h.2 b22
                    refine g_aload_n F (pc := 56) d_Mo_sum_56 0 rfl (g_bipush (v := 8) F (pc := 57) d_Mo_sum_57 (by decide) (g_iload_n F (pc := 59) d_Mo_sum_59 1 rfl (g_imul F (pc := 60) d_Mo_sum_60 (g_bipush (v := 8) F (pc := 61) d_Mo_sum_61 (by decide) (g_iload_n F (pc := 63) d_Mo_sum_63 2 rfl ?_)))))
                    refine g_imul F (pc := 64) d_Mo_sum_64 (g_iushr F (pc := 65) d_Mo_sum_65 ?_)
                    refine gc_callVV (As := [.int (c_ushr (8 * (c x0 13)) (8 * y20))]) (st := []) F (pc := 66) d_Mo_sum_66 cb_Mo_63 iv_Mo_put np_Mo_put o1 vc_7 (c_Mo_put h) rfl (by decide) (Nat.le_refl _) (Nat.le_refl _) (Nat.le_of_ble_eq_true rfl) (fun c42 h => ?_)
                    refine g_iinc (v := (y20 + (-1))) (lv' := [(2, .int (y20 + (-1))), (0, .ref x0), (1, .int (c x0 13))]) F (pc := 69) d_Mo_sum_69 2 rfl (sk_inc (by decide)) (by decide) rfl (g_goto (tgt := 52) F (pc := 72) d_Mo_sum_72 (by decide) ?_)
                    refine g_lv (lv' := [(0, .ref x0), (1, .int (c x0 13)), (2, .int (y20 + (-1)))]) F [1, 2, 0] rfl ?_
                    obtain ⟨m, hm, h⟩ := h
                    exact ih18 m hm _ _ h
              exact lp19 n0 _ _ h
            · replace h := h.2 b15
              refine g_aload_n F (pc := 39) d_Mo_sum_39 0 rfl (g_iconst (v := 0) F (pc := 40) d_Mo_sum_40 (by decide) ?_)
              refine gc_callVV (As := [.int 0]) (st := []) F (pc := 41) d_Mo_sum_41 cb_Mo_63 iv_Mo_put np_Mo_put o1 vc_7 (c_Mo_put h) rfl (by decide) (Nat.le_refl _) (Nat.le_refl _) (Nat.le_of_ble_eq_true rfl) (fun c43 h => ?_)
              refine g_iinc (v := (y13 + 1)) (lv' := [(2, .int (y13 + 1)), (0, .ref x0), (1, .int (c x0 13))]) F (pc := 44) d_Mo_sum_44 2 rfl (sk_inc (by decide)) (by decide) rfl (g_goto (tgt := 34) F (pc := 47) d_Mo_sum_47 (by decide) ?_)
              refine g_lv (lv' := [(0, .ref x0), (1, .int (c x0 13)), (2, .int (y13 + 1))]) F [1, 2, 0] rfl ?_
              obtain ⟨m, hm, h⟩ := h
              exact ih11 m hm _ _ h
        exact lp12 n0 _ _ h
      · replace h := h.2 b8
        refine g_aload_n F (pc := 24) d_Mo_sum_24 0 rfl (g_iconst (v := 0) F (pc := 25) d_Mo_sum_25 (by decide) ?_)
        refine gc_callVV (As := [.int 0]) (st := []) F (pc := 26) d_Mo_sum_26 cb_Mo_63 iv_Mo_put np_Mo_put o1 vc_7 (c_Mo_put h) rfl (by decide) (Nat.le_refl _) (Nat.le_refl _) (Nat.le_of_ble_eq_true rfl) (fun c44 h => ?_)
        refine g_goto (tgt := 12) F (pc := 29) d_Mo_sum_29 (by decide) ?_
        obtain ⟨m, hm, h⟩ := h
        exact ih5 m hm _ h
  exact lp6 n0 _ h
theorem d_Mo_putDecimal_0 : decode M_Mo_putDecimal.2.1 0 = .ok (.iconst 1, 1) := by decide +kernel
theorem d_Mo_putDecimal_1 : decode M_Mo_putDecimal.2.1 1 = .ok (.istore_n 2, 1) := by decide +kernel
theorem d_Mo_putDecimal_2 : decode M_Mo_putDecimal.2.1 2 = .ok (.iload_n 1, 1) := by decide +kernel
theorem d_Mo_putDecimal_3 : decode M_Mo_putDecimal.2.1 3 = .ok (.iload_n 2, 1) := by decide +kernel
theorem d_Mo_putDecimal_4 : decode M_Mo_putDecimal.2.1 4 = .ok (.idiv, 1) := by decide +kernel
theorem d_Mo_putDecimal_5 : decode M_Mo_putDecimal.2.1 5 = .ok (.bipush 9, 2) := by decide +kernel
theorem d_Mo_putDecimal_7 : decode M_Mo_putDecimal.2.1 7 = .ok (.if_icmp .le 11, 3) := by decide +kernel
theorem d_Mo_putDecimal_10 : decode M_Mo_putDecimal.2.1 10 = .ok (.bipush 10, 2) := by decide +kernel
theorem d_Mo_putDecimal_12 : decode M_Mo_putDecimal.2.1 12 = .ok (.iload_n 2, 1) := by decide +kernel
theorem d_Mo_putDecimal_13 : decode M_Mo_putDecimal.2.1 13 = .ok (.imul, 1) := by decide +kernel
theorem d_Mo_putDecimal_14 : decode M_Mo_putDecimal.2.1 14 = .ok (.istore_n 2, 1) := by decide +kernel
theorem d_Mo_putDecimal_15 : decode M_Mo_putDecimal.2.1 15 = .ok (.goto (-13), 3) := by decide +kernel
theorem d_Mo_putDecimal_18 : decode M_Mo_putDecimal.2.1 18 = .ok (.iload_n 2, 1) := by decide +kernel
theorem d_Mo_putDecimal_19 : decode M_Mo_putDecimal.2.1 19 = .ok (.istore_n 3, 1) := by decide +kernel
theorem d_Mo_putDecimal_20 : decode M_Mo_putDecimal.2.1 20 = .ok (.iload_n 3, 1) := by decide +kernel
theorem d_Mo_putDecimal_21 : decode M_Mo_putDecimal.2.1 21 = .ok (.ifCond .le 24, 3) := by decide +kernel
theorem d_Mo_putDecimal_24 : decode M_Mo_putDecimal.2.1 24 = .ok (.aload_n 0, 1) := by decide +kernel
theorem d_Mo_putDecimal_25 : decode M_Mo_putDecimal.2.1 25 = .ok (.bipush 48, 2) := by decide +kernel
theorem d_Mo_putDecimal_27 : decode M_Mo_putDecimal.2.1 27 = .ok (.iload_n 1, 1) := by decide +kernel
theorem d_Mo_putDecimal_28 : decode M_Mo_putDecimal.2.1 28 = .ok (.iload_n 3, 1) := by decide +kernel
theorem d_Mo_putDecimal_29 : decode M_Mo_putDecimal.2.1 29 = .ok (.idiv, 1) := by decide +kernel
theorem d_Mo_putDecimal_30 : decode M_Mo_putDecimal.2.1 30 = .ok (.bipush 10, 2) := by decide +kernel
theorem d_Mo_putDecimal_32 : decode M_Mo_putDecimal.2.1 32 = .ok (.irem, 1) := by decide +kernel
theorem d_Mo_putDecimal_33 : decode M_Mo_putDecimal.2.1 33 = .ok (.iadd, 1) := by decide +kernel
theorem d_Mo_putDecimal_34 : decode M_Mo_putDecimal.2.1 34 = .ok (.invokevirtual 63, 3) := by decide +kernel
theorem d_Mo_putDecimal_37 : decode M_Mo_putDecimal.2.1 37 = .ok (.iload_n 3, 1) := by decide +kernel
theorem d_Mo_putDecimal_38 : decode M_Mo_putDecimal.2.1 38 = .ok (.bipush 10, 2) := by decide +kernel
theorem d_Mo_putDecimal_40 : decode M_Mo_putDecimal.2.1 40 = .ok (.idiv, 1) := by decide +kernel
theorem d_Mo_putDecimal_41 : decode M_Mo_putDecimal.2.1 41 = .ok (.istore_n 3, 1) := by decide +kernel
theorem d_Mo_putDecimal_42 : decode M_Mo_putDecimal.2.1 42 = .ok (.goto (-22), 3) := by decide +kernel
theorem d_Mo_putDecimal_45 : decode M_Mo_putDecimal.2.1 45 = .ok (.return_, 1) := by decide +kernel
def f_Mo_putDecimal (x0 : Nat) (x1 : Int32) (c : cM) (K : cM → Prop) : Prop :=
  ∃ I1 : Nat → Int32 → Prop, (∃ n, I1 n 1) ∧ ∀ (n2 : Nat) (y5 : Int32), I1 n2 y5 → (¬ y5 = 0 ∧ ((((x1 / y5) ≤ 9) → (∃ I8 : Nat → Int32 → cM → Prop, (∃ n, I8 n y5 c) ∧ ∀ (n9 : Nat) (y12 : Int32) (c13 : cM), I8 n9 y12 c13 → (((y12 ≤ 0) → (K c13)) ∧ (¬ (y12 ≤ 0) → (¬ y12 = 0 ∧ (kd x0 = 7 ∧ (f_Mo_put x0 (48 + (c_rem (x1 / y12) 10)) c13 (fun c17 => ∃ m, m < n9 ∧ I8 m (y12 / 10) c17)))))))) ∧ (¬ ((x1 / y5) ≤ 9) → (∃ m, m < n2 ∧ I1 m (10 * y5)))))
theorem c_Mo_putDecimal {x0 : Nat} {x1 : Int32} {c : cM} {K : cM → Prop} (h : f_Mo_putDecimal x0 x1 c K) : Ct M_Mo_putDecimal 1 0 0 (wd c) [.ref x0, .int x1] (PoV K) := by
  refine Ct.of (by decide +kernel) (Nat.le_of_ble_eq_true rfl) (fun Z T => ?_)
  have F := T.F
  unfold f_Mo_putDecimal at h
  show Z (wd c) 0 [(0, .ref x0), (1, .int x1)] [] 0 0
  refine g_iconst (v := 1) F (pc := 0) d_Mo_putDecimal_0 (by decide) (g_istore_n (lv' := [(2, .int 1), (0, .ref x0), (1, .int x1)]) F (pc := 1) d_Mo_putDecimal_1 (by decide) rfl ?_)
  refine g_lv (lv' := [(0, .ref x0), (1, .int x1), (2, .int 1)]) F [1, 2, 0] rfl ?_
  obtain ⟨I1, ⟨n0, h⟩, hI1⟩ := h
  have lp4 : ∀ (n2 : Nat) (y5 : Int32), I1 n2 y5 → Z (wd c) 2 [(0, .ref x0), (1, .int x1), (2, .int y5)] [] 0 0 := by
    intro n2
    induction n2 using Nat.strongRecOn with
    | _ n2 ih3 =>
      intro y5 h
      replace h := hI1 n2 y5 h
      refine g_iload_n F (pc := 2) d_Mo_putDecimal_2 1 rfl (g_iload_n F (pc := 3) d_Mo_putDecimal_3 2 rfl ?_)
      obtain ⟨o6, h⟩ := h
      refine g_idiv F (pc := 4) d_Mo_putDecimal_4 o6 (g_bipush (v := 9) F (pc := 5) d_Mo_putDecimal_5 (by decide) ?_)
      refine g_icmp_le (tgt := 18) F (pc := 7) d_Mo_putDecimal_7 (by decide) (fun b7 => ?_) (fun b7 => ?_)
      · replace h := h.1 b7
        refine g_iload_n F (pc := 18) d_Mo_putDecimal_18 2 rfl (g_istore_n (lv' := [(3, .int y5), (0, .ref x0), (1, .int x1), (2, .int y5)]) F (pc := 19) d_Mo_putDecimal_19 (by decide) rfl ?_)
        refine g_lv (lv' := [(0, .ref x0), (1, .int x1), (3, .int y5)]) F [1, 2, 0] rfl ?_
        obtain ⟨I8, ⟨n0, h⟩, hI8⟩ := h
        have lp11 : ∀ (n9 : Nat) (y12 : Int32) (c13 : cM), I8 n9 y12 c13 → Z (wd c13) 20 [(0, .ref x0), (1, .int x1), (3, .int y12)] [] 0 0 := by
          intro n9
          induction n9 using Nat.strongRecOn with
          | _ n9 ih10 =>
            intro y12 c13 h
            replace h := hI8 n9 y12 c13 h
            refine g_iload_n F (pc := 20) d_Mo_putDecimal_20 2 rfl ?_
            refine g_if_le (tgt := 45) F (pc := 21) d_Mo_putDecimal_21 (by decide) (fun b14 => ?_) (fun b14 => ?_)
            · replace h := h.1 b14
              exact g_vret T (pc := 45) d_Mo_putDecimal_45 rfl (Nat.le_refl _) (Nat.le_refl _) (poV h)
            · replace h := h.2 b14
              refine g_aload_n F (pc := 24) d_Mo_putDecimal_24 0 rfl (g_bipush (v := 48) F (pc := 25) d_Mo_putDecimal_25 (by decide) (g_iload_n F (pc := 27) d_Mo_putDecimal_27 1 rfl (g_iload_n F (pc := 28) d_Mo_putDecimal_28 2 rfl ?_)))
              obtain ⟨o15, h⟩ := h
              refine g_idiv F (pc := 29) d_Mo_putDecimal_29 o15 (g_bipush (v := 10) F (pc := 30) d_Mo_putDecimal_30 (by decide) (g_irem F (pc := 32) d_Mo_putDecimal_32 (by decide) (g_iadd F (pc := 33) d_Mo_putDecimal_33 ?_)))
              obtain ⟨o16, h⟩ := h
              refine gc_callVV (As := [.int (48 + (c_rem (x1 / y12) 10))]) (st := []) F (pc := 34) d_Mo_putDecimal_34 cb_Mo_63 iv_Mo_put np_Mo_put o16 vc_7 (c_Mo_put h) rfl (by decide) (Nat.le_refl _) (Nat.le_refl _) (Nat.le_of_ble_eq_true rfl) (fun c17 h => ?_)
              refine g_iload_n F (pc := 37) d_Mo_putDecimal_37 2 rfl (g_bipush (v := 10) F (pc := 38) d_Mo_putDecimal_38 (by decide) (g_idiv F (pc := 40) d_Mo_putDecimal_40 (by decide) (g_istore_n (lv' := [(3, .int (y12 / 10)), (0, .ref x0), (1, .int x1)]) F (pc := 41) d_Mo_putDecimal_41 (by decide) rfl (g_goto (tgt := 20) F (pc := 42) d_Mo_putDecimal_42 (by decide) ?_))))
              refine g_lv (lv' := [(0, .ref x0), (1, .int x1), (3, .int (y12 / 10))]) F [1, 2, 0] rfl ?_
              obtain ⟨m, hm, h⟩ := h
              exact ih10 m hm _ _ h
        exact lp11 n0 _ _ h
      · replace h := h.2 b7
        refine g_bipush (v := 10) F (pc := 10) d_Mo_putDecimal_10 (by decide) (g_iload_n F (pc := 12) d_Mo_putDecimal_12 2 rfl (g_imul F (pc := 13) d_Mo_putDecimal_13 (g_istore_n (lv' := [(2, .int (10 * y5)), (0, .ref x0), (1, .int x1)]) F (pc := 14) d_Mo_putDecimal_14 (by decide) rfl (g_goto (tgt := 2) F (pc := 15) d_Mo_putDecimal_15 (by decide) ?_))))
        refine g_lv (lv' := [(0, .ref x0), (1, .int x1), (2, .int (10 * y5))]) F [1, 2, 0] rfl ?_
        obtain ⟨m, hm, h⟩ := h
        exact ih3 m hm _ h
  exact lp4 n0 _ h
theorem d_Mo_call_0 : decode M_Mo_call.2.1 0 = .ok (.aload_n 0, 1) := by decide +kernel
theorem d_Mo_call_1 : decode M_Mo_call.2.1 1 = .ok (.iconst 0, 1) := by decide +kernel
theorem d_Mo_call_2 : decode M_Mo_call.2.1 2 = .ok (.putfield 59, 3) := by decide +kernel
theorem d_Mo_call_5 : decode M_Mo_call.2.1 5 = .ok (.aload_n 0, 1) := by decide +kernel
theorem d_Mo_call_6 : decode M_Mo_call.2.1 6 = .ok (.getfield 7, 3) := by decide +kernel
theorem d_Mo_call_9 : decode M_Mo_call.2.1 9 = .ok (.iload_n 1, 1) := by decide +kernel
theorem d_Mo_call_10 : decode M_Mo_call.2.1 10 = .ok (.iaload, 1) := by decide +kernel
theorem d_Mo_call_11 : decode M_Mo_call.2.1 11 = .ok (.iconst 1, 1) := by decide +kernel
theorem d_Mo_call_12 : decode M_Mo_call.2.1 12 = .ok (.if_icmp .ne 42, 3) := by decide +kernel
theorem d_Mo_call_15 : decode M_Mo_call.2.1 15 = .ok (.aload_n 0, 1) := by decide +kernel
theorem d_Mo_call_16 : decode M_Mo_call.2.1 16 = .ok (.bipush 99, 2) := by decide +kernel
theorem d_Mo_call_18 : decode M_Mo_call.2.1 18 = .ok (.invokevirtual 63, 3) := by decide +kernel
theorem d_Mo_call_21 : decode M_Mo_call.2.1 21 = .ok (.aload_n 0, 1) := by decide +kernel
theorem d_Mo_call_22 : decode M_Mo_call.2.1 22 = .ok (.bipush 111, 2) := by decide +kernel
theorem d_Mo_call_24 : decode M_Mo_call.2.1 24 = .ok (.invokevirtual 63, 3) := by decide +kernel
theorem d_Mo_call_27 : decode M_Mo_call.2.1 27 = .ok (.aload_n 0, 1) := by decide +kernel
theorem d_Mo_call_28 : decode M_Mo_call.2.1 28 = .ok (.bipush 109, 2) := by decide +kernel
theorem d_Mo_call_30 : decode M_Mo_call.2.1 30 = .ok (.invokevirtual 63, 3) := by decide +kernel
theorem d_Mo_call_33 : decode M_Mo_call.2.1 33 = .ok (.aload_n 0, 1) := by decide +kernel
theorem d_Mo_call_34 : decode M_Mo_call.2.1 34 = .ok (.bipush 109, 2) := by decide +kernel
theorem d_Mo_call_36 : decode M_Mo_call.2.1 36 = .ok (.invokevirtual 63, 3) := by decide +kernel
theorem d_Mo_call_39 : decode M_Mo_call.2.1 39 = .ok (.aload_n 0, 1) := by decide +kernel
theorem d_Mo_call_40 : decode M_Mo_call.2.1 40 = .ok (.bipush 105, 2) := by decide +kernel
theorem d_Mo_call_42 : decode M_Mo_call.2.1 42 = .ok (.invokevirtual 63, 3) := by decide +kernel
theorem d_Mo_call_45 : decode M_Mo_call.2.1 45 = .ok (.aload_n 0, 1) := by decide +kernel
theorem d_Mo_call_46 : decode M_Mo_call.2.1 46 = .ok (.bipush 116, 2) := by decide +kernel
theorem d_Mo_call_48 : decode M_Mo_call.2.1 48 = .ok (.invokevirtual 63, 3) := by decide +kernel
theorem d_Mo_call_51 : decode M_Mo_call.2.1 51 = .ok (.goto 64, 3) := by decide +kernel
theorem d_Mo_call_54 : decode M_Mo_call.2.1 54 = .ok (.aload_n 0, 1) := by decide +kernel
theorem d_Mo_call_55 : decode M_Mo_call.2.1 55 = .ok (.getfield 7, 3) := by decide +kernel
theorem d_Mo_call_58 : decode M_Mo_call.2.1 58 = .ok (.iload_n 1, 1) := by decide +kernel
theorem d_Mo_call_59 : decode M_Mo_call.2.1 59 = .ok (.iaload, 1) := by decide +kernel
theorem d_Mo_call_60 : decode M_Mo_call.2.1 60 = .ok (.iconst 2, 1) := by decide +kernel
theorem d_Mo_call_61 : decode M_Mo_call.2.1 61 = .ok (.if_icmp .ne 30, 3) := by decide +kernel
theorem d_Mo_call_64 : decode M_Mo_call.2.1 64 = .ok (.aload_n 0, 1) := by decide +kernel
theorem d_Mo_call_65 : decode M_Mo_call.2.1 65 = .ok (.bipush 116, 2) := by decide +kernel
theorem d_Mo_call_67 : decode M_Mo_call.2.1 67 = .ok (.invokevirtual 63, 3) := by decide +kernel
theorem d_Mo_call_70 : decode M_Mo_call.2.1 70 = .ok (.aload_n 0, 1) := by decide +kernel
theorem d_Mo_call_71 : decode M_Mo_call.2.1 71 = .ok (.bipush 114, 2) := by decide +kernel
theorem d_Mo_call_73 : decode M_Mo_call.2.1 73 = .ok (.invokevirtual 63, 3) := by decide +kernel
theorem d_Mo_call_76 : decode M_Mo_call.2.1 76 = .ok (.aload_n 0, 1) := by decide +kernel
theorem d_Mo_call_77 : decode M_Mo_call.2.1 77 = .ok (.bipush 101, 2) := by decide +kernel
theorem d_Mo_call_79 : decode M_Mo_call.2.1 79 = .ok (.invokevirtual 63, 3) := by decide +kernel
theorem d_Mo_call_82 : decode M_Mo_call.2.1 82 = .ok (.aload_n 0, 1) := by decide +kernel
theorem d_Mo_call_83 : decode M_Mo_call.2.1 83 = .ok (.bipush 101, 2) := by decide +kernel
theorem d_Mo_call_85 : decode M_Mo_call.2.1 85 = .ok (.invokevirtual 63, 3) := by decide +kernel
theorem d_Mo_call_88 : decode M_Mo_call.2.1 88 = .ok (.goto 27, 3) := by decide +kernel
theorem d_Mo_call_91 : decode M_Mo_call.2.1 91 = .ok (.aload_n 0, 1) := by decide +kernel
theorem d_Mo_call_92 : decode M_Mo_call.2.1 92 = .ok (.bipush 98, 2) := by decide +kernel
theorem d_Mo_call_94 : decode M_Mo_call.2.1 94 = .ok (.invokevirtual 63, 3) := by decide +kernel
theorem d_Mo_call_97 : decode M_Mo_call.2.1 97 = .ok (.aload_n 0, 1) := by decide +kernel
theorem d_Mo_call_98 : decode M_Mo_call.2.1 98 = .ok (.bipush 108, 2) := by decide +kernel
theorem d_Mo_call_100 : decode M_Mo_call.2.1 100 = .ok (.invokevirtual 63, 3) := by decide +kernel
theorem d_Mo_call_103 : decode M_Mo_call.2.1 103 = .ok (.aload_n 0, 1) := by decide +kernel
theorem d_Mo_call_104 : decode M_Mo_call.2.1 104 = .ok (.bipush 111, 2) := by decide +kernel
theorem d_Mo_call_106 : decode M_Mo_call.2.1 106 = .ok (.invokevirtual 63, 3) := by decide +kernel
theorem d_Mo_call_109 : decode M_Mo_call.2.1 109 = .ok (.aload_n 0, 1) := by decide +kernel
theorem d_Mo_call_110 : decode M_Mo_call.2.1 110 = .ok (.bipush 98, 2) := by decide +kernel
theorem d_Mo_call_112 : decode M_Mo_call.2.1 112 = .ok (.invokevirtual 63, 3) := by decide +kernel
theorem d_Mo_call_115 : decode M_Mo_call.2.1 115 = .ok (.aload_n 0, 1) := by decide +kernel
theorem d_Mo_call_116 : decode M_Mo_call.2.1 116 = .ok (.bipush 32, 2) := by decide +kernel
theorem d_Mo_call_118 : decode M_Mo_call.2.1 118 = .ok (.invokevirtual 63, 3) := by decide +kernel
theorem d_Mo_call_121 : decode M_Mo_call.2.1 121 = .ok (.aload_n 0, 1) := by decide +kernel
theorem d_Mo_call_122 : decode M_Mo_call.2.1 122 = .ok (.aload_n 0, 1) := by decide +kernel
theorem d_Mo_call_123 : decode M_Mo_call.2.1 123 = .ok (.getfield 13, 3) := by decide +kernel
theorem d_Mo_call_126 : decode M_Mo_call.2.1 126 = .ok (.iload_n 1, 1) := by decide +kernel
theorem d_Mo_call_127 : decode M_Mo_call.2.1 127 = .ok (.iaload, 1) := by decide +kernel
theorem d_Mo_call_128 : decode M_Mo_call.2.1 128 = .ok (.invokevirtual 87, 3) := by decide +kernel
theorem d_Mo_call_131 : decode M_Mo_call.2.1 131 = .ok (.aload_n 0, 1) := by decide +kernel
theorem d_Mo_call_132 : decode M_Mo_call.2.1 132 = .ok (.iconst 0, 1) := by decide +kernel
theorem d_Mo_call_133 : decode M_Mo_call.2.1 133 = .ok (.invokevirtual 63, 3) := by decide +kernel
theorem d_Mo_call_136 : decode M_Mo_call.2.1 136 = .ok (.iconst 0, 1) := by decide +kernel
theorem d_Mo_call_137 : decode M_Mo_call.2.1 137 = .ok (.istore_n 2, 1) := by decide +kernel
theorem d_Mo_call_138 : decode M_Mo_call.2.1 138 = .ok (.iload_n 2, 1) := by decide +kernel
theorem d_Mo_call_139 : decode M_Mo_call.2.1 139 = .ok (.aload_n 0, 1) := by decide +kernel
theorem d_Mo_call_140 : decode M_Mo_call.2.1 140 = .ok (.getfield 13, 3) := by decide +kernel
theorem d_Mo_call_143 : decode M_Mo_call.2.1 143 = .ok (.iload_n 1, 1) := by decide +kernel
theorem d_Mo_call_144 : decode M_Mo_call.2.1 144 = .ok (.iaload, 1) := by decide +kernel
theorem d_Mo_call_145 : decode M_Mo_call.2.1 145 = .ok (.if_icmp .ge 24, 3) := by decide +kernel
theorem d_Mo_call_148 : decode M_Mo_call.2.1 148 = .ok (.aload_n 0, 1) := by decide +kernel
theorem d_Mo_call_149 : decode M_Mo_call.2.1 149 = .ok (.aload_n 0, 1) := by decide +kernel
theorem d_Mo_call_150 : decode M_Mo_call.2.1 150 = .ok (.getfield 16, 3) := by decide +kernel
theorem d_Mo_call_153 : decode M_Mo_call.2.1 153 = .ok (.bipush 120, 2) := by decide +kernel
theorem d_Mo_call_155 : decode M_Mo_call.2.1 155 = .ok (.iload_n 1, 1) := by decide +kernel
theorem d_Mo_call_156 : decode M_Mo_call.2.1 156 = .ok (.imul, 1) := by decide +kernel
theorem d_Mo_call_157 : decode M_Mo_call.2.1 157 = .ok (.iload_n 2, 1) := by decide +kernel
theorem d_Mo_call_158 : decode M_Mo_call.2.1 158 = .ok (.iadd, 1) := by decide +kernel
theorem d_Mo_call_159 : decode M_Mo_call.2.1 159 = .ok (.iaload, 1) := by decide +kernel
theorem d_Mo_call_160 : decode M_Mo_call.2.1 160 = .ok (.invokevirtual 63, 3) := by decide +kernel
theorem d_Mo_call_163 : decode M_Mo_call.2.1 163 = .ok (.iinc 2 1, 3) := by decide +kernel
theorem d_Mo_call_166 : decode M_Mo_call.2.1 166 = .ok (.goto (-28), 3) := by decide +kernel
theorem d_Mo_call_169 : decode M_Mo_call.2.1 169 = .ok (.aload_n 0, 1) := by decide +kernel
theorem d_Mo_call_170 : decode M_Mo_call.2.1 170 = .ok (.invokevirtual 90, 3) := by decide +kernel
theorem d_Mo_call_173 : decode M_Mo_call.2.1 173 = .ok (.iconst 0, 1) := by decide +kernel
theorem d_Mo_call_174 : decode M_Mo_call.2.1 174 = .ok (.istore_n 2, 1) := by decide +kernel
theorem d_Mo_call_175 : decode M_Mo_call.2.1 175 = .ok (.iload_n 2, 1) := by decide +kernel
theorem d_Mo_call_176 : decode M_Mo_call.2.1 176 = .ok (.iconst 5, 1) := by decide +kernel
theorem d_Mo_call_177 : decode M_Mo_call.2.1 177 = .ok (.if_icmp .ge 25, 3) := by decide +kernel
theorem d_Mo_call_180 : decode M_Mo_call.2.1 180 = .ok (.aload_n 0, 1) := by decide +kernel
theorem d_Mo_call_181 : decode M_Mo_call.2.1 181 = .ok (.getfield 19, 3) := by decide +kernel
theorem d_Mo_call_184 : decode M_Mo_call.2.1 184 = .ok (.iconst 5, 1) := by decide +kernel
theorem d_Mo_call_185 : decode M_Mo_call.2.1 185 = .ok (.iload_n 1, 1) := by decide +kernel
theorem d_Mo_call_186 : decode M_Mo_call.2.1 186 = .ok (.imul, 1) := by decide +kernel
theorem d_Mo_call_187 : decode M_Mo_call.2.1 187 = .ok (.iload_n 2, 1) := by decide +kernel
theorem d_Mo_call_188 : decode M_Mo_call.2.1 188 = .ok (.iadd, 1) := by decide +kernel
theorem d_Mo_call_189 : decode M_Mo_call.2.1 189 = .ok (.aload_n 0, 1) := by decide +kernel
theorem d_Mo_call_190 : decode M_Mo_call.2.1 190 = .ok (.getfield 47, 3) := by decide +kernel
theorem d_Mo_call_193 : decode M_Mo_call.2.1 193 = .ok (.iload_n 2, 1) := by decide +kernel
theorem d_Mo_call_194 : decode M_Mo_call.2.1 194 = .ok (.iaload, 1) := by decide +kernel
theorem d_Mo_call_195 : decode M_Mo_call.2.1 195 = .ok (.iastore, 1) := by decide +kernel
theorem d_Mo_call_196 : decode M_Mo_call.2.1 196 = .ok (.iinc 2 1, 3) := by decide +kernel
theorem d_Mo_call_199 : decode M_Mo_call.2.1 199 = .ok (.goto (-24), 3) := by decide +kernel
theorem d_Mo_call_202 : decode M_Mo_call.2.1 202 = .ok (.return_, 1) := by decide +kernel
def f_Mo_call (x0 : Nat) (x1 : Int32) (c : cM) (K : cM → Prop) : Prop :=
  kd x0 = 7 ∧ (∀ c2 : cM, c2 = c_up c x0 13 0 → (kd (rf x0 1) = 100 ∧ (vp_in x1 (ln (rf x0 1)) ∧ (∃ J22 : cM → Prop, (∀ (c21 : cM), J22 c21 → (f_Mo_put x0 32 c21 (fun c24 => kd (rf x0 2) = 100 ∧ (vp_in x1 (ln (rf x0 2)) ∧ (f_Mo_putDecimal x0 (c24 (rf x0 2) (Int32.toNatClampNeg x1)) c24 (fun c27 => f_Mo_put x0 0 c27 (fun c28 => ∃ I29 : Nat → Int32 → cM → Prop, (∃ n, I29 n 0 c28) ∧ ∀ (n30 : Nat) (y33 : Int32) (c34 : cM), I29 n30 y33 c34 → ((((c34 (rf x0 2) (Int32.toNatClampNeg x1)) ≤ y33) → (f_Mo_sum x0 c34 (fun c36 => ∃ I37 : Nat → Int32 → cM → Prop, (∃ n, I37 n 0 c36) ∧ ∀ (n38 : Nat) (y41 : Int32) (c42 : cM), I37 n38 y41 c42 → (((5 ≤ y41) → (K c42)) ∧ (¬ (5 ≤ y41) → (kd (rf x0 16) = 100 ∧ (vp_in y41 (ln (rf x0 16)) ∧ (kd (rf x0 4) = 100 ∧ (vp_in ((5 * x1) + y41) (ln (rf x0 4)) ∧ (∀ c48 : cM, c48 = c_up c42 (rf x0 4) (Int32.toNatClampNeg ((5 * x1) + y41)) (c42 (rf x0 16) (Int32.toNatClampNeg y41)) → (∃ m, m < n38 ∧ I37 m (y41 + 1) c48))))))))))) ∧ (¬ ((c34 (rf x0 2) (Int32.toNatClampNeg x1)) ≤ y33) → (kd (rf x0 3) = 100 ∧ (vp_in ((120 * x1) + y33) (ln (rf x0 3)) ∧ (f_Mo_put x0 (c34 (rf x0 3) (Int32.toNatClampNeg ((120 * x1) + y33))) c34 (fun c51 => ∃ m, m < n30 ∧ I29 m (y33 + 1) c51))))))))))))) ∧ (((¬ (c2 (rf x0 1) (Int32.toNatClampNeg x1)) = 1) → (((¬ (c2 (rf x0 1) (Int32.toNatClampNeg x1)) = 2) → (f_Mo_put x0 98 c2 (fun c53 => f_Mo_put x0 108 c53 (fun c54 => f_Mo_put x0 111 c54 (fun c55 => f_Mo_put x0 98 c55 (fun c56 => J22 c56)))))) ∧ ((c2 (rf x0 1) (Int32.toNatClampNeg x1)) = 2 → (f_Mo_put x0 116 c2 (fun c57 => f_Mo_put x0 114 c57 (fun c58 => f_Mo_put x0 101 c58 (fun c59 => f_Mo_put x0 101 c59 (fun c60 => J22 c60)))))))) ∧ ((c2 (rf x0 1) (Int32.toNatClampNeg x1)) = 1 → (f_Mo_put x0 99 c2 (fun c61 => f_Mo_put x0 111 c61 (fun c62 => f_Mo_put x0 109 c62 (fun c63 => f_Mo_put x0 109 c63 (fun c64 => f_Mo_put x0 105 c64 (fun c65 => f_Mo_put x0 116 c65 (fun c66 => J22 c66)))))))))))))
theorem c_Mo_call {x0 : Nat} {x1 : Int32} {c : cM} {K : cM → Prop} (h : f_Mo_call x0 x1 c K) : Ct M_Mo_call 3 0 0 (wd c) [.ref x0, .int x1] (PoV K) := by
  refine Ct.of (by decide +kernel) (Nat.le_of_ble_eq_true rfl) (fun Z T => ?_)
  have F := T.F
  unfold f_Mo_call at h
  show Z (wd c) 0 [(0, .ref x0), (1, .int x1)] [] 0 0
  refine g_aload_n F (pc := 0) d_Mo_call_0 0 rfl (g_iconst (v := 0) F (pc := 1) d_Mo_call_1 (by decide) ?_)
  obtain ⟨o1, h⟩ := h
  refine gc_putI F (pc := 2) d_Mo_call_2 pi_Mo_59 o1 ?_
  obtain ⟨c2, ec2⟩ : ∃ c2 : cM, c2 = c_up c x0 13 0 := ⟨_, rfl⟩
  rw [← ec2]
  replace h := h c2 ec2
  refine g_aload_n F (pc := 5) d_Mo_call_5 0 rfl (gc_getR F (pc := 6) d_Mo_call_6 fi_Mo_7 o1 (g_iload_n F (pc := 9) d_Mo_call_9 1 rfl ?_))
  obtain ⟨o3, h⟩ := h
  obtain ⟨o4, h⟩ := h
  refine gc_iald F (pc := 10) d_Mo_call_10 o3 o4 (g_iconst (v := 1) F (pc := 11) d_Mo_call_11 (by decide) ?_)
  obtain ⟨J22, hJ22, h⟩ := h
  have jn23 : ∀ (c21 : cM), J22 c21 → Z (wd c21) 115 [(0, .ref x0), (1, .int x1)] [] 0 0 := by
    intro c21 h
    replace h := hJ22 c21 h
    refine g_aload_n F (pc := 115) d_Mo_call_115 0 rfl (g_bipush (v := 32) F (pc := 116) d_Mo_call_116 (by decide) ?_)
    refine gc_callVV (As := [.int 32]) (st := []) F (pc := 118) d_Mo_call_118 cb_Mo_63 iv_Mo_put np_Mo_put o1 vc_7 (c_Mo_put h) rfl (by decide) (Nat.le_refl _) (Nat.le_refl _) (Nat.le_of_ble_eq_true rfl) (fun c24 h => ?_)
    refine g_aload_n F (pc := 121) d_Mo_call_121 0 rfl (g_aload_n F (pc := 122) d_Mo_call_122 0 rfl (gc_getR F (pc := 123) d_Mo_call_123 fi_Mo_13 o1 (g_iload_n F (pc := 126) d_Mo_call_126 1 rfl ?_)))
    obtain ⟨o25, h⟩ := h
    obtain ⟨o26, h⟩ := h
    refine gc_iald F (pc := 127) d_Mo_call_127 o25 o26 ?_
    refine gc_callVV (As := [.int (c24 (rf x0 2) (Int32.toNatClampNeg x1))]) (st := []) F (pc := 128) d_Mo_call_128 cb_Mo_87 iv_Mo_putDecimal np_Mo_putDecimal o1 vc_7 (c_Mo_putDecimal h) rfl (by decide) (Nat.le_refl _) (Nat.le_refl _) (Nat.le_of_ble_eq_true rfl) (fun c27 h => ?_)
    refine g_aload_n F (pc := 131) d_Mo_call_131 0 rfl (g_iconst (v := 0) F (pc := 132) d_Mo_call_132 (by decide) ?_)
    refine gc_callVV (As := [.int 0]) (st := []) F (pc := 133) d_Mo_call_133 cb_Mo_63 iv_Mo_put np_Mo_put o1 vc_7 (c_Mo_put h) rfl (by decide) (Nat.le_refl _) (Nat.le_refl _) (Nat.le_of_ble_eq_true rfl) (fun c28 h => ?_)
    refine g_iconst (v := 0) F (pc := 136) d_Mo_call_136 (by decide) (g_istore_n (lv' := [(2, .int 0), (0, .ref x0), (1, .int x1)]) F (pc := 137) d_Mo_call_137 (by decide) rfl ?_)
    refine g_lv (lv' := [(0, .ref x0), (1, .int x1), (2, .int 0)]) F [1, 2, 0] rfl ?_
    obtain ⟨I29, ⟨n0, h⟩, hI29⟩ := h
    have lp32 : ∀ (n30 : Nat) (y33 : Int32) (c34 : cM), I29 n30 y33 c34 → Z (wd c34) 138 [(0, .ref x0), (1, .int x1), (2, .int y33)] [] 0 0 := by
      intro n30
      induction n30 using Nat.strongRecOn with
      | _ n30 ih31 =>
        intro y33 c34 h
        replace h := hI29 n30 y33 c34 h
        refine g_iload_n F (pc := 138) d_Mo_call_138 2 rfl (g_aload_n F (pc := 139) d_Mo_call_139 0 rfl (gc_getR F (pc := 140) d_Mo_call_140 fi_Mo_13 o1 (g_iload_n F (pc := 143) d_Mo_call_143 1 rfl (gc_iald F (pc := 144) d_Mo_call_144 o25 o26 ?_))))
        refine g_icmp_ge (tgt := 169) F (pc := 145) d_Mo_call_145 (by decide) (fun b35 => ?_) (fun b35 => ?_)
        · replace h := h.1 b35
          refine g_aload_n F (pc := 169) d_Mo_call_169 0 rfl ?_
          refine gc_callVV (As := []) (st := []) F (pc := 170) d_Mo_call_170 cb_Mo_90 iv_Mo_sum np_Mo_sum o1 vc_7 (c_Mo_sum h) rfl (by decide) (Nat.le_refl _) (Nat.le_refl _) (Nat.le_of_ble_eq_true rfl) (fun c36 h => ?_)
          refine g_iconst (v := 0) F (pc := 173) d_Mo_call_173 (by decide) (g_istore_n (lv' := [(2, .int 0), (0, .ref x0), (1, .int x1)]) F (pc := 174) d_Mo_call_174 (by decide) rfl ?_)
          refine g_lv (lv' := [(0, .ref x0), (1, .int x1), (2, .int 0)]) F [1, 2, 0] rfl ?_
          obtain ⟨I37, ⟨n0, h⟩, hI37⟩ := h
          have lp40 : ∀ (n38 : Nat) (y41 : Int32) (c42 : cM), I37 n38 y41 c42 → Z (wd c42) 175 [(0, .ref x0), (1, .int x1), (2, .int y41)] [] 0 0 := by
            intro n38
            induction n38 using Nat.strongRecOn with
            | _ n38 ih39 =>
              intro y41 c42 h
              replace h := hI37 n38 y41 c42 h
              refine g_iload_n F (pc := 175) d_Mo_call_175 2 rfl (g_iconst (v := 5) F (pc := 176) d_Mo_call_176 (by decide) ?_)
              refine g_icmp_ge (tgt := 202) F (pc := 177) d_Mo_call_177 (by decide) (fun b43 => ?_) (fun b43 => ?_)
              · replace h := h.1 b43
                exact g_vret T (pc := 202) d_Mo_call_202 rfl (Nat.le_refl _) (Nat.le_refl _) (poV h)
              · replace h := h.2 b43
                refine g_aload_n F (pc := 180) d_Mo_call_180 0 rfl (gc_getR F (pc := 181) d_Mo_call_181 fi_Mo_19 o1 (g_iconst (v := 5) F (pc := 184) d_Mo_call_184 (by decide) (g_iload_n F (pc := 185) d_Mo_call_185 1 rfl (g_imul F (pc := 186) d_Mo_call_186 (g_iload_n F (pc := 187) d_Mo_call_187 2 rfl ?_)))))
                refine g_iadd F (pc := 188) d_Mo_call_188 (g_aload_n F (pc := 189) d_Mo_call_189 0 rfl (gc_getR F (pc := 190) d_Mo_call_190 fi_Mo_47 o1 (g_iload_n F (pc := 193) d_Mo_call_193 2 rfl ?_)))
                obtain ⟨o44, h⟩ := h
                obtain ⟨o45, h⟩ := h
                refine gc_iald F (pc := 194) d_Mo_call_194 o44 o45 ?_
                obtain ⟨o46, h⟩ := h
                obtain ⟨o47, h⟩ := h
                refine gc_iast F (pc := 195) d_Mo_call_195 o46 o47 ?_
                obtain ⟨c48, ec48⟩ : ∃ c48 : cM, c48 = c_up c42 (rf x0 4) (Int32.toNatClampNeg ((5 * x1) + y41)) (c42 (rf x0 16) (Int32.toNatClampNeg y41)) := ⟨_, rfl⟩
                rw [← ec48]
                replace h := h c48 ec48
                refine g_iinc (v := (y41 + 1)) (lv' := [(2, .int (y41 + 1)), (0, .ref x0), (1, .int x1)]) F (pc := 196) d_Mo_call_196 2 rfl (sk_inc (by decide)) (by decide) rfl (g_goto (tgt := 175) F (pc := 199) d_Mo_call_199 (by decide) ?_)
                refine g_lv (lv' := [(0, .ref x0), (1, .int x1), (2, .int (y41 + 1))]) F [1, 2, 0] rfl ?_
                obtain ⟨m, hm, h⟩ := h
                exact ih39 m hm _ _ h
          exact lp40 n0 _ _ h
        · replace h := h.2 b35
          refine g_aload_n F (pc := 148) d_Mo_call_148 0 rfl (g_aload_n F (pc := 149) d_Mo_call_149 0 rfl (gc_getR F (pc := 150) d_Mo_call_150 fi_Mo_16 o1 (g_bipush (v := 120) F (pc := 153) d_Mo_call_153 (by decide) (g_iload_n F (pc := 155) d_Mo_call_155 1 rfl (g_imul F (pc := 156) d_Mo_call_156 ?_)))))
          refine g_iload_n F (pc := 157) d_Mo_call_157 2 rfl (g_iadd F (pc := 158) d_Mo_call_158 ?_)
          obtain ⟨o49, h⟩ := h
          obtain ⟨o50, h⟩ := h
          refine gc_iald F (pc := 159) d_Mo_call_159 o49 o50 ?_
          refine gc_callVV (As := [.int (c34 (rf x0 3) (Int32.toNatClampNeg ((120 * x1) + y33)))]) (st := []) F (pc := 160) d_Mo_call_160 cb_Mo_63 iv_Mo_put np_Mo_put o1 vc_7 (c_Mo_put h) rfl (by decide) (Nat.le_refl _) (Nat.le_refl _) (Nat.le_of_ble_eq_true rfl) (fun c51 h => ?_)
          refine g_iinc (v := (y33 + 1)) (lv' := [(2, .int (y33 + 1)), (0, .ref x0), (1, .int x1)]) F (pc := 163) d_Mo_call_163 2 rfl (sk_inc (by decide)) (by decide) rfl (g_goto (tgt := 138) F (pc := 166) d_Mo_call_166 (by decide) ?_)
          refine g_lv (lv' := [(0, .ref x0), (1, .int x1), (2, .int (y33 + 1))]) F [1, 2, 0] rfl ?_
          obtain ⟨m, hm, h⟩ := h
          exact ih31 m hm _ _ h
    exact lp32 n0 _ _ h
  refine g_icmp_ne (tgt := 54) F (pc := 12) d_Mo_call_12 (by decide) (fun b5 => ?_) (fun b5 => ?_)
  · replace h := h.1 b5
    refine g_aload_n F (pc := 54) d_Mo_call_54 0 rfl (gc_getR F (pc := 55) d_Mo_call_55 fi_Mo_7 o1 (g_iload_n F (pc := 58) d_Mo_call_58 1 rfl (gc_iald F (pc := 59) d_Mo_call_59 o3 o4 (g_iconst (v := 2) F (pc := 60) d_Mo_call_60 (by decide) ?_))))
    refine g_icmp_ne (tgt := 91) F (pc := 61) d_Mo_call_61 (by decide) (fun b52 => ?_) (fun b52 => ?_)
    · replace h := h.1 b52
      refine g_aload_n F (pc := 91) d_Mo_call_91 0 rfl (g_bipush (v := 98) F (pc := 92) d_Mo_call_92 (by decide) ?_)
      refine gc_callVV (As := [.int 98]) (st := []) F (pc := 94) d_Mo_call_94 cb_Mo_63 iv_Mo_put np_Mo_put o1 vc_7 (c_Mo_put h) rfl (by decide) (Nat.le_refl _) (Nat.le_refl _) (Nat.le_of_ble_eq_true rfl) (fun c53 h => ?_)
      refine g_aload_n F (pc := 97) d_Mo_call_97 0 rfl (g_bipush (v := 108) F (pc := 98) d_Mo_call_98 (by decide) ?_)
      refine gc_callVV (As := [.int 108]) (st := []) F (pc := 100) d_Mo_call_100 cb_Mo_63 iv_Mo_put np_Mo_put o1 vc_7 (c_Mo_put h) rfl (by decide) (Nat.le_refl _) (Nat.le_refl _) (Nat.le_of_ble_eq_true rfl) (fun c54 h => ?_)
      refine g_aload_n F (pc := 103) d_Mo_call_103 0 rfl (g_bipush (v := 111) F (pc := 104) d_Mo_call_104 (by decide) ?_)
      refine gc_callVV (As := [.int 111]) (st := []) F (pc := 106) d_Mo_call_106 cb_Mo_63 iv_Mo_put np_Mo_put o1 vc_7 (c_Mo_put h) rfl (by decide) (Nat.le_refl _) (Nat.le_refl _) (Nat.le_of_ble_eq_true rfl) (fun c55 h => ?_)
      refine g_aload_n F (pc := 109) d_Mo_call_109 0 rfl (g_bipush (v := 98) F (pc := 110) d_Mo_call_110 (by decide) ?_)
      refine gc_callVV (As := [.int 98]) (st := []) F (pc := 112) d_Mo_call_112 cb_Mo_63 iv_Mo_put np_Mo_put o1 vc_7 (c_Mo_put h) rfl (by decide) (Nat.le_refl _) (Nat.le_refl _) (Nat.le_of_ble_eq_true rfl) (fun c56 h => ?_)
      exact jn23 _ h
    · replace h := h.2 b52
      refine g_aload_n F (pc := 64) d_Mo_call_64 0 rfl (g_bipush (v := 116) F (pc := 65) d_Mo_call_65 (by decide) ?_)
      refine gc_callVV (As := [.int 116]) (st := []) F (pc := 67) d_Mo_call_67 cb_Mo_63 iv_Mo_put np_Mo_put o1 vc_7 (c_Mo_put h) rfl (by decide) (Nat.le_refl _) (Nat.le_refl _) (Nat.le_of_ble_eq_true rfl) (fun c57 h => ?_)
      refine g_aload_n F (pc := 70) d_Mo_call_70 0 rfl (g_bipush (v := 114) F (pc := 71) d_Mo_call_71 (by decide) ?_)
      refine gc_callVV (As := [.int 114]) (st := []) F (pc := 73) d_Mo_call_73 cb_Mo_63 iv_Mo_put np_Mo_put o1 vc_7 (c_Mo_put h) rfl (by decide) (Nat.le_refl _) (Nat.le_refl _) (Nat.le_of_ble_eq_true rfl) (fun c58 h => ?_)
      refine g_aload_n F (pc := 76) d_Mo_call_76 0 rfl (g_bipush (v := 101) F (pc := 77) d_Mo_call_77 (by decide) ?_)
      refine gc_callVV (As := [.int 101]) (st := []) F (pc := 79) d_Mo_call_79 cb_Mo_63 iv_Mo_put np_Mo_put o1 vc_7 (c_Mo_put h) rfl (by decide) (Nat.le_refl _) (Nat.le_refl _) (Nat.le_of_ble_eq_true rfl) (fun c59 h => ?_)
      refine g_aload_n F (pc := 82) d_Mo_call_82 0 rfl (g_bipush (v := 101) F (pc := 83) d_Mo_call_83 (by decide) ?_)
      refine gc_callVV (As := [.int 101]) (st := []) F (pc := 85) d_Mo_call_85 cb_Mo_63 iv_Mo_put np_Mo_put o1 vc_7 (c_Mo_put h) rfl (by decide) (Nat.le_refl _) (Nat.le_refl _) (Nat.le_of_ble_eq_true rfl) (fun c60 h => ?_)
      refine g_goto (tgt := 115) F (pc := 88) d_Mo_call_88 (by decide) ?_
      exact jn23 _ h
  · replace h := h.2 b5
    refine g_aload_n F (pc := 15) d_Mo_call_15 0 rfl (g_bipush (v := 99) F (pc := 16) d_Mo_call_16 (by decide) ?_)
    refine gc_callVV (As := [.int 99]) (st := []) F (pc := 18) d_Mo_call_18 cb_Mo_63 iv_Mo_put np_Mo_put o1 vc_7 (c_Mo_put h) rfl (by decide) (Nat.le_refl _) (Nat.le_refl _) (Nat.le_of_ble_eq_true rfl) (fun c61 h => ?_)
    refine g_aload_n F (pc := 21) d_Mo_call_21 0 rfl (g_bipush (v := 111) F (pc := 22) d_Mo_call_22 (by decide) ?_)
    refine gc_callVV (As := [.int 111]) (st := []) F (pc := 24) d_Mo_call_24 cb_Mo_63 iv_Mo_put np_Mo_put o1 vc_7 (c_Mo_put h) rfl (by decide) (Nat.le_refl _) (Nat.le_refl _) (Nat.le_of_ble_eq_true rfl) (fun c62 h => ?_)
    refine g_aload_n F (pc := 27) d_Mo_call_27 0 rfl (g_bipush (v := 109) F (pc := 28) d_Mo_call_28 (by decide) ?_)
    refine gc_callVV (As := [.int 109]) (st := []) F (pc := 30) d_Mo_call_30 cb_Mo_63 iv_Mo_put np_Mo_put o1 vc_7 (c_Mo_put h) rfl (by decide) (Nat.le_refl _) (Nat.le_refl _) (Nat.le_of_ble_eq_true rfl) (fun c63 h => ?_)
    refine g_aload_n F (pc := 33) d_Mo_call_33 0 rfl (g_bipush (v := 109) F (pc := 34) d_Mo_call_34 (by decide) ?_)
    refine gc_callVV (As := [.int 109]) (st := []) F (pc := 36) d_Mo_call_36 cb_Mo_63 iv_Mo_put np_Mo_put o1 vc_7 (c_Mo_put h) rfl (by decide) (Nat.le_refl _) (Nat.le_refl _) (Nat.le_of_ble_eq_true rfl) (fun c64 h => ?_)
    refine g_aload_n F (pc := 39) d_Mo_call_39 0 rfl (g_bipush (v := 105) F (pc := 40) d_Mo_call_40 (by decide) ?_)
    refine gc_callVV (As := [.int 105]) (st := []) F (pc := 42) d_Mo_call_42 cb_Mo_63 iv_Mo_put np_Mo_put o1 vc_7 (c_Mo_put h) rfl (by decide) (Nat.le_refl _) (Nat.le_refl _) (Nat.le_of_ble_eq_true rfl) (fun c65 h => ?_)
    refine g_aload_n F (pc := 45) d_Mo_call_45 0 rfl (g_bipush (v := 116) F (pc := 46) d_Mo_call_46 (by decide) ?_)
    refine gc_callVV (As := [.int 116]) (st := []) F (pc := 48) d_Mo_call_48 cb_Mo_63 iv_Mo_put np_Mo_put o1 vc_7 (c_Mo_put h) rfl (by decide) (Nat.le_refl _) (Nat.le_refl _) (Nat.le_of_ble_eq_true rfl) (fun c66 h => ?_)
    refine g_goto (tgt := 115) F (pc := 51) d_Mo_call_51 (by decide) ?_
    exact jn23 _ h
theorem d_Mo_nameByte_0 : decode M_Mo_nameByte.2.1 0 = .ok (.aload_n 0, 1) := by decide +kernel
theorem d_Mo_nameByte_1 : decode M_Mo_nameByte.2.1 1 = .ok (.getfield 19, 3) := by decide +kernel
theorem d_Mo_nameByte_4 : decode M_Mo_nameByte.2.1 4 = .ok (.iconst 5, 1) := by decide +kernel
theorem d_Mo_nameByte_5 : decode M_Mo_nameByte.2.1 5 = .ok (.iload_n 1, 1) := by decide +kernel
theorem d_Mo_nameByte_6 : decode M_Mo_nameByte.2.1 6 = .ok (.imul, 1) := by decide +kernel
theorem d_Mo_nameByte_7 : decode M_Mo_nameByte.2.1 7 = .ok (.iload_n 2, 1) := by decide +kernel
theorem d_Mo_nameByte_8 : decode M_Mo_nameByte.2.1 8 = .ok (.iconst 4, 1) := by decide +kernel
theorem d_Mo_nameByte_9 : decode M_Mo_nameByte.2.1 9 = .ok (.idiv, 1) := by decide +kernel
theorem d_Mo_nameByte_10 : decode M_Mo_nameByte.2.1 10 = .ok (.iadd, 1) := by decide +kernel
theorem d_Mo_nameByte_11 : decode M_Mo_nameByte.2.1 11 = .ok (.iaload, 1) := by decide +kernel
theorem d_Mo_nameByte_12 : decode M_Mo_nameByte.2.1 12 = .ok (.bipush 24, 2) := by decide +kernel
theorem d_Mo_nameByte_14 : decode M_Mo_nameByte.2.1 14 = .ok (.bipush 8, 2) := by decide +kernel
theorem d_Mo_nameByte_16 : decode M_Mo_nameByte.2.1 16 = .ok (.iload_n 2, 1) := by decide +kernel
theorem d_Mo_nameByte_17 : decode M_Mo_nameByte.2.1 17 = .ok (.iconst 4, 1) := by decide +kernel
theorem d_Mo_nameByte_18 : decode M_Mo_nameByte.2.1 18 = .ok (.irem, 1) := by decide +kernel
theorem d_Mo_nameByte_19 : decode M_Mo_nameByte.2.1 19 = .ok (.imul, 1) := by decide +kernel
theorem d_Mo_nameByte_20 : decode M_Mo_nameByte.2.1 20 = .ok (.isub, 1) := by decide +kernel
theorem d_Mo_nameByte_21 : decode M_Mo_nameByte.2.1 21 = .ok (.iushr, 1) := by decide +kernel
theorem d_Mo_nameByte_22 : decode M_Mo_nameByte.2.1 22 = .ok (.sipush 255, 3) := by decide +kernel
theorem d_Mo_nameByte_25 : decode M_Mo_nameByte.2.1 25 = .ok (.iand, 1) := by decide +kernel
theorem d_Mo_nameByte_26 : decode M_Mo_nameByte.2.1 26 = .ok (.ireturn, 1) := by decide +kernel
def f_Mo_nameByte (x0 : Nat) (x1 : Int32) (x2 : Int32) (c : cM) (K : Int32 → cM → Prop) : Prop :=
  kd x0 = 7 ∧ (kd (rf x0 4) = 100 ∧ (vp_in ((5 * x1) + (x2 / 4)) (ln (rf x0 4)) ∧ (K ((c_ushr (c (rf x0 4) (Int32.toNatClampNeg ((5 * x1) + (x2 / 4)))) (24 - (8 * (c_rem x2 4)))) &&& 255) c)))
theorem c_Mo_nameByte {x0 : Nat} {x1 : Int32} {x2 : Int32} {c : cM} {K : Int32 → cM → Prop} (h : f_Mo_nameByte x0 x1 x2 c K) : Ct M_Mo_nameByte 0 0 0 (wd c) [.ref x0, .int x1, .int x2] (PoI K) := by
  refine Ct.of (by decide +kernel) (Nat.le_of_ble_eq_true rfl) (fun Z T => ?_)
  have F := T.F
  unfold f_Mo_nameByte at h
  show Z (wd c) 0 [(0, .ref x0), (1, .int x1), (2, .int x2)] [] 0 0
  refine g_aload_n F (pc := 0) d_Mo_nameByte_0 0 rfl ?_
  obtain ⟨o1, h⟩ := h
  refine gc_getR F (pc := 1) d_Mo_nameByte_1 fi_Mo_19 o1 (g_iconst (v := 5) F (pc := 4) d_Mo_nameByte_4 (by decide) (g_iload_n F (pc := 5) d_Mo_nameByte_5 1 rfl (g_imul F (pc := 6) d_Mo_nameByte_6 (g_iload_n F (pc := 7) d_Mo_nameByte_7 2 rfl (g_iconst (v := 4) F (pc := 8) d_Mo_nameByte_8 (by decide) ?_)))))
  refine g_idiv F (pc := 9) d_Mo_nameByte_9 (by decide) (g_iadd F (pc := 10) d_Mo_nameByte_10 ?_)
  obtain ⟨o2, h⟩ := h
  obtain ⟨o3, h⟩ := h
  refine gc_iald F (pc := 11) d_Mo_nameByte_11 o2 o3 (g_bipush (v := 24) F (pc := 12) d_Mo_nameByte_12 (by decide) (g_bipush (v := 8) F (pc := 14) d_Mo_nameByte_14 (by decide) (g_iload_n F (pc := 16) d_Mo_nameByte_16 2 rfl (g_iconst (v := 4) F (pc := 17) d_Mo_nameByte_17 (by decide) (g_irem F (pc := 18) d_Mo_nameByte_18 (by decide) ?_)))))
  refine g_imul F (pc := 19) d_Mo_nameByte_19 (g_isub F (pc := 20) d_Mo_nameByte_20 (g_iushr F (pc := 21) d_Mo_nameByte_21 (g_sipush (v := 255) F (pc := 22) d_Mo_nameByte_22 (by decide) (g_iand F (pc := 25) d_Mo_nameByte_25 ?_))))
  exact g_iret T (pc := 26) d_Mo_nameByte_26 rfl (Nat.le_refl _) (Nat.le_refl _) (poI h)
theorem d_Mo_copy_0 : decode M_Mo_copy.2.1 0 = .ok (.aload_n 0, 1) := by decide +kernel
theorem d_Mo_copy_1 : decode M_Mo_copy.2.1 1 = .ok (.getfield 7, 3) := by decide +kernel
theorem d_Mo_copy_4 : decode M_Mo_copy.2.1 4 = .ok (.iload_n 2, 1) := by decide +kernel
theorem d_Mo_copy_5 : decode M_Mo_copy.2.1 5 = .ok (.aload_n 0, 1) := by decide +kernel
theorem d_Mo_copy_6 : decode M_Mo_copy.2.1 6 = .ok (.getfield 7, 3) := by decide +kernel
theorem d_Mo_copy_9 : decode M_Mo_copy.2.1 9 = .ok (.iload_n 1, 1) := by decide +kernel
theorem d_Mo_copy_10 : decode M_Mo_copy.2.1 10 = .ok (.iaload, 1) := by decide +kernel
theorem d_Mo_copy_11 : decode M_Mo_copy.2.1 11 = .ok (.iastore, 1) := by decide +kernel
theorem d_Mo_copy_12 : decode M_Mo_copy.2.1 12 = .ok (.aload_n 0, 1) := by decide +kernel
theorem d_Mo_copy_13 : decode M_Mo_copy.2.1 13 = .ok (.getfield 13, 3) := by decide +kernel
theorem d_Mo_copy_16 : decode M_Mo_copy.2.1 16 = .ok (.iload_n 2, 1) := by decide +kernel
theorem d_Mo_copy_17 : decode M_Mo_copy.2.1 17 = .ok (.aload_n 0, 1) := by decide +kernel
theorem d_Mo_copy_18 : decode M_Mo_copy.2.1 18 = .ok (.getfield 13, 3) := by decide +kernel
theorem d_Mo_copy_21 : decode M_Mo_copy.2.1 21 = .ok (.iload_n 1, 1) := by decide +kernel
theorem d_Mo_copy_22 : decode M_Mo_copy.2.1 22 = .ok (.iaload, 1) := by decide +kernel
theorem d_Mo_copy_23 : decode M_Mo_copy.2.1 23 = .ok (.iastore, 1) := by decide +kernel
theorem d_Mo_copy_24 : decode M_Mo_copy.2.1 24 = .ok (.iconst 0, 1) := by decide +kernel
theorem d_Mo_copy_25 : decode M_Mo_copy.2.1 25 = .ok (.istore_n 3, 1) := by decide +kernel
theorem d_Mo_copy_26 : decode M_Mo_copy.2.1 26 = .ok (.iload_n 3, 1) := by decide +kernel
theorem d_Mo_copy_27 : decode M_Mo_copy.2.1 27 = .ok (.bipush 120, 2) := by decide +kernel
theorem d_Mo_copy_29 : decode M_Mo_copy.2.1 29 = .ok (.if_icmp .ge 31, 3) := by decide +kernel
theorem d_Mo_copy_32 : decode M_Mo_copy.2.1 32 = .ok (.aload_n 0, 1) := by decide +kernel
theorem d_Mo_copy_33 : decode M_Mo_copy.2.1 33 = .ok (.getfield 16, 3) := by decide +kernel
theorem d_Mo_copy_36 : decode M_Mo_copy.2.1 36 = .ok (.bipush 120, 2) := by decide +kernel
theorem d_Mo_copy_38 : decode M_Mo_copy.2.1 38 = .ok (.iload_n 2, 1) := by decide +kernel
theorem d_Mo_copy_39 : decode M_Mo_copy.2.1 39 = .ok (.imul, 1) := by decide +kernel
theorem d_Mo_copy_40 : decode M_Mo_copy.2.1 40 = .ok (.iload_n 3, 1) := by decide +kernel
theorem d_Mo_copy_41 : decode M_Mo_copy.2.1 41 = .ok (.iadd, 1) := by decide +kernel
theorem d_Mo_copy_42 : decode M_Mo_copy.2.1 42 = .ok (.aload_n 0, 1) := by decide +kernel
theorem d_Mo_copy_43 : decode M_Mo_copy.2.1 43 = .ok (.getfield 16, 3) := by decide +kernel
theorem d_Mo_copy_46 : decode M_Mo_copy.2.1 46 = .ok (.bipush 120, 2) := by decide +kernel
theorem d_Mo_copy_48 : decode M_Mo_copy.2.1 48 = .ok (.iload_n 1, 1) := by decide +kernel
theorem d_Mo_copy_49 : decode M_Mo_copy.2.1 49 = .ok (.imul, 1) := by decide +kernel
theorem d_Mo_copy_50 : decode M_Mo_copy.2.1 50 = .ok (.iload_n 3, 1) := by decide +kernel
theorem d_Mo_copy_51 : decode M_Mo_copy.2.1 51 = .ok (.iadd, 1) := by decide +kernel
theorem d_Mo_copy_52 : decode M_Mo_copy.2.1 52 = .ok (.iaload, 1) := by decide +kernel
theorem d_Mo_copy_53 : decode M_Mo_copy.2.1 53 = .ok (.iastore, 1) := by decide +kernel
theorem d_Mo_copy_54 : decode M_Mo_copy.2.1 54 = .ok (.iinc 3 1, 3) := by decide +kernel
theorem d_Mo_copy_57 : decode M_Mo_copy.2.1 57 = .ok (.goto (-31), 3) := by decide +kernel
theorem d_Mo_copy_60 : decode M_Mo_copy.2.1 60 = .ok (.iconst 0, 1) := by decide +kernel
theorem d_Mo_copy_61 : decode M_Mo_copy.2.1 61 = .ok (.istore_n 3, 1) := by decide +kernel
theorem d_Mo_copy_62 : decode M_Mo_copy.2.1 62 = .ok (.iload_n 3, 1) := by decide +kernel
theorem d_Mo_copy_63 : decode M_Mo_copy.2.1 63 = .ok (.iconst 5, 1) := by decide +kernel
theorem d_Mo_copy_64 : decode M_Mo_copy.2.1 64 = .ok (.if_icmp .ge 29, 3) := by decide +kernel
theorem d_Mo_copy_67 : decode M_Mo_copy.2.1 67 = .ok (.aload_n 0, 1) := by decide +kernel
theorem d_Mo_copy_68 : decode M_Mo_copy.2.1 68 = .ok (.getfield 19, 3) := by decide +kernel
theorem d_Mo_copy_71 : decode M_Mo_copy.2.1 71 = .ok (.iconst 5, 1) := by decide +kernel
theorem d_Mo_copy_72 : decode M_Mo_copy.2.1 72 = .ok (.iload_n 2, 1) := by decide +kernel
theorem d_Mo_copy_73 : decode M_Mo_copy.2.1 73 = .ok (.imul, 1) := by decide +kernel
theorem d_Mo_copy_74 : decode M_Mo_copy.2.1 74 = .ok (.iload_n 3, 1) := by decide +kernel
theorem d_Mo_copy_75 : decode M_Mo_copy.2.1 75 = .ok (.iadd, 1) := by decide +kernel
theorem d_Mo_copy_76 : decode M_Mo_copy.2.1 76 = .ok (.aload_n 0, 1) := by decide +kernel
theorem d_Mo_copy_77 : decode M_Mo_copy.2.1 77 = .ok (.getfield 19, 3) := by decide +kernel
theorem d_Mo_copy_80 : decode M_Mo_copy.2.1 80 = .ok (.iconst 5, 1) := by decide +kernel
theorem d_Mo_copy_81 : decode M_Mo_copy.2.1 81 = .ok (.iload_n 1, 1) := by decide +kernel
theorem d_Mo_copy_82 : decode M_Mo_copy.2.1 82 = .ok (.imul, 1) := by decide +kernel
theorem d_Mo_copy_83 : decode M_Mo_copy.2.1 83 = .ok (.iload_n 3, 1) := by decide +kernel
theorem d_Mo_copy_84 : decode M_Mo_copy.2.1 84 = .ok (.iadd, 1) := by decide +kernel
theorem d_Mo_copy_85 : decode M_Mo_copy.2.1 85 = .ok (.iaload, 1) := by decide +kernel
theorem d_Mo_copy_86 : decode M_Mo_copy.2.1 86 = .ok (.iastore, 1) := by decide +kernel
theorem d_Mo_copy_87 : decode M_Mo_copy.2.1 87 = .ok (.iinc 3 1, 3) := by decide +kernel
theorem d_Mo_copy_90 : decode M_Mo_copy.2.1 90 = .ok (.goto (-28), 3) := by decide +kernel
theorem d_Mo_copy_93 : decode M_Mo_copy.2.1 93 = .ok (.return_, 1) := by decide +kernel
def f_Mo_copy (x0 : Nat) (x1 : Int32) (x2 : Int32) (c : cM) (K : cM → Prop) : Prop :=
  kd x0 = 7 ∧ (kd (rf x0 1) = 100 ∧ (vp_in x1 (ln (rf x0 1)) ∧ (vp_in x2 (ln (rf x0 1)) ∧ (∀ c5 : cM, c5 = c_up c (rf x0 1) (Int32.toNatClampNeg x2) (c (rf x0 1) (Int32.toNatClampNeg x1)) → (kd (rf x0 2) = 100 ∧ (vp_in x1 (ln (rf x0 2)) ∧ (vp_in x2 (ln (rf x0 2)) ∧ (∀ c9 : cM, c9 = c_up c5 (rf x0 2) (Int32.toNatClampNeg x2) (c5 (rf x0 2) (Int32.toNatClampNeg x1)) → (∃ I10 : Nat → Int32 → cM → Prop, (∃ n, I10 n 0 c9) ∧ ∀ (n11 : Nat) (y14 : Int32) (c15 : cM), I10 n11 y14 c15 → (((120 ≤ y14) → (∃ I17 : Nat → Int32 → cM → Prop, (∃ n, I17 n 0 c15) ∧ ∀ (n18 : Nat) (y21 : Int32) (c22 : cM), I17 n18 y21 c22 → (((5 ≤ y21) → (K c22)) ∧ (¬ (5 ≤ y21) → (kd (rf x0 4) = 100 ∧ (vp_in ((5 * x1) + y21) (ln (rf x0 4)) ∧ (vp_in ((5 * x2) + y21) (ln (rf x0 4)) ∧ (∀ c27 : cM, c27 = c_up c22 (rf x0 4) (Int32.toNatClampNeg ((5 * x2) + y21)) (c22 (rf x0 4) (Int32.toNatClampNeg ((5 * x1) + y21))) → (∃ m, m < n18 ∧ I17 m (y21 + 1) c27))))))))) ∧ (¬ (120 ≤ y14) → (kd (rf x0 3) = 100 ∧ (vp_in ((120 * x1) + y14) (ln (rf x0 3)) ∧ (vp_in ((120 * x2) + y14) (ln (rf x0 3)) ∧ (∀ c31 : cM, c31 = c_up c15 (rf x0 3) (Int32.toNatClampNeg ((120 * x2) + y14)) (c15 (rf x0 3) (Int32.toNatClampNeg ((120 * x1) + y14))) → (∃ m, m < n11 ∧ I10 m (y14 + 1) c31))))))))))))))))
theorem c_Mo_copy {x0 : Nat} {x1 : Int32} {x2 : Int32} {c : cM} {K : cM → Prop} (h : f_Mo_copy x0 x1 x2 c K) : Ct M_Mo_copy 0 0 0 (wd c) [.ref x0, .int x1, .int x2] (PoV K) := by
  refine Ct.of (by decide +kernel) (Nat.le_of_ble_eq_true rfl) (fun Z T => ?_)
  have F := T.F
  unfold f_Mo_copy at h
  show Z (wd c) 0 [(0, .ref x0), (1, .int x1), (2, .int x2)] [] 0 0
  refine g_aload_n F (pc := 0) d_Mo_copy_0 0 rfl ?_
  obtain ⟨o1, h⟩ := h
  refine gc_getR F (pc := 1) d_Mo_copy_1 fi_Mo_7 o1 (g_iload_n F (pc := 4) d_Mo_copy_4 2 rfl (g_aload_n F (pc := 5) d_Mo_copy_5 0 rfl (gc_getR F (pc := 6) d_Mo_copy_6 fi_Mo_7 o1 (g_iload_n F (pc := 9) d_Mo_copy_9 1 rfl ?_))))
  obtain ⟨o2, h⟩ := h
  obtain ⟨o3, h⟩ := h
  refine gc_iald F (pc := 10) d_Mo_copy_10 o2 o3 ?_
  obtain ⟨o4, h⟩ := h
  refine gc_iast F (pc := 11) d_Mo_copy_11 o2 o4 ?_
  obtain ⟨c5, ec5⟩ : ∃ c5 : cM, c5 = c_up c (rf x0 1) (Int32.toNatClampNeg x2) (c (rf x0 1) (Int32.toNatClampNeg x1)) := ⟨_, rfl⟩
  rw [← ec5]
  replace h := h c5 ec5
  refine g_aload_n F (pc := 12) d_Mo_copy_12 0 rfl (gc_getR F (pc := 13) d_Mo_copy_13 fi_Mo_13 o1 (g_iload_n F (pc := 16) d_Mo_copy_16 2 rfl (g_aload_n F (pc := 17) d_Mo_copy_17 0 rfl (gc_getR F (pc := 18) d_Mo_copy_18 fi_Mo_13 o1 (g_iload_n F (pc := 21) d_Mo_copy_21 1 rfl ?_)))))
  obtain ⟨o6, h⟩ := h
  obtain ⟨o7, h⟩ := h
  refine gc_iald F (pc := 22) d_Mo_copy_22 o6 o7 ?_
  obtain ⟨o8, h⟩ := h
  refine gc_iast F (pc := 23) d_Mo_copy_23 o6 o8 ?_
  obtain ⟨c9, ec9⟩ : ∃ c9 : cM, c9 = c_up c5 (rf x0 2) (Int32.toNatClampNeg x2) (c5 (rf x0 2) (Int32.toNatClampNeg x1)) := ⟨_, rfl⟩
  rw [← ec9]
  replace h := h c9 ec9
  refine g_iconst (v := 0) F (pc := 24) d_Mo_copy_24 (by decide) (g_istore_n (lv' := [(3, .int 0), (0, .ref x0), (1, .int x1), (2, .int x2)]) F (pc := 25) d_Mo_copy_25 (by decide) rfl ?_)
  refine g_lv (lv' := [(0, .ref x0), (1, .int x1), (2, .int x2), (3, .int 0)]) F [1, 2, 3, 0] rfl ?_
  obtain ⟨I10, ⟨n0, h⟩, hI10⟩ := h
  have lp13 : ∀ (n11 : Nat) (y14 : Int32) (c15 : cM), I10 n11 y14 c15 → Z (wd c15) 26 [(0, .ref x0), (1, .int x1), (2, .int x2), (3, .int y14)] [] 0 0 := by
    intro n11
    induction n11 using Nat.strongRecOn with
    | _ n11 ih12 =>
      intro y14 c15 h
      replace h := hI10 n11 y14 c15 h
      refine g_iload_n F (pc := 26) d_Mo_copy_26 3 rfl (g_bipush (v := 120) F (pc := 27) d_Mo_copy_27 (by decide) ?_)
      refine g_icmp_ge (tgt := 60) F (pc := 29) d_Mo_copy_29 (by decide) (fun b16 => ?_) (fun b16 => ?_)
      · replace h := h.1 b16
        refine g_iconst (v := 0) F (pc := 60) d_Mo_copy_60 (by decide) (g_istore_n (lv' := [(3, .int 0), (0, .ref x0), (1, .int x1), (2, .int x2)]) F (pc := 61) d_Mo_copy_61 (by decide) rfl ?_)
        refine g_lv (lv' := [(0, .ref x0), (1, .int x1), (2, .int x2), (3, .int 0)]) F [1, 2, 3, 0] rfl ?_
        obtain ⟨I17, ⟨n0, h⟩, hI17⟩ := h
        have lp20 : ∀ (n18 : Nat) (y21 : Int32) (c22 : cM), I17 n18 y21 c22 → Z (wd c22) 62 [(0, .ref x0), (1, .int x1), (2, .int x2), (3, .int y21)] [] 0 0 := by
          intro n18
          induction n18 using Nat.strongRecOn with
          | _ n18 ih19 =>
            intro y21 c22 h
            replace h := hI17 n18 y21 c22 h
            refine g_iload_n F (pc := 62) d_Mo_copy_62 3 rfl (g_iconst (v := 5) F (pc := 63) d_Mo_copy_63 (by decide) ?_)
            refine g_icmp_ge (tgt := 93) F (pc := 64) d_Mo_copy_64 (by decide) (fun b23 => ?_) (fun b23 => ?_)
            · replace h := h.1 b23
              exact g_vret T (pc := 93) d_Mo_copy_93 rfl (Nat.le_refl _) (Nat.le_refl _) (poV h)
            · replace h := h.2 b23
              refine g_aload_n F (pc := 67) d_Mo_copy_67 0 rfl (gc_getR F (pc := 68) d_Mo_copy_68 fi_Mo_19 o1 (g_iconst (v := 5) F (pc := 71) d_Mo_copy_71 (by decide) (g_iload_n F (pc := 72) d_Mo_copy_72 2 rfl (g_imul F (pc := 73) d_Mo_copy_73 (g_iload_n F (pc := 74) d_Mo_copy_74 3 rfl ?_)))))
              refine g_iadd F (pc := 75) d_Mo_copy_75 (g_aload_n F (pc := 76) d_Mo_copy_76 0 rfl (gc_getR F (pc := 77) d_Mo_copy_77 fi_Mo_19 o1 (g_iconst (v := 5) F (pc := 80) d_Mo_copy_80 (by decide) (g_iload_n F (pc := 81) d_Mo_copy_81 1 rfl (g_imul F (pc := 82) d_Mo_copy_82 ?_)))))
              refine g_iload_n F (pc := 83) d_Mo_copy_83 3 rfl (g_iadd F (pc := 84) d_Mo_copy_84 ?_)
              obtain ⟨o24, h⟩ := h
              obtain ⟨o25, h⟩ := h
              refine gc_iald F (pc := 85) d_Mo_copy_85 o24 o25 ?_
              obtain ⟨o26, h⟩ := h
              refine gc_iast F (pc := 86) d_Mo_copy_86 o24 o26 ?_
              obtain ⟨c27, ec27⟩ : ∃ c27 : cM, c27 = c_up c22 (rf x0 4) (Int32.toNatClampNeg ((5 * x2) + y21)) (c22 (rf x0 4) (Int32.toNatClampNeg ((5 * x1) + y21))) := ⟨_, rfl⟩
              rw [← ec27]
              replace h := h c27 ec27
              refine g_iinc (v := (y21 + 1)) (lv' := [(3, .int (y21 + 1)), (0, .ref x0), (1, .int x1), (2, .int x2)]) F (pc := 87) d_Mo_copy_87 3 rfl (sk_inc (by decide)) (by decide) rfl (g_goto (tgt := 62) F (pc := 90) d_Mo_copy_90 (by decide) ?_)
              refine g_lv (lv' := [(0, .ref x0), (1, .int x1), (2, .int x2), (3, .int (y21 + 1))]) F [1, 2, 3, 0] rfl ?_
              obtain ⟨m, hm, h⟩ := h
              exact ih19 m hm _ _ h
        exact lp20 n0 _ _ h
      · replace h := h.2 b16
        refine g_aload_n F (pc := 32) d_Mo_copy_32 0 rfl (gc_getR F (pc := 33) d_Mo_copy_33 fi_Mo_16 o1 (g_bipush (v := 120) F (pc := 36) d_Mo_copy_36 (by decide) (g_iload_n F (pc := 38) d_Mo_copy_38 2 rfl (g_imul F (pc := 39) d_Mo_copy_39 (g_iload_n F (pc := 40) d_Mo_copy_40 3 rfl ?_)))))
        refine g_iadd F (pc := 41) d_Mo_copy_41 (g_aload_n F (pc := 42) d_Mo_copy_42 0 rfl (gc_getR F (pc := 43) d_Mo_copy_43 fi_Mo_16 o1 (g_bipush (v := 120) F (pc := 46) d_Mo_copy_46 (by decide) (g_iload_n F (pc := 48) d_Mo_copy_48 1 rfl (g_imul F (pc := 49) d_Mo_copy_49 ?_)))))
        refine g_iload_n F (pc := 50) d_Mo_copy_50 3 rfl (g_iadd F (pc := 51) d_Mo_copy_51 ?_)
        obtain ⟨o28, h⟩ := h
        obtain ⟨o29, h⟩ := h
        refine gc_iald F (pc := 52) d_Mo_copy_52 o28 o29 ?_
        obtain ⟨o30, h⟩ := h
        refine gc_iast F (pc := 53) d_Mo_copy_53 o28 o30 ?_
        obtain ⟨c31, ec31⟩ : ∃ c31 : cM, c31 = c_up c15 (rf x0 3) (Int32.toNatClampNeg ((120 * x2) + y14)) (c15 (rf x0 3) (Int32.toNatClampNeg ((120 * x1) + y14))) := ⟨_, rfl⟩
        rw [← ec31]
        replace h := h c31 ec31
        refine g_iinc (v := (y14 + 1)) (lv' := [(3, .int (y14 + 1)), (0, .ref x0), (1, .int x1), (2, .int x2)]) F (pc := 54) d_Mo_copy_54 3 rfl (sk_inc (by decide)) (by decide) rfl (g_goto (tgt := 26) F (pc := 57) d_Mo_copy_57 (by decide) ?_)
        refine g_lv (lv' := [(0, .ref x0), (1, .int x1), (2, .int x2), (3, .int (y14 + 1))]) F [1, 2, 3, 0] rfl ?_
        obtain ⟨m, hm, h⟩ := h
        exact ih12 m hm _ _ h
  exact lp13 n0 _ _ h
theorem d_Mo_sameAs_0 : decode M_Mo_sameAs.2.1 0 = .ok (.iconst (-1), 1) := by decide +kernel
theorem d_Mo_sameAs_1 : decode M_Mo_sameAs.2.1 1 = .ok (.istore_n 2, 1) := by decide +kernel
theorem d_Mo_sameAs_2 : decode M_Mo_sameAs.2.1 2 = .ok (.iconst 0, 1) := by decide +kernel
theorem d_Mo_sameAs_3 : decode M_Mo_sameAs.2.1 3 = .ok (.istore_n 3, 1) := by decide +kernel
theorem d_Mo_sameAs_4 : decode M_Mo_sameAs.2.1 4 = .ok (.iload_n 3, 1) := by decide +kernel
theorem d_Mo_sameAs_5 : decode M_Mo_sameAs.2.1 5 = .ok (.aload_n 0, 1) := by decide +kernel
theorem d_Mo_sameAs_6 : decode M_Mo_sameAs.2.1 6 = .ok (.getfield 93, 3) := by decide +kernel
theorem d_Mo_sameAs_9 : decode M_Mo_sameAs.2.1 9 = .ok (.if_icmp .ge 75, 3) := by decide +kernel
theorem d_Mo_sameAs_12 : decode M_Mo_sameAs.2.1 12 = .ok (.iconst 1, 1) := by decide +kernel
theorem d_Mo_sameAs_13 : decode M_Mo_sameAs.2.1 13 = .ok (.istore 4, 2) := by decide +kernel
theorem d_Mo_sameAs_15 : decode M_Mo_sameAs.2.1 15 = .ok (.iconst 0, 1) := by decide +kernel
theorem d_Mo_sameAs_16 : decode M_Mo_sameAs.2.1 16 = .ok (.istore 5, 2) := by decide +kernel
theorem d_Mo_sameAs_18 : decode M_Mo_sameAs.2.1 18 = .ok (.iload 5, 2) := by decide +kernel
theorem d_Mo_sameAs_20 : decode M_Mo_sameAs.2.1 20 = .ok (.iconst 5, 1) := by decide +kernel
theorem d_Mo_sameAs_21 : decode M_Mo_sameAs.2.1 21 = .ok (.if_icmp .ge 46, 3) := by decide +kernel
theorem d_Mo_sameAs_24 : decode M_Mo_sameAs.2.1 24 = .ok (.iload 4, 2) := by decide +kernel
theorem d_Mo_sameAs_26 : decode M_Mo_sameAs.2.1 26 = .ok (.ifCond .eq 32, 3) := by decide +kernel
theorem d_Mo_sameAs_29 : decode M_Mo_sameAs.2.1 29 = .ok (.aload_n 0, 1) := by decide +kernel
theorem d_Mo_sameAs_30 : decode M_Mo_sameAs.2.1 30 = .ok (.getfield 19, 3) := by decide +kernel
theorem d_Mo_sameAs_33 : decode M_Mo_sameAs.2.1 33 = .ok (.iconst 5, 1) := by decide +kernel
theorem d_Mo_sameAs_34 : decode M_Mo_sameAs.2.1 34 = .ok (.iload_n 3, 1) := by decide +kernel
theorem d_Mo_sameAs_35 : decode M_Mo_sameAs.2.1 35 = .ok (.imul, 1) := by decide +kernel
theorem d_Mo_sameAs_36 : decode M_Mo_sameAs.2.1 36 = .ok (.iload 5, 2) := by decide +kernel
theorem d_Mo_sameAs_38 : decode M_Mo_sameAs.2.1 38 = .ok (.iadd, 1) := by decide +kernel
theorem d_Mo_sameAs_39 : decode M_Mo_sameAs.2.1 39 = .ok (.iaload, 1) := by decide +kernel
theorem d_Mo_sameAs_40 : decode M_Mo_sameAs.2.1 40 = .ok (.aload_n 0, 1) := by decide +kernel
theorem d_Mo_sameAs_41 : decode M_Mo_sameAs.2.1 41 = .ok (.getfield 19, 3) := by decide +kernel
theorem d_Mo_sameAs_44 : decode M_Mo_sameAs.2.1 44 = .ok (.iconst 5, 1) := by decide +kernel
theorem d_Mo_sameAs_45 : decode M_Mo_sameAs.2.1 45 = .ok (.iload_n 1, 1) := by decide +kernel
theorem d_Mo_sameAs_46 : decode M_Mo_sameAs.2.1 46 = .ok (.imul, 1) := by decide +kernel
theorem d_Mo_sameAs_47 : decode M_Mo_sameAs.2.1 47 = .ok (.iload 5, 2) := by decide +kernel
theorem d_Mo_sameAs_49 : decode M_Mo_sameAs.2.1 49 = .ok (.iadd, 1) := by decide +kernel
theorem d_Mo_sameAs_50 : decode M_Mo_sameAs.2.1 50 = .ok (.iaload, 1) := by decide +kernel
theorem d_Mo_sameAs_51 : decode M_Mo_sameAs.2.1 51 = .ok (.if_icmp .ne 7, 3) := by decide +kernel
theorem d_Mo_sameAs_54 : decode M_Mo_sameAs.2.1 54 = .ok (.iconst 1, 1) := by decide +kernel
theorem d_Mo_sameAs_55 : decode M_Mo_sameAs.2.1 55 = .ok (.goto 4, 3) := by decide +kernel
theorem d_Mo_sameAs_58 : decode M_Mo_sameAs.2.1 58 = .ok (.iconst 0, 1) := by decide +kernel
theorem d_Mo_sameAs_59 : decode M_Mo_sameAs.2.1 59 = .ok (.istore 4, 2) := by decide +kernel
theorem d_Mo_sameAs_61 : decode M_Mo_sameAs.2.1 61 = .ok (.iinc 5 1, 3) := by decide +kernel
theorem d_Mo_sameAs_64 : decode M_Mo_sameAs.2.1 64 = .ok (.goto (-46), 3) := by decide +kernel
theorem d_Mo_sameAs_67 : decode M_Mo_sameAs.2.1 67 = .ok (.iload 4, 2) := by decide +kernel
theorem d_Mo_sameAs_69 : decode M_Mo_sameAs.2.1 69 = .ok (.ifCond .eq 7, 3) := by decide +kernel
theorem d_Mo_sameAs_72 : decode M_Mo_sameAs.2.1 72 = .ok (.iload_n 3, 1) := by decide +kernel
theorem d_Mo_sameAs_73 : decode M_Mo_sameAs.2.1 73 = .ok (.goto 4, 3) := by decide +kernel
theorem d_Mo_sameAs_76 : decode M_Mo_sameAs.2.1 76 = .ok (.iload_n 2, 1) := by decide +kernel
theorem d_Mo_sameAs_77 : decode M_Mo_sameAs.2.1 77 = .ok (.istore_n 2, 1) := by decide +kernel
theorem d_Mo_sameAs_78 : decode M_Mo_sameAs.2.1 78 = .ok (.iinc 3 1, 3) := by decide +kernel
theorem d_Mo_sameAs_81 : decode M_Mo_sameAs.2.1 81 = .ok (.goto (-77), 3) := by decide +kernel
theorem d_Mo_sameAs_84 : decode M_Mo_sameAs.2.1 84 = .ok (.iload_n 2, 1) := by decide +kernel
theorem d_Mo_sameAs_85 : decode M_Mo_sameAs.2.1 85 = .ok (.ireturn, 1) := by decide +kernel
def f_Mo_sameAs (x0 : Nat) (x1 : Int32) (c : cM) (K : Int32 → cM → Prop) : Prop :=
  ∃ I1 : Nat → Int32 → Int32 → Prop, (∃ n, I1 n (-1) 0) ∧ ∀ (n2 : Nat) (y5 : Int32) (y6 : Int32), I1 n2 y5 y6 → (kd x0 = 7 ∧ ((((c x0 0) ≤ y6) → (K y5 c)) ∧ (¬ ((c x0 0) ≤ y6) → (∃ I9 : Nat → Int32 → Int32 → Prop, (∃ n, I9 n 1 0) ∧ ∀ (n10 : Nat) (y13 : Int32) (y14 : Int32), I9 n10 y13 y14 → (((5 ≤ y14) → (∃ J18 : Int32 → Prop, (∀ (s17 : Int32), J18 s17 → (∃ m, m < n2 ∧ I1 m s17 (y6 + 1))) ∧ (((y13 = 0) → (J18 y5)) ∧ (¬ (y13 = 0) → (J18 y6))))) ∧ (¬ (5 ≤ y14) → (∃ J26 : Int32 → Prop, (∀ (s25 : Int32), J26 s25 → (∃ m, m < n10 ∧ I9 m s25 (y14 + 1))) ∧ (∃ J32 : Prop, (J32  → (J26 0)) ∧ (((y13 = 0) → (J32)) ∧ (¬ (y13 = 0) → (kd (rf x0 4) = 100 ∧ (vp_in ((5 * y6) + y14) (ln (rf x0 4)) ∧ (vp_in ((5 * x1) + y14) (ln (rf x0 4)) ∧ (((¬ (c (rf x0 4) (Int32.toNatClampNeg ((5 * y6) + y14))) = (c (rf x0 4) (Int32.toNatClampNeg ((5 * x1) + y14)))) → (J32)) ∧ ((c (rf x0 4) (Int32.toNatClampNeg ((5 * y6) + y14))) = (c (rf x0 4) (Int32.toNatClampNeg ((5 * x1) + y14))) → (J26 1))))))))))))))))
theorem c_Mo_sameAs {x0 : Nat} {x1 : Int32} {c : cM} {K : Int32 → cM → Prop} (h : f_Mo_sameAs x0 x1 c K) : Ct M_Mo_sameAs 0 0 0 (wd c) [.ref x0, .int x1] (PoI K) := by
  refine Ct.of (by decide +kernel) (Nat.le_of_ble_eq_true rfl) (fun Z T => ?_)
  have F := T.F
  unfold f_Mo_sameAs at h
  show Z (wd c) 0 [(0, .ref x0), (1, .int x1)] [] 0 0
  refine g_iconst (v := (-1)) F (pc := 0) d_Mo_sameAs_0 (by decide) (g_istore_n (lv' := [(2, .int (-1)), (0, .ref x0), (1, .int x1)]) F (pc := 1) d_Mo_sameAs_1 (by decide) rfl (g_iconst (v := 0) F (pc := 2) d_Mo_sameAs_2 (by decide) (g_istore_n (lv' := [(3, .int 0), (2, .int (-1)), (0, .ref x0), (1, .int x1)]) F (pc := 3) d_Mo_sameAs_3 (by decide) rfl ?_)))
  refine g_lv (lv' := [(0, .ref x0), (1, .int x1), (2, .int (-1)), (3, .int 0)]) F [2, 3, 1, 0] rfl ?_
  obtain ⟨I1, ⟨n0, h⟩, hI1⟩ := h
  have lp4 : ∀ (n2 : Nat) (y5 : Int32) (y6 : Int32), I1 n2 y5 y6 → Z (wd c) 4 [(0, .ref x0), (1, .int x1), (2, .int y5), (3, .int y6)] [] 0 0 := by
    intro n2
    induction n2 using Nat.strongRecOn with
    | _ n2 ih3 =>
      intro y5 y6 h
      replace h := hI1 n2 y5 y6 h
      refine g_iload_n F (pc := 4) d_Mo_sameAs_4 3 rfl (g_aload_n F (pc := 5) d_Mo_sameAs_5 0 rfl ?_)
      obtain ⟨o7, h⟩ := h
      refine gc_getI F (pc := 6) d_Mo_sameAs_6 fi_Mo_93 o7 ?_
      refine g_icmp_ge (tgt := 84) F (pc := 9) d_Mo_sameAs_9 (by decide) (fun b8 => ?_) (fun b8 => ?_)
      · replace h := h.1 b8
        refine g_iload_n F (pc := 84) d_Mo_sameAs_84 2 rfl ?_
        exact g_iret T (pc := 85) d_Mo_sameAs_85 rfl (Nat.le_refl _) (Nat.le_refl _) (poI h)
      · replace h := h.2 b8
        refine g_iconst (v := 1) F (pc := 12) d_Mo_sameAs_12 (by decide) (g_istore (lv' := [(4, .int 1), (0, .ref x0), (1, .int x1), (2, .int y5), (3, .int y6)]) F (pc := 13) d_Mo_sameAs_13 (by decide) rfl (g_iconst (v := 0) F (pc := 15) d_Mo_sameAs_15 (by decide) (g_istore (lv' := [(5, .int 0), (4, .int 1), (0, .ref x0), (1, .int x1), (2, .int y5), (3, .int y6)]) F (pc := 16) d_Mo_sameAs_16 (by decide) rfl ?_)))
        refine g_lv (lv' := [(0, .ref x0), (1, .int x1), (2, .int y5), (3, .int y6), (4, .int 1), (5, .int 0)]) F [2, 3, 4, 5, 1, 0] rfl ?_
        obtain ⟨I9, ⟨n0, h⟩, hI9⟩ := h
        have lp12 : ∀ (n10 : Nat) (y13 : Int32) (y14 : Int32), I9 n10 y13 y14 → Z (wd c) 18 [(0, .ref x0), (1, .int x1), (2, .int y5), (3, .int y6), (4, .int y13), (5, .int y14)] [] 0 0 := by
          intro n10
          induction n10 using Nat.strongRecOn with
          | _ n10 ih11 =>
            intro y13 y14 h
            replace h := hI9 n10 y13 y14 h
            refine g_iload F (pc := 18) d_Mo_sameAs_18 5 rfl (g_iconst (v := 5) F (pc := 20) d_Mo_sameAs_20 (by decide) ?_)
            refine g_icmp_ge (tgt := 67) F (pc := 21) d_Mo_sameAs_21 (by decide) (fun b15 => ?_) (fun b15 => ?_)
            · replace h := h.1 b15
              refine g_iload F (pc := 67) d_Mo_sameAs_67 4 rfl ?_
              obtain ⟨J18, hJ18, h⟩ := h
              have jn19 : ∀ (s17 : Int32), J18 s17 → Z (wd c) 77 [(0, .ref x0), (1, .int x1), (3, .int y6)] [.int s17] 0 0 := by
                intro s17 h
                replace h := hJ18 s17 h
                refine g_istore_n (lv' := [(2, .int s17), (0, .ref x0), (1, .int x1), (3, .int y6)]) F (pc := 77) d_Mo_sameAs_77 (by decide) rfl (g_iinc (v := (y6 + 1)) (lv' := [(3, .int (y6 + 1)), (2, .int s17), (0, .ref x0), (1, .int x1)]) F (pc := 78) d_Mo_sameAs_78 3 rfl (sk_inc (by decide)) (by decide) rfl (g_goto (tgt := 4) F (pc := 81) d_Mo_sameAs_81 (by decide) ?_))
                refine g_lv (lv' := [(0, .ref x0), (1, .int x1), (2, .int s17), (3, .int (y6 + 1))]) F [2, 3, 1, 0] rfl ?_
                obtain ⟨m, hm, h⟩ := h
                exact ih3 m hm _ _ h
              refine g_if_eq (tgt := 76) F (pc := 69) d_Mo_sameAs_69 (by decide) (fun b16 => ?_) (fun b16 => ?_)
              · replace h := h.1 b16
                refine g_iload_n F (pc := 76) d_Mo_sameAs_76 2 rfl ?_
                refine g_lv (lv' := [(0, .ref x0), (1, .int x1), (3, .int y6)]) F [0, 1, 3] rfl ?_
                exact jn19 _ h
              · replace h := h.2 b16
                refine g_iload_n F (pc := 72) d_Mo_sameAs_72 3 rfl (g_goto (tgt := 77) F (pc := 73) d_Mo_sameAs_73 (by decide) ?_)
                refine g_lv (lv' := [(0, .ref x0), (1, .int x1), (3, .int y6)]) F [0, 1, 3] rfl ?_
                exact jn19 _ h
            · replace h := h.2 b15
              refine g_iload F (pc := 24) d_Mo_sameAs_24 4 rfl ?_
              obtain ⟨J26, hJ26, h⟩ := h
              have jn27 : ∀ (s25 : Int32), J26 s25 → Z (wd c) 59 [(0, .ref x0), (1, .int x1), (2, .int y5), (3, .int y6), (5, .int y14)] [.int s25] 0 0 := by
                intro s25 h
                replace h := hJ26 s25 h
                refine g_istore (lv' := [(4, .int s25), (0, .ref x0), (1, .int x1), (2, .int y5), (3, .int y6), (5, .int y14)]) F (pc := 59) d_Mo_sameAs_59 (by decide) rfl (g_iinc (v := (y14 + 1)) (lv' := [(5, .int (y14 + 1)), (4, .int s25), (0, .ref x0), (1, .int x1), (2, .int y5), (3, .int y6)]) F (pc := 61) d_Mo_sameAs_61 5 rfl (sk_inc (by decide)) (by decide) rfl (g_goto (tgt := 18) F (pc := 64) d_Mo_sameAs_64 (by decide) ?_))
                refine g_lv (lv' := [(0, .ref x0), (1, .int x1), (2, .int y5), (3, .int y6), (4, .int s25), (5, .int (y14 + 1))]) F [2, 3, 4, 5, 1, 0] rfl ?_
                obtain ⟨m, hm, h⟩ := h
                exact ih11 m hm _ _ h
              obtain ⟨J32, hJ32, h⟩ := h
              have jn33 : J32  → Z (wd c) 58 [(0, .ref x0), (1, .int x1), (2, .int y5), (3, .int y6), (5, .int y14)] [] 0 0 := by
                intro  h
                replace h := hJ32  h
                refine g_iconst (v := 0) F (pc := 58) d_Mo_sameAs_58 (by decide) ?_
                exact jn27 _ h
              refine g_if_eq (tgt := 58) F (pc := 26) d_Mo_sameAs_26 (by decide) (fun b20 => ?_) (fun b20 => ?_)
              · replace h := h.1 b20
                refine g_lv (lv' := [(0, .ref x0), (1, .int x1), (2, .int y5), (3, .int y6), (5, .int y14)]) F [0, 1, 2, 3, 5] rfl ?_
                exact jn33  h
              · replace h := h.2 b20
                refine g_aload_n F (pc := 29) d_Mo_sameAs_29 0 rfl (gc_getR F (pc := 30) d_Mo_sameAs_30 fi_Mo_19 o7 (g_iconst (v := 5) F (pc := 33) d_Mo_sameAs_33 (by decide) (g_iload_n F (pc := 34) d_Mo_sameAs_34 3 rfl (g_imul F (pc := 35) d_Mo_sameAs_35 (g_iload F (pc := 36) d_Mo_sameAs_36 5 rfl ?_)))))
                refine g_iadd F (pc := 38) d_Mo_sameAs_38 ?_
                obtain ⟨o34, h⟩ := h
                obtain ⟨o35, h⟩ := h
                refine gc_iald F (pc := 39) d_Mo_sameAs_39 o34 o35 (g_aload_n F (pc := 40) d_Mo_sameAs_40 0 rfl (gc_getR F (pc := 41) d_Mo_sameAs_41 fi_Mo_19 o7 (g_iconst (v := 5) F (pc := 44) d_Mo_sameAs_44 (by decide) (g_iload_n F (pc := 45) d_Mo_sameAs_45 1 rfl (g_imul F (pc := 46) d_Mo_sameAs_46 ?_)))))
                refine g_iload F (pc := 47) d_Mo_sameAs_47 5 rfl (g_iadd F (pc := 49) d_Mo_sameAs_49 ?_)
                obtain ⟨o36, h⟩ := h
                refine gc_iald F (pc := 50) d_Mo_sameAs_50 o34 o36 ?_
                refine g_icmp_ne (tgt := 58) F (pc := 51) d_Mo_sameAs_51 (by decide) (fun b37 => ?_) (fun b37 => ?_)
                · replace h := h.1 b37
                  refine g_lv (lv' := [(0, .ref x0), (1, .int x1), (2, .int y5), (3, .int y6), (5, .int y14)]) F [0, 1, 2, 3, 5] rfl ?_
                  exact jn33  h
                · replace h := h.2 b37
                  refine g_iconst (v := 1) F (pc := 54) d_Mo_sameAs_54 (by decide) (g_goto (tgt := 59) F (pc := 55) d_Mo_sameAs_55 (by decide) ?_)
                  refine g_lv (lv' := [(0, .ref x0), (1, .int x1), (2, .int y5), (3, .int y6), (5, .int y14)]) F [0, 1, 2, 3, 5] rfl ?_
                  exact jn27 _ h
        exact lp12 n0 _ _ h
  exact lp4 n0 _ _ h
theorem d_Mo_come_0 : decode M_Mo_come.2.1 0 = .ok (.aload_n 0, 1) := by decide +kernel
theorem d_Mo_come_1 : decode M_Mo_come.2.1 1 = .ok (.bipush 32, 2) := by decide +kernel
theorem d_Mo_come_3 : decode M_Mo_come.2.1 3 = .ok (.invokevirtual 96, 3) := by decide +kernel
theorem d_Mo_come_6 : decode M_Mo_come.2.1 6 = .ok (.aload_n 0, 1) := by decide +kernel
theorem d_Mo_come_7 : decode M_Mo_come.2.1 7 = .ok (.bipush 32, 2) := by decide +kernel
theorem d_Mo_come_9 : decode M_Mo_come.2.1 9 = .ok (.invokevirtual 99, 3) := by decide +kernel
theorem d_Mo_come_12 : decode M_Mo_come.2.1 12 = .ok (.istore_n 1, 1) := by decide +kernel
theorem d_Mo_come_13 : decode M_Mo_come.2.1 13 = .ok (.iload_n 1, 1) := by decide +kernel
theorem d_Mo_come_14 : decode M_Mo_come.2.1 14 = .ok (.ifCond .lt 5, 3) := by decide +kernel
theorem d_Mo_come_17 : decode M_Mo_come.2.1 17 = .ok (.iload_n 1, 1) := by decide +kernel
theorem d_Mo_come_18 : decode M_Mo_come.2.1 18 = .ok (.ireturn, 1) := by decide +kernel
theorem d_Mo_come_19 : decode M_Mo_come.2.1 19 = .ok (.aload_n 0, 1) := by decide +kernel
theorem d_Mo_come_20 : decode M_Mo_come.2.1 20 = .ok (.getfield 93, 3) := by decide +kernel
theorem d_Mo_come_23 : decode M_Mo_come.2.1 23 = .ok (.bipush 16, 2) := by decide +kernel
theorem d_Mo_come_25 : decode M_Mo_come.2.1 25 = .ok (.if_icmp .ne 6, 3) := by decide +kernel
theorem d_Mo_come_28 : decode M_Mo_come.2.1 28 = .ok (.bipush (-2), 2) := by decide +kernel
theorem d_Mo_come_30 : decode M_Mo_come.2.1 30 = .ok (.ireturn, 1) := by decide +kernel
theorem d_Mo_come_31 : decode M_Mo_come.2.1 31 = .ok (.aload_n 0, 1) := by decide +kernel
theorem d_Mo_come_32 : decode M_Mo_come.2.1 32 = .ok (.bipush 32, 2) := by decide +kernel
theorem d_Mo_come_34 : decode M_Mo_come.2.1 34 = .ok (.aload_n 0, 1) := by decide +kernel
theorem d_Mo_come_35 : decode M_Mo_come.2.1 35 = .ok (.getfield 93, 3) := by decide +kernel
theorem d_Mo_come_38 : decode M_Mo_come.2.1 38 = .ok (.invokevirtual 103, 3) := by decide +kernel
theorem d_Mo_come_41 : decode M_Mo_come.2.1 41 = .ok (.aload_n 0, 1) := by decide +kernel
theorem d_Mo_come_42 : decode M_Mo_come.2.1 42 = .ok (.dup, 1) := by decide +kernel
theorem d_Mo_come_43 : decode M_Mo_come.2.1 43 = .ok (.getfield 93, 3) := by decide +kernel
theorem d_Mo_come_46 : decode M_Mo_come.2.1 46 = .ok (.iconst 1, 1) := by decide +kernel
theorem d_Mo_come_47 : decode M_Mo_come.2.1 47 = .ok (.iadd, 1) := by decide +kernel
theorem d_Mo_come_48 : decode M_Mo_come.2.1 48 = .ok (.putfield 93, 3) := by decide +kernel
theorem d_Mo_come_51 : decode M_Mo_come.2.1 51 = .ok (.aload_n 0, 1) := by decide +kernel
theorem d_Mo_come_52 : decode M_Mo_come.2.1 52 = .ok (.getfield 93, 3) := by decide +kernel
theorem d_Mo_come_55 : decode M_Mo_come.2.1 55 = .ok (.iconst 1, 1) := by decide +kernel
theorem d_Mo_come_56 : decode M_Mo_come.2.1 56 = .ok (.isub, 1) := by decide +kernel
theorem d_Mo_come_57 : decode M_Mo_come.2.1 57 = .ok (.ireturn, 1) := by decide +kernel
def f_Mo_come (x0 : Nat) (c : cM) (K : Int32 → cM → Prop) : Prop :=
  kd x0 = 7 ∧ (f_Mo_call x0 32 c (fun c2 => f_Mo_sameAs x0 32 c2 (fun v4 c3 => ((v4 < 0) → (((¬ (c3 x0 0) = 16) → (f_Mo_copy x0 32 (c3 x0 0) c3 (fun c7 => ∀ c8 : cM, c8 = c_up c7 x0 0 ((c7 x0 0) + 1) → (K ((c8 x0 0) - 1) c8)))) ∧ ((c3 x0 0) = 16 → (K (-2) c3)))) ∧ (¬ (v4 < 0) → (K v4 c3)))))
theorem c_Mo_come {x0 : Nat} {c : cM} {K : Int32 → cM → Prop} (h : f_Mo_come x0 c K) : Ct M_Mo_come 4 0 0 (wd c) [.ref x0] (PoI K) := by
  refine Ct.of (by decide +kernel) (Nat.le_of_ble_eq_true rfl) (fun Z T => ?_)
  have F := T.F
  unfold f_Mo_come at h
  show Z (wd c) 0 [(0, .ref x0)] [] 0 0
  refine g_aload_n F (pc := 0) d_Mo_come_0 0 rfl (g_bipush (v := 32) F (pc := 1) d_Mo_come_1 (by decide) ?_)
  obtain ⟨o1, h⟩ := h
  refine gc_callVV (As := [.int 32]) (st := []) F (pc := 3) d_Mo_come_3 cb_Mo_96 iv_Mo_call np_Mo_call o1 vc_7 (c_Mo_call h) rfl (by decide) (Nat.le_refl _) (Nat.le_refl _) (Nat.le_of_ble_eq_true rfl) (fun c2 h => ?_)
  refine g_aload_n F (pc := 6) d_Mo_come_6 0 rfl (g_bipush (v := 32) F (pc := 7) d_Mo_come_7 (by decide) ?_)
  refine gc_callVI (As := [.int 32]) (st := []) F (pc := 9) d_Mo_come_9 cb_Mo_99 iv_Mo_sameAs np_Mo_sameAs o1 vc_7 (c_Mo_sameAs h) rfl (by decide) (Nat.le_refl _) (Nat.le_refl _) (Nat.le_of_ble_eq_true rfl) (fun v4 c3 h => ?_)
  refine g_istore_n (lv' := [(1, .int v4), (0, .ref x0)]) F (pc := 12) d_Mo_come_12 (by decide) rfl (g_iload_n F (pc := 13) d_Mo_come_13 0 rfl ?_)
  refine g_if_lt (tgt := 19) F (pc := 14) d_Mo_come_14 (by decide) (fun b5 => ?_) (fun b5 => ?_)
  · replace h := h.1 b5
    refine g_aload_n F (pc := 19) d_Mo_come_19 1 rfl (gc_getI F (pc := 20) d_Mo_come_20 fi_Mo_93 o1 (g_bipush (v := 16) F (pc := 23) d_Mo_come_23 (by decide) ?_))
    refine g_icmp_ne (tgt := 31) F (pc := 25) d_Mo_come_25 (by decide) (fun b6 => ?_) (fun b6 => ?_)
    · replace h := h.1 b6
      refine g_aload_n F (pc := 31) d_Mo_come_31 1 rfl (g_bipush (v := 32) F (pc := 32) d_Mo_come_32 (by decide) (g_aload_n F (pc := 34) d_Mo_come_34 1 rfl (gc_getI F (pc := 35) d_Mo_come_35 fi_Mo_93 o1 ?_)))
      refine gc_callVV (As := [.int 32, .int (c3 x0 0)]) (st := []) F (pc := 38) d_Mo_come_38 cb_Mo_103 iv_Mo_copy np_Mo_copy o1 vc_7 (c_Mo_copy h) rfl (by decide) (Nat.le_refl _) (Nat.le_refl _) (Nat.le_of_ble_eq_true rfl) (fun c7 h => ?_)
      refine g_aload_n F (pc := 41) d_Mo_come_41 1 rfl (g_dup F (pc := 42) d_Mo_come_42 rfl (gc_getI F (pc := 43) d_Mo_come_43 fi_Mo_93 o1 (g_iconst (v := 1) F (pc := 46) d_Mo_come_46 (by decide) (g_iadd F (pc := 47) d_Mo_come_47 (gc_putI F (pc := 48) d_Mo_come_48 pi_Mo_93 o1 ?_)))))
      obtain ⟨c8, ec8⟩ : ∃ c8 : cM, c8 = c_up c7 x0 0 ((c7 x0 0) + 1) := ⟨_, rfl⟩
      rw [← ec8]
      replace h := h c8 ec8
      refine g_aload_n F (pc := 51) d_Mo_come_51 1 rfl (gc_getI F (pc := 52) d_Mo_come_52 fi_Mo_93 o1 (g_iconst (v := 1) F (pc := 55) d_Mo_come_55 (by decide) (g_isub F (pc := 56) d_Mo_come_56 ?_)))
      exact g_iret T (pc := 57) d_Mo_come_57 rfl (Nat.le_refl _) (Nat.le_refl _) (poI h)
    · replace h := h.2 b6
      refine g_bipush (v := (-2)) F (pc := 28) d_Mo_come_28 (by decide) ?_
      exact g_iret T (pc := 30) d_Mo_come_30 rfl (Nat.le_refl _) (Nat.le_refl _) (poI h)
  · replace h := h.2 b5
    refine g_iload_n F (pc := 17) d_Mo_come_17 0 rfl ?_
    exact g_iret T (pc := 18) d_Mo_come_18 rfl (Nat.le_refl _) (Nat.le_refl _) (poI h)
theorem d_Mo_begin_0 : decode M_Mo_begin.2.1 0 = .ok (.aload_n 0, 1) := by decide +kernel
theorem d_Mo_begin_1 : decode M_Mo_begin.2.1 1 = .ok (.getfield 7, 3) := by decide +kernel
theorem d_Mo_begin_4 : decode M_Mo_begin.2.1 4 = .ok (.bipush 32, 2) := by decide +kernel
theorem d_Mo_begin_6 : decode M_Mo_begin.2.1 6 = .ok (.iload_n 1, 1) := by decide +kernel
theorem d_Mo_begin_7 : decode M_Mo_begin.2.1 7 = .ok (.iastore, 1) := by decide +kernel
theorem d_Mo_begin_8 : decode M_Mo_begin.2.1 8 = .ok (.aload_n 0, 1) := by decide +kernel
theorem d_Mo_begin_9 : decode M_Mo_begin.2.1 9 = .ok (.getfield 13, 3) := by decide +kernel
theorem d_Mo_begin_12 : decode M_Mo_begin.2.1 12 = .ok (.bipush 32, 2) := by decide +kernel
theorem d_Mo_begin_14 : decode M_Mo_begin.2.1 14 = .ok (.iconst 0, 1) := by decide +kernel
theorem d_Mo_begin_15 : decode M_Mo_begin.2.1 15 = .ok (.iastore, 1) := by decide +kernel
theorem d_Mo_begin_16 : decode M_Mo_begin.2.1 16 = .ok (.return_, 1) := by decide +kernel
def f_Mo_begin (x0 : Nat) (x1 : Int32) (c : cM) (K : cM → Prop) : Prop :=
  kd x0 = 7 ∧ (kd (rf x0 1) = 100 ∧ (vp_in 32 (ln (rf x0 1)) ∧ (∀ c4 : cM, c4 = c_up c (rf x0 1) (Int32.toNatClampNeg 32) x1 → (kd (rf x0 2) = 100 ∧ (vp_in 32 (ln (rf x0 2)) ∧ (∀ c7 : cM, c7 = c_up c4 (rf x0 2) (Int32.toNatClampNeg 32) 0 → (K c7)))))))
theorem c_Mo_begin {x0 : Nat} {x1 : Int32} {c : cM} {K : cM → Prop} (h : f_Mo_begin x0 x1 c K) : Ct M_Mo_begin 0 0 0 (wd c) [.ref x0, .int x1] (PoV K) := by
  refine Ct.of (by decide +kernel) (Nat.le_of_ble_eq_true rfl) (fun Z T => ?_)
  have F := T.F
  unfold f_Mo_begin at h
  show Z (wd c) 0 [(0, .ref x0), (1, .int x1)] [] 0 0
  refine g_aload_n F (pc := 0) d_Mo_begin_0 0 rfl ?_
  obtain ⟨o1, h⟩ := h
  refine gc_getR F (pc := 1) d_Mo_begin_1 fi_Mo_7 o1 (g_bipush (v := 32) F (pc := 4) d_Mo_begin_4 (by decide) (g_iload_n F (pc := 6) d_Mo_begin_6 1 rfl ?_))
  obtain ⟨o2, h⟩ := h
  obtain ⟨o3, h⟩ := h
  refine gc_iast F (pc := 7) d_Mo_begin_7 o2 o3 ?_
  obtain ⟨c4, ec4⟩ : ∃ c4 : cM, c4 = c_up c (rf x0 1) (Int32.toNatClampNeg 32) x1 := ⟨_, rfl⟩
  rw [← ec4]
  replace h := h c4 ec4
  refine g_aload_n F (pc := 8) d_Mo_begin_8 0 rfl (gc_getR F (pc := 9) d_Mo_begin_9 fi_Mo_13 o1 (g_bipush (v := 32) F (pc := 12) d_Mo_begin_12 (by decide) (g_iconst (v := 0) F (pc := 14) d_Mo_begin_14 (by decide) ?_)))
  obtain ⟨o5, h⟩ := h
  obtain ⟨o6, h⟩ := h
  refine gc_iast F (pc := 15) d_Mo_begin_15 o5 o6 ?_
  obtain ⟨c7, ec7⟩ : ∃ c7 : cM, c7 = c_up c4 (rf x0 2) (Int32.toNatClampNeg 32) 0 := ⟨_, rfl⟩
  rw [← ec7]
  replace h := h c7 ec7
  exact g_vret T (pc := 16) d_Mo_begin_16 rfl (Nat.le_refl _) (Nat.le_refl _) (poV h)
theorem d_Mo_add_0 : decode M_Mo_add.2.1 0 = .ok (.aload_n 0, 1) := by decide +kernel
theorem d_Mo_add_1 : decode M_Mo_add.2.1 1 = .ok (.getfield 16, 3) := by decide +kernel
theorem d_Mo_add_4 : decode M_Mo_add.2.1 4 = .ok (.sipush 3840, 3) := by decide +kernel
theorem d_Mo_add_7 : decode M_Mo_add.2.1 7 = .ok (.aload_n 0, 1) := by decide +kernel
theorem d_Mo_add_8 : decode M_Mo_add.2.1 8 = .ok (.getfield 13, 3) := by decide +kernel
theorem d_Mo_add_11 : decode M_Mo_add.2.1 11 = .ok (.bipush 32, 2) := by decide +kernel
theorem d_Mo_add_13 : decode M_Mo_add.2.1 13 = .ok (.iaload, 1) := by decide +kernel
theorem d_Mo_add_14 : decode M_Mo_add.2.1 14 = .ok (.iadd, 1) := by decide +kernel
theorem d_Mo_add_15 : decode M_Mo_add.2.1 15 = .ok (.iload_n 1, 1) := by decide +kernel
theorem d_Mo_add_16 : decode M_Mo_add.2.1 16 = .ok (.iastore, 1) := by decide +kernel
theorem d_Mo_add_17 : decode M_Mo_add.2.1 17 = .ok (.aload_n 0, 1) := by decide +kernel
theorem d_Mo_add_18 : decode M_Mo_add.2.1 18 = .ok (.getfield 13, 3) := by decide +kernel
theorem d_Mo_add_21 : decode M_Mo_add.2.1 21 = .ok (.bipush 32, 2) := by decide +kernel
theorem d_Mo_add_23 : decode M_Mo_add.2.1 23 = .ok (.dup2, 1) := by decide +kernel
theorem d_Mo_add_24 : decode M_Mo_add.2.1 24 = .ok (.iaload, 1) := by decide +kernel
theorem d_Mo_add_25 : decode M_Mo_add.2.1 25 = .ok (.iconst 1, 1) := by decide +kernel
theorem d_Mo_add_26 : decode M_Mo_add.2.1 26 = .ok (.iadd, 1) := by decide +kernel
theorem d_Mo_add_27 : decode M_Mo_add.2.1 27 = .ok (.iastore, 1) := by decide +kernel
theorem d_Mo_add_28 : decode M_Mo_add.2.1 28 = .ok (.return_, 1) := by decide +kernel
def f_Mo_add (x0 : Nat) (x1 : Int32) (c : cM) (K : cM → Prop) : Prop :=
  kd x0 = 7 ∧ (kd (rf x0 2) = 100 ∧ (vp_in 32 (ln (rf x0 2)) ∧ (kd (rf x0 3) = 100 ∧ (vp_in (3840 + (c (rf x0 2) (Int32.toNatClampNeg 32))) (ln (rf x0 3)) ∧ (∀ c6 : cM, c6 = c_up c (rf x0 3) (Int32.toNatClampNeg (3840 + (c (rf x0 2) (Int32.toNatClampNeg 32)))) x1 → (∀ c7 : cM, c7 = c_up c6 (rf x0 2) (Int32.toNatClampNeg 32) ((c6 (rf x0 2) (Int32.toNatClampNeg 32)) + 1) → (K c7)))))))
theorem c_Mo_add {x0 : Nat} {x1 : Int32} {c : cM} {K : cM → Prop} (h : f_Mo_add x0 x1 c K) : Ct M_Mo_add 0 0 0 (wd c) [.ref x0, .int x1] (PoV K) := by
  refine Ct.of (by decide +kernel) (Nat.le_of_ble_eq_true rfl) (fun Z T => ?_)
  have F := T.F
  unfold f_Mo_add at h
  show Z (wd c) 0 [(0, .ref x0), (1, .int x1)] [] 0 0
  refine g_aload_n F (pc := 0) d_Mo_add_0 0 rfl ?_
  obtain ⟨o1, h⟩ := h
  refine gc_getR F (pc := 1) d_Mo_add_1 fi_Mo_16 o1 (g_sipush (v := 3840) F (pc := 4) d_Mo_add_4 (by decide) (g_aload_n F (pc := 7) d_Mo_add_7 0 rfl (gc_getR F (pc := 8) d_Mo_add_8 fi_Mo_13 o1 (g_bipush (v := 32) F (pc := 11) d_Mo_add_11 (by decide) ?_))))
  obtain ⟨o2, h⟩ := h
  obtain ⟨o3, h⟩ := h
  refine gc_iald F (pc := 13) d_Mo_add_13 o2 o3 (g_iadd F (pc := 14) d_Mo_add_14 (g_iload_n F (pc := 15) d_Mo_add_15 1 rfl ?_))
  obtain ⟨o4, h⟩ := h
  obtain ⟨o5, h⟩ := h
  refine gc_iast F (pc := 16) d_Mo_add_16 o4 o5 ?_
  obtain ⟨c6, ec6⟩ : ∃ c6 : cM, c6 = c_up c (rf x0 3) (Int32.toNatClampNeg (3840 + (c (rf x0 2) (Int32.toNatClampNeg 32)))) x1 := ⟨_, rfl⟩
  rw [← ec6]
  replace h := h c6 ec6
  refine g_aload_n F (pc := 17) d_Mo_add_17 0 rfl (gc_getR F (pc := 18) d_Mo_add_18 fi_Mo_13 o1 (g_bipush (v := 32) F (pc := 21) d_Mo_add_21 (by decide) (g_dup2 F (pc := 23) d_Mo_add_23 rfl rfl (gc_iald F (pc := 24) d_Mo_add_24 o2 o3 (g_iconst (v := 1) F (pc := 25) d_Mo_add_25 (by decide) ?_)))))
  refine g_iadd F (pc := 26) d_Mo_add_26 (gc_iast F (pc := 27) d_Mo_add_27 o2 o3 ?_)
  obtain ⟨c7, ec7⟩ : ∃ c7 : cM, c7 = c_up c6 (rf x0 2) (Int32.toNatClampNeg 32) ((c6 (rf x0 2) (Int32.toNatClampNeg 32)) + 1) := ⟨_, rfl⟩
  rw [← ec7]
  replace h := h c7 ec7
  exact g_vret T (pc := 28) d_Mo_add_28 rfl (Nat.le_refl _) (Nat.le_refl _) (poV h)
theorem d_Mo_addName_0 : decode M_Mo_addName.2.1 0 = .ok (.iconst 0, 1) := by decide +kernel
theorem d_Mo_addName_1 : decode M_Mo_addName.2.1 1 = .ok (.istore_n 2, 1) := by decide +kernel
theorem d_Mo_addName_2 : decode M_Mo_addName.2.1 2 = .ok (.iload_n 2, 1) := by decide +kernel
theorem d_Mo_addName_3 : decode M_Mo_addName.2.1 3 = .ok (.bipush 20, 2) := by decide +kernel
theorem d_Mo_addName_5 : decode M_Mo_addName.2.1 5 = .ok (.if_icmp .ge 19, 3) := by decide +kernel
theorem d_Mo_addName_8 : decode M_Mo_addName.2.1 8 = .ok (.aload_n 0, 1) := by decide +kernel
theorem d_Mo_addName_9 : decode M_Mo_addName.2.1 9 = .ok (.aload_n 0, 1) := by decide +kernel
theorem d_Mo_addName_10 : decode M_Mo_addName.2.1 10 = .ok (.iload_n 1, 1) := by decide +kernel
theorem d_Mo_addName_11 : decode M_Mo_addName.2.1 11 = .ok (.iload_n 2, 1) := by decide +kernel
theorem d_Mo_addName_12 : decode M_Mo_addName.2.1 12 = .ok (.invokevirtual 107, 3) := by decide +kernel
theorem d_Mo_addName_15 : decode M_Mo_addName.2.1 15 = .ok (.invokevirtual 110, 3) := by decide +kernel
theorem d_Mo_addName_18 : decode M_Mo_addName.2.1 18 = .ok (.iinc 2 1, 3) := by decide +kernel
theorem d_Mo_addName_21 : decode M_Mo_addName.2.1 21 = .ok (.goto (-19), 3) := by decide +kernel
theorem d_Mo_addName_24 : decode M_Mo_addName.2.1 24 = .ok (.return_, 1) := by decide +kernel
def f_Mo_addName (x0 : Nat) (x1 : Int32) (c : cM) (K : cM → Prop) : Prop :=
  ∃ I1 : Nat → Int32 → cM → Prop, (∃ n, I1 n 0 c) ∧ ∀ (n2 : Nat) (y5 : Int32) (c6 : cM), I1 n2 y5 c6 → (((20 ≤ y5) → (K c6)) ∧ (¬ (20 ≤ y5) → (kd x0 = 7 ∧ (f_Mo_nameByte x0 x1 y5 c6 (fun v10 c9 => f_Mo_add x0 v10 c9 (fun c11 => ∃ m, m < n2 ∧ I1 m (y5 + 1) c11))))))
theorem c_Mo_addName {x0 : Nat} {x1 : Int32} {c : cM} {K : cM → Prop} (h : f_Mo_addName x0 x1 c K) : Ct M_Mo_addName 1 0 0 (wd c) [.ref x0, .int x1] (PoV K) := by
  refine Ct.of (by decide +kernel) (Nat.le_of_ble_eq_true rfl) (fun Z T => ?_)
  have F := T.F
  unfold f_Mo_addName at h
  show Z (wd c) 0 [(0, .ref x0), (1, .int x1)] [] 0 0
  refine g_iconst (v := 0) F (pc := 0) d_Mo_addName_0 (by decide) (g_istore_n (lv' := [(2, .int 0), (0, .ref x0), (1, .int x1)]) F (pc := 1) d_Mo_addName_1 (by decide) rfl ?_)
  refine g_lv (lv' := [(0, .ref x0), (1, .int x1), (2, .int 0)]) F [1, 2, 0] rfl ?_
  obtain ⟨I1, ⟨n0, h⟩, hI1⟩ := h
  have lp4 : ∀ (n2 : Nat) (y5 : Int32) (c6 : cM), I1 n2 y5 c6 → Z (wd c6) 2 [(0, .ref x0), (1, .int x1), (2, .int y5)] [] 0 0 := by
    intro n2
    induction n2 using Nat.strongRecOn with
    | _ n2 ih3 =>
      intro y5 c6 h
      replace h := hI1 n2 y5 c6 h
      refine g_iload_n F (pc := 2) d_Mo_addName_2 2 rfl (g_bipush (v := 20) F (pc := 3) d_Mo_addName_3 (by decide) ?_)
      refine g_icmp_ge (tgt := 24) F (pc := 5) d_Mo_addName_5 (by decide) (fun b7 => ?_) (fun b7 => ?_)
      · replace h := h.1 b7
        exact g_vret T (pc := 24) d_Mo_addName_24 rfl (Nat.le_refl _) (Nat.le_refl _) (poV h)
      · replace h := h.2 b7
        refine g_aload_n F (pc := 8) d_Mo_addName_8 0 rfl (g_aload_n F (pc := 9) d_Mo_addName_9 0 rfl (g_iload_n F (pc := 10) d_Mo_addName_10 1 rfl (g_iload_n F (pc := 11) d_Mo_addName_11 2 rfl ?_)))
        obtain ⟨o8, h⟩ := h
        refine gc_callVI (As := [.int x1, .int y5]) (st := [.ref x0]) F (pc := 12) d_Mo_addName_12 cb_Mo_107 iv_Mo_nameByte np_Mo_nameByte o8 vc_7 (c_Mo_nameByte h) rfl (by decide) (Nat.le_refl _) (Nat.le_refl _) (Nat.le_of_ble_eq_true rfl) (fun v10 c9 h => ?_)
        refine gc_callVV (As := [.int v10]) (st := []) F (pc := 15) d_Mo_addName_15 cb_Mo_110 iv_Mo_add np_Mo_add o8 vc_7 (c_Mo_add h) rfl (by decide) (Nat.le_refl _) (Nat.le_refl _) (Nat.le_of_ble_eq_true rfl) (fun c11 h => ?_)
        refine g_iinc (v := (y5 + 1)) (lv' := [(2, .int (y5 + 1)), (0, .ref x0), (1, .int x1)]) F (pc := 18) d_Mo_addName_18 2 rfl (sk_inc (by decide)) (by decide) rfl (g_goto (tgt := 2) F (pc := 21) d_Mo_addName_21 (by decide) ?_)
        refine g_lv (lv' := [(0, .ref x0), (1, .int x1), (2, .int (y5 + 1))]) F [1, 2, 0] rfl ?_
        obtain ⟨m, hm, h⟩ := h
        exact ih3 m hm _ _ h
  exact lp4 n0 _ _ h
