theorem d_Sum_turned_0 : decode M_Sum_turned.2.1 0 = .ok (.iload_n 0, 1) := by decide +kernel
theorem d_Sum_turned_1 : decode M_Sum_turned.2.1 1 = .ok (.iload_n 1, 1) := by decide +kernel
theorem d_Sum_turned_2 : decode M_Sum_turned.2.1 2 = .ok (.ishl, 1) := by decide +kernel
theorem d_Sum_turned_3 : decode M_Sum_turned.2.1 3 = .ok (.iload_n 0, 1) := by decide +kernel
theorem d_Sum_turned_4 : decode M_Sum_turned.2.1 4 = .ok (.bipush 32, 2) := by decide +kernel
theorem d_Sum_turned_6 : decode M_Sum_turned.2.1 6 = .ok (.iload_n 1, 1) := by decide +kernel
theorem d_Sum_turned_7 : decode M_Sum_turned.2.1 7 = .ok (.isub, 1) := by decide +kernel
theorem d_Sum_turned_8 : decode M_Sum_turned.2.1 8 = .ok (.iushr, 1) := by decide +kernel
theorem d_Sum_turned_9 : decode M_Sum_turned.2.1 9 = .ok (.ior, 1) := by decide +kernel
theorem d_Sum_turned_10 : decode M_Sum_turned.2.1 10 = .ok (.ireturn, 1) := by decide +kernel
def f_Sum_turned (x0 : Int32) (x1 : Int32) (c : cM) (K : Int32 → cM → Prop) : Prop :=
  K ((c_shl x0 x1) ||| (c_ushr x0 (32 - x1))) c
theorem c_Sum_turned {x0 : Int32} {x1 : Int32} {c : cM} {K : Int32 → cM → Prop} (h : f_Sum_turned x0 x1 c K) : Ct M_Sum_turned 0 0 0 (wd c) [.int x0, .int x1] (PoI K) := by
  refine Ct.of (by decide +kernel) (Nat.le_of_ble_eq_true rfl) (fun Z T => ?_)
  have F := T.F
  unfold f_Sum_turned at h
  show Z (wd c) 0 [(0, .int x0), (1, .int x1)] [] 0 0
  refine g_iload_n F (pc := 0) d_Sum_turned_0 0 rfl (g_iload_n F (pc := 1) d_Sum_turned_1 1 rfl (g_ishl F (pc := 2) d_Sum_turned_2 (g_iload_n F (pc := 3) d_Sum_turned_3 0 rfl (g_bipush (v := 32) F (pc := 4) d_Sum_turned_4 (by decide) (g_iload_n F (pc := 6) d_Sum_turned_6 1 rfl ?_)))))
  refine g_isub F (pc := 7) d_Sum_turned_7 (g_iushr F (pc := 8) d_Sum_turned_8 (g_ior F (pc := 9) d_Sum_turned_9 ?_))
  exact g_iret T (pc := 10) d_Sum_turned_10 rfl (Nat.le_refl _) (Nat.le_refl _) (poI h)
theorem d_Sum_mixed_0 : decode M_Sum_mixed.2.1 0 = .ok (.iload_n 0, 1) := by decide +kernel
theorem d_Sum_mixed_1 : decode M_Sum_mixed.2.1 1 = .ok (.ifCond .ne 13, 3) := by decide +kernel
theorem d_Sum_mixed_4 : decode M_Sum_mixed.2.1 4 = .ok (.iload_n 1, 1) := by decide +kernel
theorem d_Sum_mixed_5 : decode M_Sum_mixed.2.1 5 = .ok (.iload_n 2, 1) := by decide +kernel
theorem d_Sum_mixed_6 : decode M_Sum_mixed.2.1 6 = .ok (.iand, 1) := by decide +kernel
theorem d_Sum_mixed_7 : decode M_Sum_mixed.2.1 7 = .ok (.iload_n 1, 1) := by decide +kernel
theorem d_Sum_mixed_8 : decode M_Sum_mixed.2.1 8 = .ok (.iconst (-1), 1) := by decide +kernel
theorem d_Sum_mixed_9 : decode M_Sum_mixed.2.1 9 = .ok (.ixor, 1) := by decide +kernel
theorem d_Sum_mixed_10 : decode M_Sum_mixed.2.1 10 = .ok (.iload_n 3, 1) := by decide +kernel
theorem d_Sum_mixed_11 : decode M_Sum_mixed.2.1 11 = .ok (.iand, 1) := by decide +kernel
theorem d_Sum_mixed_12 : decode M_Sum_mixed.2.1 12 = .ok (.ior, 1) := by decide +kernel
theorem d_Sum_mixed_13 : decode M_Sum_mixed.2.1 13 = .ok (.ireturn, 1) := by decide +kernel
theorem d_Sum_mixed_14 : decode M_Sum_mixed.2.1 14 = .ok (.iload_n 0, 1) := by decide +kernel
theorem d_Sum_mixed_15 : decode M_Sum_mixed.2.1 15 = .ok (.iconst 2, 1) := by decide +kernel
theorem d_Sum_mixed_16 : decode M_Sum_mixed.2.1 16 = .ok (.if_icmp .ne 15, 3) := by decide +kernel
theorem d_Sum_mixed_19 : decode M_Sum_mixed.2.1 19 = .ok (.iload_n 1, 1) := by decide +kernel
theorem d_Sum_mixed_20 : decode M_Sum_mixed.2.1 20 = .ok (.iload_n 2, 1) := by decide +kernel
theorem d_Sum_mixed_21 : decode M_Sum_mixed.2.1 21 = .ok (.iand, 1) := by decide +kernel
theorem d_Sum_mixed_22 : decode M_Sum_mixed.2.1 22 = .ok (.iload_n 1, 1) := by decide +kernel
theorem d_Sum_mixed_23 : decode M_Sum_mixed.2.1 23 = .ok (.iload_n 3, 1) := by decide +kernel
theorem d_Sum_mixed_24 : decode M_Sum_mixed.2.1 24 = .ok (.iand, 1) := by decide +kernel
theorem d_Sum_mixed_25 : decode M_Sum_mixed.2.1 25 = .ok (.ior, 1) := by decide +kernel
theorem d_Sum_mixed_26 : decode M_Sum_mixed.2.1 26 = .ok (.iload_n 2, 1) := by decide +kernel
theorem d_Sum_mixed_27 : decode M_Sum_mixed.2.1 27 = .ok (.iload_n 3, 1) := by decide +kernel
theorem d_Sum_mixed_28 : decode M_Sum_mixed.2.1 28 = .ok (.iand, 1) := by decide +kernel
theorem d_Sum_mixed_29 : decode M_Sum_mixed.2.1 29 = .ok (.ior, 1) := by decide +kernel
theorem d_Sum_mixed_30 : decode M_Sum_mixed.2.1 30 = .ok (.ireturn, 1) := by decide +kernel
theorem d_Sum_mixed_31 : decode M_Sum_mixed.2.1 31 = .ok (.iload_n 1, 1) := by decide +kernel
theorem d_Sum_mixed_32 : decode M_Sum_mixed.2.1 32 = .ok (.iload_n 2, 1) := by decide +kernel
theorem d_Sum_mixed_33 : decode M_Sum_mixed.2.1 33 = .ok (.ixor, 1) := by decide +kernel
theorem d_Sum_mixed_34 : decode M_Sum_mixed.2.1 34 = .ok (.iload_n 3, 1) := by decide +kernel
theorem d_Sum_mixed_35 : decode M_Sum_mixed.2.1 35 = .ok (.ixor, 1) := by decide +kernel
theorem d_Sum_mixed_36 : decode M_Sum_mixed.2.1 36 = .ok (.ireturn, 1) := by decide +kernel
def f_Sum_mixed (x0 : Int32) (x1 : Int32) (x2 : Int32) (x3 : Int32) (c : cM) (K : Int32 → cM → Prop) : Prop :=
  ((¬ x0 = 0) → (((¬ x0 = 2) → (K ((x1 ^^^ x2) ^^^ x3) c)) ∧ (x0 = 2 → (K (((x1 &&& x2) ||| (x1 &&& x3)) ||| (x2 &&& x3)) c)))) ∧ (x0 = 0 → (K ((x1 &&& x2) ||| ((x1 ^^^ (-1)) &&& x3)) c))
theorem c_Sum_mixed {x0 : Int32} {x1 : Int32} {x2 : Int32} {x3 : Int32} {c : cM} {K : Int32 → cM → Prop} (h : f_Sum_mixed x0 x1 x2 x3 c K) : Ct M_Sum_mixed 0 0 0 (wd c) [.int x0, .int x1, .int x2, .int x3] (PoI K) := by
  refine Ct.of (by decide +kernel) (Nat.le_of_ble_eq_true rfl) (fun Z T => ?_)
  have F := T.F
  unfold f_Sum_mixed at h
  show Z (wd c) 0 [(0, .int x0), (1, .int x1), (2, .int x2), (3, .int x3)] [] 0 0
  refine g_iload_n F (pc := 0) d_Sum_mixed_0 0 rfl ?_
  refine g_if_ne (tgt := 14) F (pc := 1) d_Sum_mixed_1 (by decide) (fun b1 => ?_) (fun b1 => ?_)
  · replace h := h.1 b1
    refine g_iload_n F (pc := 14) d_Sum_mixed_14 0 rfl (g_iconst (v := 2) F (pc := 15) d_Sum_mixed_15 (by decide) ?_)
    refine g_icmp_ne (tgt := 31) F (pc := 16) d_Sum_mixed_16 (by decide) (fun b2 => ?_) (fun b2 => ?_)
    · replace h := h.1 b2
      refine g_iload_n F (pc := 31) d_Sum_mixed_31 1 rfl (g_iload_n F (pc := 32) d_Sum_mixed_32 2 rfl (g_ixor F (pc := 33) d_Sum_mixed_33 (g_iload_n F (pc := 34) d_Sum_mixed_34 3 rfl (g_ixor F (pc := 35) d_Sum_mixed_35 ?_))))
      exact g_iret T (pc := 36) d_Sum_mixed_36 rfl (Nat.le_refl _) (Nat.le_refl _) (poI h)
    · replace h := h.2 b2
      refine g_iload_n F (pc := 19) d_Sum_mixed_19 1 rfl (g_iload_n F (pc := 20) d_Sum_mixed_20 2 rfl (g_iand F (pc := 21) d_Sum_mixed_21 (g_iload_n F (pc := 22) d_Sum_mixed_22 1 rfl (g_iload_n F (pc := 23) d_Sum_mixed_23 3 rfl (g_iand F (pc := 24) d_Sum_mixed_24 ?_)))))
      refine g_ior F (pc := 25) d_Sum_mixed_25 (g_iload_n F (pc := 26) d_Sum_mixed_26 2 rfl (g_iload_n F (pc := 27) d_Sum_mixed_27 3 rfl (g_iand F (pc := 28) d_Sum_mixed_28 (g_ior F (pc := 29) d_Sum_mixed_29 ?_))))
      exact g_iret T (pc := 30) d_Sum_mixed_30 rfl (Nat.le_refl _) (Nat.le_refl _) (poI h)
  · replace h := h.2 b1
    refine g_iload_n F (pc := 4) d_Sum_mixed_4 1 rfl (g_iload_n F (pc := 5) d_Sum_mixed_5 2 rfl (g_iand F (pc := 6) d_Sum_mixed_6 (g_iload_n F (pc := 7) d_Sum_mixed_7 1 rfl (g_iconst (v := (-1)) F (pc := 8) d_Sum_mixed_8 (by decide) (g_ixor F (pc := 9) d_Sum_mixed_9 ?_)))))
    refine g_iload_n F (pc := 10) d_Sum_mixed_10 3 rfl (g_iand F (pc := 11) d_Sum_mixed_11 (g_ior F (pc := 12) d_Sum_mixed_12 ?_))
    exact g_iret T (pc := 13) d_Sum_mixed_13 rfl (Nat.le_refl _) (Nat.le_refl _) (poI h)
theorem d_Sum_stir_0 : decode M_Sum_stir.2.1 0 = .ok (.bipush 16, 2) := by decide +kernel
theorem d_Sum_stir_2 : decode M_Sum_stir.2.1 2 = .ok (.istore_n 1, 1) := by decide +kernel
theorem d_Sum_stir_3 : decode M_Sum_stir.2.1 3 = .ok (.iload_n 1, 1) := by decide +kernel
theorem d_Sum_stir_4 : decode M_Sum_stir.2.1 4 = .ok (.bipush 80, 2) := by decide +kernel
theorem d_Sum_stir_6 : decode M_Sum_stir.2.1 6 = .ok (.if_icmp .ge 57, 3) := by decide +kernel
theorem d_Sum_stir_9 : decode M_Sum_stir.2.1 9 = .ok (.aload_n 0, 1) := by decide +kernel
theorem d_Sum_stir_10 : decode M_Sum_stir.2.1 10 = .ok (.getfield 15, 3) := by decide +kernel
theorem d_Sum_stir_13 : decode M_Sum_stir.2.1 13 = .ok (.iload_n 1, 1) := by decide +kernel
theorem d_Sum_stir_14 : decode M_Sum_stir.2.1 14 = .ok (.aload_n 0, 1) := by decide +kernel
theorem d_Sum_stir_15 : decode M_Sum_stir.2.1 15 = .ok (.getfield 15, 3) := by decide +kernel
theorem d_Sum_stir_18 : decode M_Sum_stir.2.1 18 = .ok (.iload_n 1, 1) := by decide +kernel
theorem d_Sum_stir_19 : decode M_Sum_stir.2.1 19 = .ok (.iconst 3, 1) := by decide +kernel
theorem d_Sum_stir_20 : decode M_Sum_stir.2.1 20 = .ok (.isub, 1) := by decide +kernel
theorem d_Sum_stir_21 : decode M_Sum_stir.2.1 21 = .ok (.iaload, 1) := by decide +kernel
theorem d_Sum_stir_22 : decode M_Sum_stir.2.1 22 = .ok (.aload_n 0, 1) := by decide +kernel
theorem d_Sum_stir_23 : decode M_Sum_stir.2.1 23 = .ok (.getfield 15, 3) := by decide +kernel
theorem d_Sum_stir_26 : decode M_Sum_stir.2.1 26 = .ok (.iload_n 1, 1) := by decide +kernel
theorem d_Sum_stir_27 : decode M_Sum_stir.2.1 27 = .ok (.bipush 8, 2) := by decide +kernel
theorem d_Sum_stir_29 : decode M_Sum_stir.2.1 29 = .ok (.isub, 1) := by decide +kernel
theorem d_Sum_stir_30 : decode M_Sum_stir.2.1 30 = .ok (.iaload, 1) := by decide +kernel
theorem d_Sum_stir_31 : decode M_Sum_stir.2.1 31 = .ok (.ixor, 1) := by decide +kernel
theorem d_Sum_stir_32 : decode M_Sum_stir.2.1 32 = .ok (.aload_n 0, 1) := by decide +kernel
theorem d_Sum_stir_33 : decode M_Sum_stir.2.1 33 = .ok (.getfield 15, 3) := by decide +kernel
theorem d_Sum_stir_36 : decode M_Sum_stir.2.1 36 = .ok (.iload_n 1, 1) := by decide +kernel
theorem d_Sum_stir_37 : decode M_Sum_stir.2.1 37 = .ok (.bipush 14, 2) := by decide +kernel
theorem d_Sum_stir_39 : decode M_Sum_stir.2.1 39 = .ok (.isub, 1) := by decide +kernel
theorem d_Sum_stir_40 : decode M_Sum_stir.2.1 40 = .ok (.iaload, 1) := by decide +kernel
theorem d_Sum_stir_41 : decode M_Sum_stir.2.1 41 = .ok (.ixor, 1) := by decide +kernel
theorem d_Sum_stir_42 : decode M_Sum_stir.2.1 42 = .ok (.aload_n 0, 1) := by decide +kernel
theorem d_Sum_stir_43 : decode M_Sum_stir.2.1 43 = .ok (.getfield 15, 3) := by decide +kernel
theorem d_Sum_stir_46 : decode M_Sum_stir.2.1 46 = .ok (.iload_n 1, 1) := by decide +kernel
theorem d_Sum_stir_47 : decode M_Sum_stir.2.1 47 = .ok (.bipush 16, 2) := by decide +kernel
theorem d_Sum_stir_49 : decode M_Sum_stir.2.1 49 = .ok (.isub, 1) := by decide +kernel
theorem d_Sum_stir_50 : decode M_Sum_stir.2.1 50 = .ok (.iaload, 1) := by decide +kernel
theorem d_Sum_stir_51 : decode M_Sum_stir.2.1 51 = .ok (.ixor, 1) := by decide +kernel
theorem d_Sum_stir_52 : decode M_Sum_stir.2.1 52 = .ok (.iconst 1, 1) := by decide +kernel
theorem d_Sum_stir_53 : decode M_Sum_stir.2.1 53 = .ok (.invokestatic 92, 3) := by decide +kernel
theorem d_Sum_stir_56 : decode M_Sum_stir.2.1 56 = .ok (.iastore, 1) := by decide +kernel
theorem d_Sum_stir_57 : decode M_Sum_stir.2.1 57 = .ok (.iinc 1 1, 3) := by decide +kernel
theorem d_Sum_stir_60 : decode M_Sum_stir.2.1 60 = .ok (.goto (-57), 3) := by decide +kernel
theorem d_Sum_stir_63 : decode M_Sum_stir.2.1 63 = .ok (.aload_n 0, 1) := by decide +kernel
theorem d_Sum_stir_64 : decode M_Sum_stir.2.1 64 = .ok (.getfield 9, 3) := by decide +kernel
theorem d_Sum_stir_67 : decode M_Sum_stir.2.1 67 = .ok (.iconst 0, 1) := by decide +kernel
theorem d_Sum_stir_68 : decode M_Sum_stir.2.1 68 = .ok (.iaload, 1) := by decide +kernel
theorem d_Sum_stir_69 : decode M_Sum_stir.2.1 69 = .ok (.istore_n 1, 1) := by decide +kernel
theorem d_Sum_stir_70 : decode M_Sum_stir.2.1 70 = .ok (.aload_n 0, 1) := by decide +kernel
theorem d_Sum_stir_71 : decode M_Sum_stir.2.1 71 = .ok (.getfield 9, 3) := by decide +kernel
theorem d_Sum_stir_74 : decode M_Sum_stir.2.1 74 = .ok (.iconst 1, 1) := by decide +kernel
theorem d_Sum_stir_75 : decode M_Sum_stir.2.1 75 = .ok (.iaload, 1) := by decide +kernel
theorem d_Sum_stir_76 : decode M_Sum_stir.2.1 76 = .ok (.istore_n 2, 1) := by decide +kernel
theorem d_Sum_stir_77 : decode M_Sum_stir.2.1 77 = .ok (.aload_n 0, 1) := by decide +kernel
theorem d_Sum_stir_78 : decode M_Sum_stir.2.1 78 = .ok (.getfield 9, 3) := by decide +kernel
theorem d_Sum_stir_81 : decode M_Sum_stir.2.1 81 = .ok (.iconst 2, 1) := by decide +kernel
theorem d_Sum_stir_82 : decode M_Sum_stir.2.1 82 = .ok (.iaload, 1) := by decide +kernel
theorem d_Sum_stir_83 : decode M_Sum_stir.2.1 83 = .ok (.istore_n 3, 1) := by decide +kernel
theorem d_Sum_stir_84 : decode M_Sum_stir.2.1 84 = .ok (.aload_n 0, 1) := by decide +kernel
theorem d_Sum_stir_85 : decode M_Sum_stir.2.1 85 = .ok (.getfield 9, 3) := by decide +kernel
theorem d_Sum_stir_88 : decode M_Sum_stir.2.1 88 = .ok (.iconst 3, 1) := by decide +kernel
theorem d_Sum_stir_89 : decode M_Sum_stir.2.1 89 = .ok (.iaload, 1) := by decide +kernel
theorem d_Sum_stir_90 : decode M_Sum_stir.2.1 90 = .ok (.istore 4, 2) := by decide +kernel
theorem d_Sum_stir_92 : decode M_Sum_stir.2.1 92 = .ok (.aload_n 0, 1) := by decide +kernel
theorem d_Sum_stir_93 : decode M_Sum_stir.2.1 93 = .ok (.getfield 9, 3) := by decide +kernel
theorem d_Sum_stir_96 : decode M_Sum_stir.2.1 96 = .ok (.iconst 4, 1) := by decide +kernel
theorem d_Sum_stir_97 : decode M_Sum_stir.2.1 97 = .ok (.iaload, 1) := by decide +kernel
theorem d_Sum_stir_98 : decode M_Sum_stir.2.1 98 = .ok (.istore 5, 2) := by decide +kernel
theorem d_Sum_stir_100 : decode M_Sum_stir.2.1 100 = .ok (.iconst 0, 1) := by decide +kernel
theorem d_Sum_stir_101 : decode M_Sum_stir.2.1 101 = .ok (.istore 6, 2) := by decide +kernel
theorem d_Sum_stir_103 : decode M_Sum_stir.2.1 103 = .ok (.iload 6, 2) := by decide +kernel
theorem d_Sum_stir_105 : decode M_Sum_stir.2.1 105 = .ok (.bipush 80, 2) := by decide +kernel
theorem d_Sum_stir_107 : decode M_Sum_stir.2.1 107 = .ok (.if_icmp .ge 69, 3) := by decide +kernel
theorem d_Sum_stir_110 : decode M_Sum_stir.2.1 110 = .ok (.iload_n 1, 1) := by decide +kernel
theorem d_Sum_stir_111 : decode M_Sum_stir.2.1 111 = .ok (.iconst 5, 1) := by decide +kernel
theorem d_Sum_stir_112 : decode M_Sum_stir.2.1 112 = .ok (.invokestatic 92, 3) := by decide +kernel
theorem d_Sum_stir_115 : decode M_Sum_stir.2.1 115 = .ok (.iload 6, 2) := by decide +kernel
theorem d_Sum_stir_117 : decode M_Sum_stir.2.1 117 = .ok (.bipush 20, 2) := by decide +kernel
theorem d_Sum_stir_119 : decode M_Sum_stir.2.1 119 = .ok (.idiv, 1) := by decide +kernel
theorem d_Sum_stir_120 : decode M_Sum_stir.2.1 120 = .ok (.iload_n 2, 1) := by decide +kernel
theorem d_Sum_stir_121 : decode M_Sum_stir.2.1 121 = .ok (.iload_n 3, 1) := by decide +kernel
theorem d_Sum_stir_122 : decode M_Sum_stir.2.1 122 = .ok (.iload 4, 2) := by decide +kernel
theorem d_Sum_stir_124 : decode M_Sum_stir.2.1 124 = .ok (.invokestatic 96, 3) := by decide +kernel
theorem d_Sum_stir_127 : decode M_Sum_stir.2.1 127 = .ok (.iadd, 1) := by decide +kernel
theorem d_Sum_stir_128 : decode M_Sum_stir.2.1 128 = .ok (.iload 5, 2) := by decide +kernel
theorem d_Sum_stir_130 : decode M_Sum_stir.2.1 130 = .ok (.iadd, 1) := by decide +kernel
theorem d_Sum_stir_131 : decode M_Sum_stir.2.1 131 = .ok (.getstatic 100, 3) := by decide +kernel
theorem d_Sum_stir_134 : decode M_Sum_stir.2.1 134 = .ok (.iload 6, 2) := by decide +kernel
theorem d_Sum_stir_136 : decode M_Sum_stir.2.1 136 = .ok (.bipush 20, 2) := by decide +kernel
theorem d_Sum_stir_138 : decode M_Sum_stir.2.1 138 = .ok (.idiv, 1) := by decide +kernel
theorem d_Sum_stir_139 : decode M_Sum_stir.2.1 139 = .ok (.iaload, 1) := by decide +kernel
theorem d_Sum_stir_140 : decode M_Sum_stir.2.1 140 = .ok (.iadd, 1) := by decide +kernel
theorem d_Sum_stir_141 : decode M_Sum_stir.2.1 141 = .ok (.aload_n 0, 1) := by decide +kernel
theorem d_Sum_stir_142 : decode M_Sum_stir.2.1 142 = .ok (.getfield 15, 3) := by decide +kernel
theorem d_Sum_stir_145 : decode M_Sum_stir.2.1 145 = .ok (.iload 6, 2) := by decide +kernel
theorem d_Sum_stir_147 : decode M_Sum_stir.2.1 147 = .ok (.iaload, 1) := by decide +kernel
theorem d_Sum_stir_148 : decode M_Sum_stir.2.1 148 = .ok (.iadd, 1) := by decide +kernel
theorem d_Sum_stir_149 : decode M_Sum_stir.2.1 149 = .ok (.istore 7, 2) := by decide +kernel
theorem d_Sum_stir_151 : decode M_Sum_stir.2.1 151 = .ok (.iload 4, 2) := by decide +kernel
theorem d_Sum_stir_153 : decode M_Sum_stir.2.1 153 = .ok (.istore 5, 2) := by decide +kernel
theorem d_Sum_stir_155 : decode M_Sum_stir.2.1 155 = .ok (.iload_n 3, 1) := by decide +kernel
theorem d_Sum_stir_156 : decode M_Sum_stir.2.1 156 = .ok (.istore 4, 2) := by decide +kernel
theorem d_Sum_stir_158 : decode M_Sum_stir.2.1 158 = .ok (.iload_n 2, 1) := by decide +kernel
theorem d_Sum_stir_159 : decode M_Sum_stir.2.1 159 = .ok (.bipush 30, 2) := by decide +kernel
theorem d_Sum_stir_161 : decode M_Sum_stir.2.1 161 = .ok (.invokestatic 92, 3) := by decide +kernel
theorem d_Sum_stir_164 : decode M_Sum_stir.2.1 164 = .ok (.istore_n 3, 1) := by decide +kernel
theorem d_Sum_stir_165 : decode M_Sum_stir.2.1 165 = .ok (.iload_n 1, 1) := by decide +kernel
theorem d_Sum_stir_166 : decode M_Sum_stir.2.1 166 = .ok (.istore_n 2, 1) := by decide +kernel
theorem d_Sum_stir_167 : decode M_Sum_stir.2.1 167 = .ok (.iload 7, 2) := by decide +kernel
theorem d_Sum_stir_169 : decode M_Sum_stir.2.1 169 = .ok (.istore_n 1, 1) := by decide +kernel
theorem d_Sum_stir_170 : decode M_Sum_stir.2.1 170 = .ok (.iinc 6 1, 3) := by decide +kernel
theorem d_Sum_stir_173 : decode M_Sum_stir.2.1 173 = .ok (.goto (-70), 3) := by decide +kernel
theorem d_Sum_stir_176 : decode M_Sum_stir.2.1 176 = .ok (.aload_n 0, 1) := by decide +kernel
theorem d_Sum_stir_177 : decode M_Sum_stir.2.1 177 = .ok (.getfield 9, 3) := by decide +kernel
theorem d_Sum_stir_180 : decode M_Sum_stir.2.1 180 = .ok (.iconst 0, 1) := by decide +kernel
theorem d_Sum_stir_181 : decode M_Sum_stir.2.1 181 = .ok (.dup2, 1) := by decide +kernel
theorem d_Sum_stir_182 : decode M_Sum_stir.2.1 182 = .ok (.iaload, 1) := by decide +kernel
theorem d_Sum_stir_183 : decode M_Sum_stir.2.1 183 = .ok (.iload_n 1, 1) := by decide +kernel
theorem d_Sum_stir_184 : decode M_Sum_stir.2.1 184 = .ok (.iadd, 1) := by decide +kernel
theorem d_Sum_stir_185 : decode M_Sum_stir.2.1 185 = .ok (.iastore, 1) := by decide +kernel
theorem d_Sum_stir_186 : decode M_Sum_stir.2.1 186 = .ok (.aload_n 0, 1) := by decide +kernel
theorem d_Sum_stir_187 : decode M_Sum_stir.2.1 187 = .ok (.getfield 9, 3) := by decide +kernel
theorem d_Sum_stir_190 : decode M_Sum_stir.2.1 190 = .ok (.iconst 1, 1) := by decide +kernel
theorem d_Sum_stir_191 : decode M_Sum_stir.2.1 191 = .ok (.dup2, 1) := by decide +kernel
theorem d_Sum_stir_192 : decode M_Sum_stir.2.1 192 = .ok (.iaload, 1) := by decide +kernel
theorem d_Sum_stir_193 : decode M_Sum_stir.2.1 193 = .ok (.iload_n 2, 1) := by decide +kernel
theorem d_Sum_stir_194 : decode M_Sum_stir.2.1 194 = .ok (.iadd, 1) := by decide +kernel
theorem d_Sum_stir_195 : decode M_Sum_stir.2.1 195 = .ok (.iastore, 1) := by decide +kernel
theorem d_Sum_stir_196 : decode M_Sum_stir.2.1 196 = .ok (.aload_n 0, 1) := by decide +kernel
theorem d_Sum_stir_197 : decode M_Sum_stir.2.1 197 = .ok (.getfield 9, 3) := by decide +kernel
theorem d_Sum_stir_200 : decode M_Sum_stir.2.1 200 = .ok (.iconst 2, 1) := by decide +kernel
theorem d_Sum_stir_201 : decode M_Sum_stir.2.1 201 = .ok (.dup2, 1) := by decide +kernel
theorem d_Sum_stir_202 : decode M_Sum_stir.2.1 202 = .ok (.iaload, 1) := by decide +kernel
theorem d_Sum_stir_203 : decode M_Sum_stir.2.1 203 = .ok (.iload_n 3, 1) := by decide +kernel
theorem d_Sum_stir_204 : decode M_Sum_stir.2.1 204 = .ok (.iadd, 1) := by decide +kernel
theorem d_Sum_stir_205 : decode M_Sum_stir.2.1 205 = .ok (.iastore, 1) := by decide +kernel
theorem d_Sum_stir_206 : decode M_Sum_stir.2.1 206 = .ok (.aload_n 0, 1) := by decide +kernel
theorem d_Sum_stir_207 : decode M_Sum_stir.2.1 207 = .ok (.getfield 9, 3) := by decide +kernel
theorem d_Sum_stir_210 : decode M_Sum_stir.2.1 210 = .ok (.iconst 3, 1) := by decide +kernel
theorem d_Sum_stir_211 : decode M_Sum_stir.2.1 211 = .ok (.dup2, 1) := by decide +kernel
theorem d_Sum_stir_212 : decode M_Sum_stir.2.1 212 = .ok (.iaload, 1) := by decide +kernel
theorem d_Sum_stir_213 : decode M_Sum_stir.2.1 213 = .ok (.iload 4, 2) := by decide +kernel
theorem d_Sum_stir_215 : decode M_Sum_stir.2.1 215 = .ok (.iadd, 1) := by decide +kernel
theorem d_Sum_stir_216 : decode M_Sum_stir.2.1 216 = .ok (.iastore, 1) := by decide +kernel
theorem d_Sum_stir_217 : decode M_Sum_stir.2.1 217 = .ok (.aload_n 0, 1) := by decide +kernel
theorem d_Sum_stir_218 : decode M_Sum_stir.2.1 218 = .ok (.getfield 9, 3) := by decide +kernel
theorem d_Sum_stir_221 : decode M_Sum_stir.2.1 221 = .ok (.iconst 4, 1) := by decide +kernel
theorem d_Sum_stir_222 : decode M_Sum_stir.2.1 222 = .ok (.dup2, 1) := by decide +kernel
theorem d_Sum_stir_223 : decode M_Sum_stir.2.1 223 = .ok (.iaload, 1) := by decide +kernel
theorem d_Sum_stir_224 : decode M_Sum_stir.2.1 224 = .ok (.iload 5, 2) := by decide +kernel
theorem d_Sum_stir_226 : decode M_Sum_stir.2.1 226 = .ok (.iadd, 1) := by decide +kernel
theorem d_Sum_stir_227 : decode M_Sum_stir.2.1 227 = .ok (.iastore, 1) := by decide +kernel
theorem d_Sum_stir_228 : decode M_Sum_stir.2.1 228 = .ok (.return_, 1) := by decide +kernel
def f_Sum_stir (x0 : Nat) (c : cM) (K : cM → Prop) : Prop :=
  ∃ I1 : Nat → Int32 → cM → Prop, (∃ n, I1 n 16 c) ∧ ∀ (n2 : Nat) (y5 : Int32) (c6 : cM), I1 n2 y5 c6 → (((80 ≤ y5) → (kd x0 = 2 ∧ (kd (rf x0 0) = 100 ∧ (vp_in 0 (ln (rf x0 0)) ∧ (vp_in 1 (ln (rf x0 0)) ∧ (vp_in 2 (ln (rf x0 0)) ∧ (vp_in 3 (ln (rf x0 0)) ∧ (vp_in 4 (ln (rf x0 0)) ∧ (∃ I15 : Nat → Int32 → Int32 → Int32 → Int32 → Int32 → Int32 → cM → Prop, (∃ n, I15 n (c6 (rf x0 0) (Int32.toNatClampNeg 0)) (c6 (rf x0 0) (Int32.toNatClampNeg 1)) (c6 (rf x0 0) (Int32.toNatClampNeg 2)) (c6 (rf x0 0) (Int32.toNatClampNeg 3)) (c6 (rf x0 0) (Int32.toNatClampNeg 4)) 0 c6) ∧ ∀ (n16 : Nat) (y19 : Int32) (y20 : Int32) (y21 : Int32) (y22 : Int32) (y23 : Int32) (y24 : Int32) (c25 : cM), I15 n16 y19 y20 y21 y22 y23 y24 c25 → (((80 ≤ y24) → (∀ c27 : cM, c27 = c_up c25 (rf x0 0) (Int32.toNatClampNeg 0) ((c25 (rf x0 0) (Int32.toNatClampNeg 0)) + y19) → (∀ c28 : cM, c28 = c_up c27 (rf x0 0) (Int32.toNatClampNeg 1) ((c27 (rf x0 0) (Int32.toNatClampNeg 1)) + y20) → (∀ c29 : cM, c29 = c_up c28 (rf x0 0) (Int32.toNatClampNeg 2) ((c28 (rf x0 0) (Int32.toNatClampNeg 2)) + y21) → (∀ c30 : cM, c30 = c_up c29 (rf x0 0) (Int32.toNatClampNeg 3) ((c29 (rf x0 0) (Int32.toNatClampNeg 3)) + y22) → (∀ c31 : cM, c31 = c_up c30 (rf x0 0) (Int32.toNatClampNeg 4) ((c30 (rf x0 0) (Int32.toNatClampNeg 4)) + y23) → (K c31))))))) ∧ (¬ (80 ≤ y24) → (f_Sum_turned y19 5 c25 (fun v33 c32 => f_Sum_mixed (y24 / 20) y20 y21 y22 c32 (fun v35 c34 => kd 2 = 202 ∧ (vp_in (y24 / 20) (ln 2) ∧ (kd (rf x0 1) = 100 ∧ (vp_in y24 (ln (rf x0 1)) ∧ (f_Sum_turned y20 30 c34 (fun v41 c40 => ∃ m, m < n16 ∧ I15 m ((((v33 + v35) + y23) + (oc 2 (Int32.toNatClampNeg (y24 / 20)))) + (c34 (rf x0 1) (Int32.toNatClampNeg y24))) y19 v41 y21 y22 (y24 + 1) c40))))))))))))))))))) ∧ (¬ (80 ≤ y5) → (kd x0 = 2 ∧ (kd (rf x0 1) = 100 ∧ (vp_in (y5 - 3) (ln (rf x0 1)) ∧ (vp_in (y5 - 8) (ln (rf x0 1)) ∧ (vp_in (y5 - 14) (ln (rf x0 1)) ∧ (vp_in (y5 - 16) (ln (rf x0 1)) ∧ (f_Sum_turned ((((c6 (rf x0 1) (Int32.toNatClampNeg (y5 - 3))) ^^^ (c6 (rf x0 1) (Int32.toNatClampNeg (y5 - 8)))) ^^^ (c6 (rf x0 1) (Int32.toNatClampNeg (y5 - 14)))) ^^^ (c6 (rf x0 1) (Int32.toNatClampNeg (y5 - 16)))) 1 c6 (fun v49 c48 => vp_in y5 (ln (rf x0 1)) ∧ (∀ c51 : cM, c51 = c_up c48 (rf x0 1) (Int32.toNatClampNeg y5) v49 → (∃ m, m < n2 ∧ I1 m (y5 + 1) c51))))))))))))
theorem c_Sum_stir {x0 : Nat} {c : cM} {K : cM → Prop} (h : f_Sum_stir x0 c K) : Ct M_Sum_stir 1 0 0 (wd c) [.ref x0] (PoV K) := by
  refine Ct.of (by decide +kernel) (Nat.le_of_ble_eq_true rfl) (fun Z T => ?_)
  have F := T.F
  unfold f_Sum_stir at h
  show Z (wd c) 0 [(0, .ref x0)] [] 0 0
  refine g_bipush (v := 16) F (pc := 0) d_Sum_stir_0 (by decide) (g_istore_n (lv' := [(1, .int 16), (0, .ref x0)]) F (pc := 2) d_Sum_stir_2 (by decide) rfl ?_)
  refine g_lv (lv' := [(0, .ref x0), (1, .int 16)]) F [1, 0] rfl ?_
  obtain ⟨I1, ⟨n0, h⟩, hI1⟩ := h
  have lp4 : ∀ (n2 : Nat) (y5 : Int32) (c6 : cM), I1 n2 y5 c6 → Z (wd c6) 3 [(0, .ref x0), (1, .int y5)] [] 0 0 := by
    intro n2
    induction n2 using Nat.strongRecOn with
    | _ n2 ih3 =>
      intro y5 c6 h
      replace h := hI1 n2 y5 c6 h
      refine g_iload_n F (pc := 3) d_Sum_stir_3 1 rfl (g_bipush (v := 80) F (pc := 4) d_Sum_stir_4 (by decide) ?_)
      refine g_icmp_ge (tgt := 63) F (pc := 6) d_Sum_stir_6 (by decide) (fun b7 => ?_) (fun b7 => ?_)
      · replace h := h.1 b7
        refine g_aload_n F (pc := 63) d_Sum_stir_63 0 rfl ?_
        obtain ⟨o8, h⟩ := h
        refine gc_getR F (pc := 64) d_Sum_stir_64 fi_Sum_9 o8 (g_iconst (v := 0) F (pc := 67) d_Sum_stir_67 (by decide) ?_)
        obtain ⟨o9, h⟩ := h
        obtain ⟨o10, h⟩ := h
        refine gc_iald F (pc := 68) d_Sum_stir_68 o9 o10 (g_istore_n (lv' := [(1, .int (c6 (rf x0 0) (Int32.toNatClampNeg 0))), (0, .ref x0)]) F (pc := 69) d_Sum_stir_69 (by decide) rfl (g_aload_n F (pc := 70) d_Sum_stir_70 1 rfl (gc_getR F (pc := 71) d_Sum_stir_71 fi_Sum_9 o8 (g_iconst (v := 1) F (pc := 74) d_Sum_stir_74 (by decide) ?_))))
        obtain ⟨o11, h⟩ := h
        refine gc_iald F (pc := 75) d_Sum_stir_75 o9 o11 (g_istore_n (lv' := [(2, .int (c6 (rf x0 0) (Int32.toNatClampNeg 1))), (1, .int (c6 (rf x0 0) (Int32.toNatClampNeg 0))), (0, .ref x0)]) F (pc := 76) d_Sum_stir_76 (by decide) rfl (g_aload_n F (pc := 77) d_Sum_stir_77 2 rfl (gc_getR F (pc := 78) d_Sum_stir_78 fi_Sum_9 o8 (g_iconst (v := 2) F (pc := 81) d_Sum_stir_81 (by decide) ?_))))
        obtain ⟨o12, h⟩ := h
        refine gc_iald F (pc := 82) d_Sum_stir_82 o9 o12 (g_istore_n (lv' := [(3, .int (c6 (rf x0 0) (Int32.toNatClampNeg 2))), (2, .int (c6 (rf x0 0) (Int32.toNatClampNeg 1))), (1, .int (c6 (rf x0 0) (Int32.toNatClampNeg 0))), (0, .ref x0)]) F (pc := 83) d_Sum_stir_83 (by decide) rfl (g_aload_n F (pc := 84) d_Sum_stir_84 3 rfl (gc_getR F (pc := 85) d_Sum_stir_85 fi_Sum_9 o8 (g_iconst (v := 3) F (pc := 88) d_Sum_stir_88 (by decide) ?_))))
        obtain ⟨o13, h⟩ := h
        refine gc_iald F (pc := 89) d_Sum_stir_89 o9 o13 (g_istore (lv' := [(4, .int (c6 (rf x0 0) (Int32.toNatClampNeg 3))), (3, .int (c6 (rf x0 0) (Int32.toNatClampNeg 2))), (2, .int (c6 (rf x0 0) (Int32.toNatClampNeg 1))), (1, .int (c6 (rf x0 0) (Int32.toNatClampNeg 0))), (0, .ref x0)]) F (pc := 90) d_Sum_stir_90 (by decide) rfl (g_aload_n F (pc := 92) d_Sum_stir_92 4 rfl (gc_getR F (pc := 93) d_Sum_stir_93 fi_Sum_9 o8 (g_iconst (v := 4) F (pc := 96) d_Sum_stir_96 (by decide) ?_))))
        obtain ⟨o14, h⟩ := h
        refine gc_iald F (pc := 97) d_Sum_stir_97 o9 o14 (g_istore (lv' := [(5, .int (c6 (rf x0 0) (Int32.toNatClampNeg 4))), (4, .int (c6 (rf x0 0) (Int32.toNatClampNeg 3))), (3, .int (c6 (rf x0 0) (Int32.toNatClampNeg 2))), (2, .int (c6 (rf x0 0) (Int32.toNatClampNeg 1))), (1, .int (c6 (rf x0 0) (Int32.toNatClampNeg 0))), (0, .ref x0)]) F (pc := 98) d_Sum_stir_98 (by decide) rfl (g_iconst (v := 0) F (pc := 100) d_Sum_stir_100 (by decide) (g_istore (lv' := [(6, .int 0), (5, .int (c6 (rf x0 0) (Int32.toNatClampNeg 4))), (4, .int (c6 (rf x0 0) (Int32.toNatClampNeg 3))), (3, .int (c6 (rf x0 0) (Int32.toNatClampNeg 2))), (2, .int (c6 (rf x0 0) (Int32.toNatClampNeg 1))), (1, .int (c6 (rf x0 0) (Int32.toNatClampNeg 0))), (0, .ref x0)]) F (pc := 101) d_Sum_stir_101 (by decide) rfl ?_)))
        refine g_lv (lv' := [(0, .ref x0), (1, .int (c6 (rf x0 0) (Int32.toNatClampNeg 0))), (2, .int (c6 (rf x0 0) (Int32.toNatClampNeg 1))), (3, .int (c6 (rf x0 0) (Int32.toNatClampNeg 2))), (4, .int (c6 (rf x0 0) (Int32.toNatClampNeg 3))), (5, .int (c6 (rf x0 0) (Int32.toNatClampNeg 4))), (6, .int 0)]) F [6, 5, 4, 3, 2, 1, 0] rfl ?_
        obtain ⟨I15, ⟨n0, h⟩, hI15⟩ := h
        have lp18 : ∀ (n16 : Nat) (y19 : Int32) (y20 : Int32) (y21 : Int32) (y22 : Int32) (y23 : Int32) (y24 : Int32) (c25 : cM), I15 n16 y19 y20 y21 y22 y23 y24 c25 → Z (wd c25) 103 [(0, .ref x0), (1, .int y19), (2, .int y20), (3, .int y21), (4, .int y22), (5, .int y23), (6, .int y24)] [] 0 0 := by
          intro n16
          induction n16 using Nat.strongRecOn with
          | _ n16 ih17 =>
            intro y19 y20 y21 y22 y23 y24 c25 h
            replace h := hI15 n16 y19 y20 y21 y22 y23 y24 c25 h
            refine g_iload F (pc := 103) d_Sum_stir_103 6 rfl (g_bipush (v := 80) F (pc := 105) d_Sum_stir_105 (by decide) ?_)
            refine g_icmp_ge (tgt := 176) F (pc := 107) d_Sum_stir_107 (by decide) (fun b26 => ?_) (fun b26 => ?_)
            · replace h := h.1 b26
              refine g_aload_n F (pc := 176) d_Sum_stir_176 0 rfl (gc_getR F (pc := 177) d_Sum_stir_177 fi_Sum_9 o8 (g_iconst (v := 0) F (pc := 180) d_Sum_stir_180 (by decide) (g_dup2 F (pc := 181) d_Sum_stir_181 rfl rfl (gc_iald F (pc := 182) d_Sum_stir_182 o9 o10 (g_iload_n F (pc := 183) d_Sum_stir_183 1 rfl ?_)))))
              refine g_iadd F (pc := 184) d_Sum_stir_184 (gc_iast F (pc := 185) d_Sum_stir_185 o9 o10 ?_)
              obtain ⟨c27, ec27⟩ : ∃ c27 : cM, c27 = c_up c25 (rf x0 0) (Int32.toNatClampNeg 0) ((c25 (rf x0 0) (Int32.toNatClampNeg 0)) + y19) := ⟨_, rfl⟩
              rw [← ec27]
              replace h := h c27 ec27
              refine g_aload_n F (pc := 186) d_Sum_stir_186 0 rfl (gc_getR F (pc := 187) d_Sum_stir_187 fi_Sum_9 o8 (g_iconst (v := 1) F (pc := 190) d_Sum_stir_190 (by decide) (g_dup2 F (pc := 191) d_Sum_stir_191 rfl rfl (gc_iald F (pc := 192) d_Sum_stir_192 o9 o11 (g_iload_n F (pc := 193) d_Sum_stir_193 2 rfl ?_)))))
              refine g_iadd F (pc := 194) d_Sum_stir_194 (gc_iast F (pc := 195) d_Sum_stir_195 o9 o11 ?_)
              obtain ⟨c28, ec28⟩ : ∃ c28 : cM, c28 = c_up c27 (rf x0 0) (Int32.toNatClampNeg 1) ((c27 (rf x0 0) (Int32.toNatClampNeg 1)) + y20) := ⟨_, rfl⟩
              rw [← ec28]
              replace h := h c28 ec28
              refine g_aload_n F (pc := 196) d_Sum_stir_196 0 rfl (gc_getR F (pc := 197) d_Sum_stir_197 fi_Sum_9 o8 (g_iconst (v := 2) F (pc := 200) d_Sum_stir_200 (by decide) (g_dup2 F (pc := 201) d_Sum_stir_201 rfl rfl (gc_iald F (pc := 202) d_Sum_stir_202 o9 o12 (g_iload_n F (pc := 203) d_Sum_stir_203 3 rfl ?_)))))
              refine g_iadd F (pc := 204) d_Sum_stir_204 (gc_iast F (pc := 205) d_Sum_stir_205 o9 o12 ?_)
              obtain ⟨c29, ec29⟩ : ∃ c29 : cM, c29 = c_up c28 (rf x0 0) (Int32.toNatClampNeg 2) ((c28 (rf x0 0) (Int32.toNatClampNeg 2)) + y21) := ⟨_, rfl⟩
              rw [← ec29]
              replace h := h c29 ec29
              refine g_aload_n F (pc := 206) d_Sum_stir_206 0 rfl (gc_getR F (pc := 207) d_Sum_stir_207 fi_Sum_9 o8 (g_iconst (v := 3) F (pc := 210) d_Sum_stir_210 (by decide) (g_dup2 F (pc := 211) d_Sum_stir_211 rfl rfl (gc_iald F (pc := 212) d_Sum_stir_212 o9 o13 (g_iload F (pc := 213) d_Sum_stir_213 4 rfl ?_)))))
              refine g_iadd F (pc := 215) d_Sum_stir_215 (gc_iast F (pc := 216) d_Sum_stir_216 o9 o13 ?_)
              obtain ⟨c30, ec30⟩ : ∃ c30 : cM, c30 = c_up c29 (rf x0 0) (Int32.toNatClampNeg 3) ((c29 (rf x0 0) (Int32.toNatClampNeg 3)) + y22) := ⟨_, rfl⟩
              rw [← ec30]
              replace h := h c30 ec30
              refine g_aload_n F (pc := 217) d_Sum_stir_217 0 rfl (gc_getR F (pc := 218) d_Sum_stir_218 fi_Sum_9 o8 (g_iconst (v := 4) F (pc := 221) d_Sum_stir_221 (by decide) (g_dup2 F (pc := 222) d_Sum_stir_222 rfl rfl (gc_iald F (pc := 223) d_Sum_stir_223 o9 o14 (g_iload F (pc := 224) d_Sum_stir_224 5 rfl ?_)))))
              refine g_iadd F (pc := 226) d_Sum_stir_226 (gc_iast F (pc := 227) d_Sum_stir_227 o9 o14 ?_)
              obtain ⟨c31, ec31⟩ : ∃ c31 : cM, c31 = c_up c30 (rf x0 0) (Int32.toNatClampNeg 4) ((c30 (rf x0 0) (Int32.toNatClampNeg 4)) + y23) := ⟨_, rfl⟩
              rw [← ec31]
              replace h := h c31 ec31
              exact g_vret T (pc := 228) d_Sum_stir_228 rfl (Nat.le_refl _) (Nat.le_refl _) (poV h)
            · replace h := h.2 b26
              refine g_iload_n F (pc := 110) d_Sum_stir_110 1 rfl (g_iconst (v := 5) F (pc := 111) d_Sum_stir_111 (by decide) ?_)
              refine gc_callSI (As := [.int y19, .int 5]) (st := []) F (pc := 112) d_Sum_stir_112 cb_Sum_92 iv_Sum_turned np_Sum_turned (c_Sum_turned h) rfl (by decide) (Nat.le_refl _) (Nat.le_refl _) (Nat.le_of_ble_eq_true rfl) (fun v33 c32 h => ?_)
              refine g_iload F (pc := 115) d_Sum_stir_115 6 rfl (g_bipush (v := 20) F (pc := 117) d_Sum_stir_117 (by decide) (g_idiv F (pc := 119) d_Sum_stir_119 (by decide) (g_iload_n F (pc := 120) d_Sum_stir_120 2 rfl (g_iload_n F (pc := 121) d_Sum_stir_121 3 rfl (g_iload F (pc := 122) d_Sum_stir_122 4 rfl ?_)))))
              refine gc_callSI (As := [.int (y24 / 20), .int y20, .int y21, .int y22]) (st := [.int v33]) F (pc := 124) d_Sum_stir_124 cb_Sum_96 iv_Sum_mixed np_Sum_mixed (c_Sum_mixed h) rfl (by decide) (Nat.le_refl _) (Nat.le_refl _) (Nat.le_of_ble_eq_true rfl) (fun v35 c34 h => ?_)
              refine g_iadd F (pc := 127) d_Sum_stir_127 (g_iload F (pc := 128) d_Sum_stir_128 5 rfl (g_iadd F (pc := 130) d_Sum_stir_130 (go_st F (pc := 131) d_Sum_stir_131 gs_Sum_100 (g_iload F (pc := 134) d_Sum_stir_134 6 rfl (g_bipush (v := 20) F (pc := 136) d_Sum_stir_136 (by decide) ?_)))))
              refine g_idiv F (pc := 138) d_Sum_stir_138 (by decide) ?_
              obtain ⟨o36, h⟩ := h
              obtain ⟨o37, h⟩ := h
              refine go_iald F (pc := 139) d_Sum_stir_139 o36 o37 (g_iadd F (pc := 140) d_Sum_stir_140 (g_aload_n F (pc := 141) d_Sum_stir_141 0 rfl (gc_getR F (pc := 142) d_Sum_stir_142 fi_Sum_15 o8 (g_iload F (pc := 145) d_Sum_stir_145 6 rfl ?_))))
              obtain ⟨o38, h⟩ := h
              obtain ⟨o39, h⟩ := h
              refine gc_iald F (pc := 147) d_Sum_stir_147 o38 o39 (g_iadd F (pc := 148) d_Sum_stir_148 (g_istore (lv' := [(7, .int ((((v33 + v35) + y23) + (oc 2 (Int32.toNatClampNeg (y24 / 20)))) + (c34 (rf x0 1) (Int32.toNatClampNeg y24)))), (0, .ref x0), (1, .int y19), (2, .int y20), (3, .int y21), (4, .int y22), (5, .int y23), (6, .int y24)]) F (pc := 149) d_Sum_stir_149 (by decide) rfl (g_iload F (pc := 151) d_Sum_stir_151 5 rfl (g_istore (lv' := [(5, .int y22), (7, .int ((((v33 + v35) + y23) + (oc 2 (Int32.toNatClampNeg (y24 / 20)))) + (c34 (rf x0 1) (Int32.toNatClampNeg y24)))), (0, .ref x0), (1, .int y19), (2, .int y20), (3, .int y21), (4, .int y22), (6, .int y24)]) F (pc := 153) d_Sum_stir_153 (by decide) rfl (g_iload_n F (pc := 155) d_Sum_stir_155 5 rfl ?_)))))
              refine g_istore (lv' := [(4, .int y21), (5, .int y22), (7, .int ((((v33 + v35) + y23) + (oc 2 (Int32.toNatClampNeg (y24 / 20)))) + (c34 (rf x0 1) (Int32.toNatClampNeg y24)))), (0, .ref x0), (1, .int y19), (2, .int y20), (3, .int y21), (6, .int y24)]) F (pc := 156) d_Sum_stir_156 (by decide) rfl (g_iload_n F (pc := 158) d_Sum_stir_158 5 rfl (g_bipush (v := 30) F (pc := 159) d_Sum_stir_159 (by decide) ?_))
              refine gc_callSI (As := [.int y20, .int 30]) (st := []) F (pc := 161) d_Sum_stir_161 cb_Sum_92 iv_Sum_turned np_Sum_turned (c_Sum_turned h) rfl (by decide) (Nat.le_refl _) (Nat.le_refl _) (Nat.le_of_ble_eq_true rfl) (fun v41 c40 h => ?_)
              refine g_istore_n (lv' := [(3, .int v41), (4, .int y21), (5, .int y22), (7, .int ((((v33 + v35) + y23) + (oc 2 (Int32.toNatClampNeg (y24 / 20)))) + (c34 (rf x0 1) (Int32.toNatClampNeg y24)))), (0, .ref x0), (1, .int y19), (2, .int y20), (6, .int y24)]) F (pc := 164) d_Sum_stir_164 (by decide) rfl (g_iload_n F (pc := 165) d_Sum_stir_165 5 rfl (g_istore_n (lv' := [(2, .int y19), (3, .int v41), (4, .int y21), (5, .int y22), (7, .int ((((v33 + v35) + y23) + (oc 2 (Int32.toNatClampNeg (y24 / 20)))) + (c34 (rf x0 1) (Int32.toNatClampNeg y24)))), (0, .ref x0), (1, .int y19), (6, .int y24)]) F (pc := 166) d_Sum_stir_166 (by decide) rfl (g_iload F (pc := 167) d_Sum_stir_167 4 rfl (g_istore_n (lv' := [(1, .int ((((v33 + v35) + y23) + (oc 2 (Int32.toNatClampNeg (y24 / 20)))) + (c34 (rf x0 1) (Int32.toNatClampNeg y24)))), (2, .int y19), (3, .int v41), (4, .int y21), (5, .int y22), (7, .int ((((v33 + v35) + y23) + (oc 2 (Int32.toNatClampNeg (y24 / 20)))) + (c34 (rf x0 1) (Int32.toNatClampNeg y24)))), (0, .ref x0), (6, .int y24)]) F (pc := 169) d_Sum_stir_169 (by decide) rfl (g_iinc (v := (y24 + 1)) (lv' := [(6, .int (y24 + 1)), (1, .int ((((v33 + v35) + y23) + (oc 2 (Int32.toNatClampNeg (y24 / 20)))) + (c34 (rf x0 1) (Int32.toNatClampNeg y24)))), (2, .int y19), (3, .int v41), (4, .int y21), (5, .int y22), (7, .int ((((v33 + v35) + y23) + (oc 2 (Int32.toNatClampNeg (y24 / 20)))) + (c34 (rf x0 1) (Int32.toNatClampNeg y24)))), (0, .ref x0)]) F (pc := 170) d_Sum_stir_170 7 rfl (sk_inc (by decide)) (by decide) rfl ?_)))))
              refine g_goto (tgt := 103) F (pc := 173) d_Sum_stir_173 (by decide) ?_
              refine g_lv (lv' := [(0, .ref x0), (1, .int ((((v33 + v35) + y23) + (oc 2 (Int32.toNatClampNeg (y24 / 20)))) + (c34 (rf x0 1) (Int32.toNatClampNeg y24)))), (2, .int y19), (3, .int v41), (4, .int y21), (5, .int y22), (6, .int (y24 + 1))]) F [7, 1, 2, 3, 4, 5, 0] rfl ?_
              obtain ⟨m, hm, h⟩ := h
              exact ih17 m hm _ _ _ _ _ _ _ h
        exact lp18 n0 _ _ _ _ _ _ _ h
      · replace h := h.2 b7
        refine g_aload_n F (pc := 9) d_Sum_stir_9 0 rfl ?_
        obtain ⟨o42, h⟩ := h
        refine gc_getR F (pc := 10) d_Sum_stir_10 fi_Sum_15 o42 (g_iload_n F (pc := 13) d_Sum_stir_13 1 rfl (g_aload_n F (pc := 14) d_Sum_stir_14 0 rfl (gc_getR F (pc := 15) d_Sum_stir_15 fi_Sum_15 o42 (g_iload_n F (pc := 18) d_Sum_stir_18 1 rfl (g_iconst (v := 3) F (pc := 19) d_Sum_stir_19 (by decide) ?_)))))
        refine g_isub F (pc := 20) d_Sum_stir_20 ?_
        obtain ⟨o43, h⟩ := h
        obtain ⟨o44, h⟩ := h
        refine gc_iald F (pc := 21) d_Sum_stir_21 o43 o44 (g_aload_n F (pc := 22) d_Sum_stir_22 0 rfl (gc_getR F (pc := 23) d_Sum_stir_23 fi_Sum_15 o42 (g_iload_n F (pc := 26) d_Sum_stir_26 1 rfl (g_bipush (v := 8) F (pc := 27) d_Sum_stir_27 (by decide) (g_isub F (pc := 29) d_Sum_stir_29 ?_)))))
        obtain ⟨o45, h⟩ := h
        refine gc_iald F (pc := 30) d_Sum_stir_30 o43 o45 (g_ixor F (pc := 31) d_Sum_stir_31 (g_aload_n F (pc := 32) d_Sum_stir_32 0 rfl (gc_getR F (pc := 33) d_Sum_stir_33 fi_Sum_15 o42 (g_iload_n F (pc := 36) d_Sum_stir_36 1 rfl (g_bipush (v := 14) F (pc := 37) d_Sum_stir_37 (by decide) ?_)))))
        refine g_isub F (pc := 39) d_Sum_stir_39 ?_
        obtain ⟨o46, h⟩ := h
        refine gc_iald F (pc := 40) d_Sum_stir_40 o43 o46 (g_ixor F (pc := 41) d_Sum_stir_41 (g_aload_n F (pc := 42) d_Sum_stir_42 0 rfl (gc_getR F (pc := 43) d_Sum_stir_43 fi_Sum_15 o42 (g_iload_n F (pc := 46) d_Sum_stir_46 1 rfl (g_bipush (v := 16) F (pc := 47) d_Sum_stir_47 (by decide) ?_)))))
        refine g_isub F (pc := 49) d_Sum_stir_49 ?_
        obtain ⟨o47, h⟩ := h
        refine gc_iald F (pc := 50) d_Sum_stir_50 o43 o47 (g_ixor F (pc := 51) d_Sum_stir_51 (g_iconst (v := 1) F (pc := 52) d_Sum_stir_52 (by decide) ?_))
        refine gc_callSI (As := [.int ((((c6 (rf x0 1) (Int32.toNatClampNeg (y5 - 3))) ^^^ (c6 (rf x0 1) (Int32.toNatClampNeg (y5 - 8)))) ^^^ (c6 (rf x0 1) (Int32.toNatClampNeg (y5 - 14)))) ^^^ (c6 (rf x0 1) (Int32.toNatClampNeg (y5 - 16)))), .int 1]) (st := [.int y5, .ref (rf x0 1)]) F (pc := 53) d_Sum_stir_53 cb_Sum_92 iv_Sum_turned np_Sum_turned (c_Sum_turned h) rfl (by decide) (Nat.le_refl _) (Nat.le_refl _) (Nat.le_of_ble_eq_true rfl) (fun v49 c48 h => ?_)
        obtain ⟨o50, h⟩ := h
        refine gc_iast F (pc := 56) d_Sum_stir_56 o43 o50 ?_
        obtain ⟨c51, ec51⟩ : ∃ c51 : cM, c51 = c_up c48 (rf x0 1) (Int32.toNatClampNeg y5) v49 := ⟨_, rfl⟩
        rw [← ec51]
        replace h := h c51 ec51
        refine g_iinc (v := (y5 + 1)) (lv' := [(1, .int (y5 + 1)), (0, .ref x0)]) F (pc := 57) d_Sum_stir_57 1 rfl (sk_inc (by decide)) (by decide) rfl (g_goto (tgt := 3) F (pc := 60) d_Sum_stir_60 (by decide) ?_)
        refine g_lv (lv' := [(0, .ref x0), (1, .int (y5 + 1))]) F [1, 0] rfl ?_
        obtain ⟨m, hm, h⟩ := h
        exact ih3 m hm _ _ h
  exact lp4 n0 _ _ h
theorem d_Sum_take_0 : decode M_Sum_take.2.1 0 = .ok (.aload_n 0, 1) := by decide +kernel
theorem d_Sum_take_1 : decode M_Sum_take.2.1 1 = .ok (.getfield 27, 3) := by decide +kernel
theorem d_Sum_take_4 : decode M_Sum_take.2.1 4 = .ok (.bipush 63, 2) := by decide +kernel
theorem d_Sum_take_6 : decode M_Sum_take.2.1 6 = .ok (.iand, 1) := by decide +kernel
theorem d_Sum_take_7 : decode M_Sum_take.2.1 7 = .ok (.iconst 2, 1) := by decide +kernel
theorem d_Sum_take_8 : decode M_Sum_take.2.1 8 = .ok (.ishr, 1) := by decide +kernel
theorem d_Sum_take_9 : decode M_Sum_take.2.1 9 = .ok (.istore_n 2, 1) := by decide +kernel
theorem d_Sum_take_10 : decode M_Sum_take.2.1 10 = .ok (.aload_n 0, 1) := by decide +kernel
theorem d_Sum_take_11 : decode M_Sum_take.2.1 11 = .ok (.getfield 15, 3) := by decide +kernel
theorem d_Sum_take_14 : decode M_Sum_take.2.1 14 = .ok (.iload_n 2, 1) := by decide +kernel
theorem d_Sum_take_15 : decode M_Sum_take.2.1 15 = .ok (.aload_n 0, 1) := by decide +kernel
theorem d_Sum_take_16 : decode M_Sum_take.2.1 16 = .ok (.getfield 15, 3) := by decide +kernel
theorem d_Sum_take_19 : decode M_Sum_take.2.1 19 = .ok (.iload_n 2, 1) := by decide +kernel
theorem d_Sum_take_20 : decode M_Sum_take.2.1 20 = .ok (.iaload, 1) := by decide +kernel
theorem d_Sum_take_21 : decode M_Sum_take.2.1 21 = .ok (.bipush 8, 2) := by decide +kernel
theorem d_Sum_take_23 : decode M_Sum_take.2.1 23 = .ok (.ishl, 1) := by decide +kernel
theorem d_Sum_take_24 : decode M_Sum_take.2.1 24 = .ok (.iload_n 1, 1) := by decide +kernel
theorem d_Sum_take_25 : decode M_Sum_take.2.1 25 = .ok (.ior, 1) := by decide +kernel
theorem d_Sum_take_26 : decode M_Sum_take.2.1 26 = .ok (.iastore, 1) := by decide +kernel
theorem d_Sum_take_27 : decode M_Sum_take.2.1 27 = .ok (.aload_n 0, 1) := by decide +kernel
theorem d_Sum_take_28 : decode M_Sum_take.2.1 28 = .ok (.dup, 1) := by decide +kernel
theorem d_Sum_take_29 : decode M_Sum_take.2.1 29 = .ok (.getfield 27, 3) := by decide +kernel
theorem d_Sum_take_32 : decode M_Sum_take.2.1 32 = .ok (.iconst 1, 1) := by decide +kernel
theorem d_Sum_take_33 : decode M_Sum_take.2.1 33 = .ok (.iadd, 1) := by decide +kernel
theorem d_Sum_take_34 : decode M_Sum_take.2.1 34 = .ok (.putfield 27, 3) := by decide +kernel
theorem d_Sum_take_37 : decode M_Sum_take.2.1 37 = .ok (.aload_n 0, 1) := by decide +kernel
theorem d_Sum_take_38 : decode M_Sum_take.2.1 38 = .ok (.getfield 27, 3) := by decide +kernel
theorem d_Sum_take_41 : decode M_Sum_take.2.1 41 = .ok (.bipush 63, 2) := by decide +kernel
theorem d_Sum_take_43 : decode M_Sum_take.2.1 43 = .ok (.iand, 1) := by decide +kernel
theorem d_Sum_take_44 : decode M_Sum_take.2.1 44 = .ok (.ifCond .ne 7, 3) := by decide +kernel
theorem d_Sum_take_47 : decode M_Sum_take.2.1 47 = .ok (.aload_n 0, 1) := by decide +kernel
theorem d_Sum_take_48 : decode M_Sum_take.2.1 48 = .ok (.invokevirtual 89, 3) := by decide +kernel
theorem d_Sum_take_51 : decode M_Sum_take.2.1 51 = .ok (.return_, 1) := by decide +kernel
def f_Sum_take (x0 : Nat) (x1 : Int32) (c : cM) (K : cM → Prop) : Prop :=
  kd x0 = 2 ∧ (kd (rf x0 1) = 100 ∧ (vp_in (c_shr ((c x0 3) &&& 63) 2) (ln (rf x0 1)) ∧ (∀ c4 : cM, c4 = c_up c (rf x0 1) (Int32.toNatClampNeg (c_shr ((c x0 3) &&& 63) 2)) ((c_shl (c (rf x0 1) (Int32.toNatClampNeg (c_shr ((c x0 3) &&& 63) 2))) 8) ||| x1) → (∀ c5 : cM, c5 = c_up c4 x0 3 ((c4 x0 3) + 1) → (((¬ ((c5 x0 3) &&& 63) = 0) → (K c5)) ∧ (((c5 x0 3) &&& 63) = 0 → (f_Sum_stir x0 c5 (fun c7 => K c7))))))))
theorem c_Sum_take {x0 : Nat} {x1 : Int32} {c : cM} {K : cM → Prop} (h : f_Sum_take x0 x1 c K) : Ct M_Sum_take 2 0 0 (wd c) [.ref x0, .int x1] (PoV K) := by
  refine Ct.of (by decide +kernel) (Nat.le_of_ble_eq_true rfl) (fun Z T => ?_)
  have F := T.F
  unfold f_Sum_take at h
  show Z (wd c) 0 [(0, .ref x0), (1, .int x1)] [] 0 0
  refine g_aload_n F (pc := 0) d_Sum_take_0 0 rfl ?_
  obtain ⟨o1, h⟩ := h
  refine gc_getI F (pc := 1) d_Sum_take_1 fi_Sum_27 o1 (g_bipush (v := 63) F (pc := 4) d_Sum_take_4 (by decide) (g_iand F (pc := 6) d_Sum_take_6 (g_iconst (v := 2) F (pc := 7) d_Sum_take_7 (by decide) (g_ishr F (pc := 8) d_Sum_take_8 (g_istore_n (lv' := [(2, .int (c_shr ((c x0 3) &&& 63) 2)), (0, .ref x0), (1, .int x1)]) F (pc := 9) d_Sum_take_9 (by decide) rfl ?_)))))
  refine g_aload_n F (pc := 10) d_Sum_take_10 1 rfl (gc_getR F (pc := 11) d_Sum_take_11 fi_Sum_15 o1 (g_iload_n F (pc := 14) d_Sum_take_14 0 rfl (g_aload_n F (pc := 15) d_Sum_take_15 1 rfl (gc_getR F (pc := 16) d_Sum_take_16 fi_Sum_15 o1 (g_iload_n F (pc := 19) d_Sum_take_19 0 rfl ?_)))))
  obtain ⟨o2, h⟩ := h
  obtain ⟨o3, h⟩ := h
  refine gc_iald F (pc := 20) d_Sum_take_20 o2 o3 (g_bipush (v := 8) F (pc := 21) d_Sum_take_21 (by decide) (g_ishl F (pc := 23) d_Sum_take_23 (g_iload_n F (pc := 24) d_Sum_take_24 2 rfl (g_ior F (pc := 25) d_Sum_take_25 (gc_iast F (pc := 26) d_Sum_take_26 o2 o3 ?_)))))
  obtain ⟨c4, ec4⟩ : ∃ c4 : cM, c4 = c_up c (rf x0 1) (Int32.toNatClampNeg (c_shr ((c x0 3) &&& 63) 2)) ((c_shl (c (rf x0 1) (Int32.toNatClampNeg (c_shr ((c x0 3) &&& 63) 2))) 8) ||| x1) := ⟨_, rfl⟩
  rw [← ec4]
  replace h := h c4 ec4
  refine g_aload_n F (pc := 27) d_Sum_take_27 1 rfl (g_dup F (pc := 28) d_Sum_take_28 rfl (gc_getI F (pc := 29) d_Sum_take_29 fi_Sum_27 o1 (g_iconst (v := 1) F (pc := 32) d_Sum_take_32 (by decide) (g_iadd F (pc := 33) d_Sum_take_33 (gc_putI F (pc := 34) d_Sum_take_34 pi_Sum_27 o1 ?_)))))
  obtain ⟨c5, ec5⟩ : ∃ c5 : cM, c5 = c_up c4 x0 3 ((c4 x0 3) + 1) := ⟨_, rfl⟩
  rw [← ec5]
  replace h := h c5 ec5
  refine g_aload_n F (pc := 37) d_Sum_take_37 1 rfl (gc_getI F (pc := 38) d_Sum_take_38 fi_Sum_27 o1 (g_bipush (v := 63) F (pc := 41) d_Sum_take_41 (by decide) (g_iand F (pc := 43) d_Sum_take_43 ?_)))
  refine g_if_ne (tgt := 51) F (pc := 44) d_Sum_take_44 (by decide) (fun b6 => ?_) (fun b6 => ?_)
  · replace h := h.1 b6
    exact g_vret T (pc := 51) d_Sum_take_51 rfl (Nat.le_refl _) (Nat.le_refl _) (poV h)
  · replace h := h.2 b6
    refine g_aload_n F (pc := 47) d_Sum_take_47 1 rfl ?_
    refine gc_callVV (As := []) (st := []) F (pc := 48) d_Sum_take_48 cb_Sum_89 iv_Sum_stir np_Sum_stir o1 vc_2 (c_Sum_stir h) rfl (by decide) (Nat.le_refl _) (Nat.le_refl _) (Nat.le_of_ble_eq_true rfl) (fun c7 h => ?_)
    exact g_vret T (pc := 51) d_Sum_take_51 rfl (Nat.le_refl _) (Nat.le_refl _) (poV h)
theorem d_Sum_takeRow_0 : decode M_Sum_takeRow.2.1 0 = .ok (.iconst 0, 1) := by decide +kernel
theorem d_Sum_takeRow_1 : decode M_Sum_takeRow.2.1 1 = .ok (.istore_n 3, 1) := by decide +kernel
theorem d_Sum_takeRow_2 : decode M_Sum_takeRow.2.1 2 = .ok (.iload_n 3, 1) := by decide +kernel
theorem d_Sum_takeRow_3 : decode M_Sum_takeRow.2.1 3 = .ok (.iload_n 2, 1) := by decide +kernel
theorem d_Sum_takeRow_4 : decode M_Sum_takeRow.2.1 4 = .ok (.if_icmp .ge 27, 3) := by decide +kernel
theorem d_Sum_takeRow_7 : decode M_Sum_takeRow.2.1 7 = .ok (.iload_n 3, 1) := by decide +kernel
theorem d_Sum_takeRow_8 : decode M_Sum_takeRow.2.1 8 = .ok (.aload_n 1, 1) := by decide +kernel
theorem d_Sum_takeRow_9 : decode M_Sum_takeRow.2.1 9 = .ok (.getfield 62, 3) := by decide +kernel
theorem d_Sum_takeRow_12 : decode M_Sum_takeRow.2.1 12 = .ok (.if_icmp .ge 19, 3) := by decide +kernel
theorem d_Sum_takeRow_15 : decode M_Sum_takeRow.2.1 15 = .ok (.aload_n 0, 1) := by decide +kernel
theorem d_Sum_takeRow_16 : decode M_Sum_takeRow.2.1 16 = .ok (.aload_n 1, 1) := by decide +kernel
theorem d_Sum_takeRow_17 : decode M_Sum_takeRow.2.1 17 = .ok (.getfield 83, 3) := by decide +kernel
theorem d_Sum_takeRow_20 : decode M_Sum_takeRow.2.1 20 = .ok (.iload_n 3, 1) := by decide +kernel
theorem d_Sum_takeRow_21 : decode M_Sum_takeRow.2.1 21 = .ok (.iaload, 1) := by decide +kernel
theorem d_Sum_takeRow_22 : decode M_Sum_takeRow.2.1 22 = .ok (.invokevirtual 86, 3) := by decide +kernel
theorem d_Sum_takeRow_25 : decode M_Sum_takeRow.2.1 25 = .ok (.iinc 3 1, 3) := by decide +kernel
theorem d_Sum_takeRow_28 : decode M_Sum_takeRow.2.1 28 = .ok (.goto (-26), 3) := by decide +kernel
theorem d_Sum_takeRow_31 : decode M_Sum_takeRow.2.1 31 = .ok (.return_, 1) := by decide +kernel
def f_Sum_takeRow (x0 : Nat) (x1 : Nat) (x2 : Int32) (c : cM) (K : cM → Prop) : Prop :=
  ∃ I1 : Nat → Int32 → cM → Prop, (∃ n, I1 n 0 c) ∧ ∀ (n2 : Nat) (y5 : Int32) (c6 : cM), I1 n2 y5 c6 → (((x2 ≤ y5) → (K c6)) ∧ (¬ (x2 ≤ y5) → (kd x1 = 1 ∧ ((((c6 x1 1) ≤ y5) → (K c6)) ∧ (¬ ((c6 x1 1) ≤ y5) → (kd (rf x1 0) = 100 ∧ (vp_in y5 (ln (rf x1 0)) ∧ (kd x0 = 2 ∧ (f_Sum_take x0 (c6 (rf x1 0) (Int32.toNatClampNeg y5)) c6 (fun c13 => ∃ m, m < n2 ∧ I1 m (y5 + 1) c13))))))))))
theorem c_Sum_takeRow {x0 : Nat} {x1 : Nat} {x2 : Int32} {c : cM} {K : cM → Prop} (h : f_Sum_takeRow x0 x1 x2 c K) : Ct M_Sum_takeRow 3 0 0 (wd c) [.ref x0, .ref x1, .int x2] (PoV K) := by
  refine Ct.of (by decide +kernel) (Nat.le_of_ble_eq_true rfl) (fun Z T => ?_)
  have F := T.F
  unfold f_Sum_takeRow at h
  show Z (wd c) 0 [(0, .ref x0), (1, .ref x1), (2, .int x2)] [] 0 0
  refine g_iconst (v := 0) F (pc := 0) d_Sum_takeRow_0 (by decide) (g_istore_n (lv' := [(3, .int 0), (0, .ref x0), (1, .ref x1), (2, .int x2)]) F (pc := 1) d_Sum_takeRow_1 (by decide) rfl ?_)
  refine g_lv (lv' := [(0, .ref x0), (1, .ref x1), (2, .int x2), (3, .int 0)]) F [1, 2, 3, 0] rfl ?_
  obtain ⟨I1, ⟨n0, h⟩, hI1⟩ := h
  have lp4 : ∀ (n2 : Nat) (y5 : Int32) (c6 : cM), I1 n2 y5 c6 → Z (wd c6) 2 [(0, .ref x0), (1, .ref x1), (2, .int x2), (3, .int y5)] [] 0 0 := by
    intro n2
    induction n2 using Nat.strongRecOn with
    | _ n2 ih3 =>
      intro y5 c6 h
      replace h := hI1 n2 y5 c6 h
      refine g_iload_n F (pc := 2) d_Sum_takeRow_2 3 rfl (g_iload_n F (pc := 3) d_Sum_takeRow_3 2 rfl ?_)
      refine g_icmp_ge (tgt := 31) F (pc := 4) d_Sum_takeRow_4 (by decide) (fun b7 => ?_) (fun b7 => ?_)
      · replace h := h.1 b7
        exact g_vret T (pc := 31) d_Sum_takeRow_31 rfl (Nat.le_refl _) (Nat.le_refl _) (poV h)
      · replace h := h.2 b7
        refine g_iload_n F (pc := 7) d_Sum_takeRow_7 3 rfl (g_aload_n F (pc := 8) d_Sum_takeRow_8 1 rfl ?_)
        obtain ⟨o8, h⟩ := h
        refine gc_getI F (pc := 9) d_Sum_takeRow_9 fi_Sum_62 o8 ?_
        refine g_icmp_ge (tgt := 31) F (pc := 12) d_Sum_takeRow_12 (by decide) (fun b9 => ?_) (fun b9 => ?_)
        · replace h := h.1 b9
          exact g_vret T (pc := 31) d_Sum_takeRow_31 rfl (Nat.le_refl _) (Nat.le_refl _) (poV h)
        · replace h := h.2 b9
          refine g_aload_n F (pc := 15) d_Sum_takeRow_15 0 rfl (g_aload_n F (pc := 16) d_Sum_takeRow_16 1 rfl (gc_getR F (pc := 17) d_Sum_takeRow_17 fi_Sum_83 o8 (g_iload_n F (pc := 20) d_Sum_takeRow_20 3 rfl ?_)))
          obtain ⟨o10, h⟩ := h
          obtain ⟨o11, h⟩ := h
          refine gc_iald F (pc := 21) d_Sum_takeRow_21 o10 o11 ?_
          obtain ⟨o12, h⟩ := h
          refine gc_callVV (As := [.int (c6 (rf x1 0) (Int32.toNatClampNeg y5))]) (st := []) F (pc := 22) d_Sum_takeRow_22 cb_Sum_86 iv_Sum_take np_Sum_take o12 vc_2 (c_Sum_take h) rfl (by decide) (Nat.le_refl _) (Nat.le_refl _) (Nat.le_of_ble_eq_true rfl) (fun c13 h => ?_)
          refine g_iinc (v := (y5 + 1)) (lv' := [(3, .int (y5 + 1)), (0, .ref x0), (1, .ref x1), (2, .int x2)]) F (pc := 25) d_Sum_takeRow_25 3 rfl (sk_inc (by decide)) (by decide) rfl (g_goto (tgt := 2) F (pc := 28) d_Sum_takeRow_28 (by decide) ?_)
          refine g_lv (lv' := [(0, .ref x0), (1, .ref x1), (2, .int x2), (3, .int (y5 + 1))]) F [1, 2, 3, 0] rfl ?_
          obtain ⟨m, hm, h⟩ := h
          exact ih3 m hm _ _ h
  exact lp4 n0 _ _ h
theorem d_Sum_end_0 : decode M_Sum_end.2.1 0 = .ok (.bipush 8, 2) := by decide +kernel
theorem d_Sum_end_2 : decode M_Sum_end.2.1 2 = .ok (.aload_n 0, 1) := by decide +kernel
theorem d_Sum_end_3 : decode M_Sum_end.2.1 3 = .ok (.getfield 27, 3) := by decide +kernel
theorem d_Sum_end_6 : decode M_Sum_end.2.1 6 = .ok (.imul, 1) := by decide +kernel
theorem d_Sum_end_7 : decode M_Sum_end.2.1 7 = .ok (.istore_n 1, 1) := by decide +kernel
theorem d_Sum_end_8 : decode M_Sum_end.2.1 8 = .ok (.aload_n 0, 1) := by decide +kernel
theorem d_Sum_end_9 : decode M_Sum_end.2.1 9 = .ok (.sipush 128, 3) := by decide +kernel
theorem d_Sum_end_12 : decode M_Sum_end.2.1 12 = .ok (.invokevirtual 86, 3) := by decide +kernel
theorem d_Sum_end_15 : decode M_Sum_end.2.1 15 = .ok (.bipush 120, 2) := by decide +kernel
theorem d_Sum_end_17 : decode M_Sum_end.2.1 17 = .ok (.aload_n 0, 1) := by decide +kernel
theorem d_Sum_end_18 : decode M_Sum_end.2.1 18 = .ok (.getfield 27, 3) := by decide +kernel
theorem d_Sum_end_21 : decode M_Sum_end.2.1 21 = .ok (.bipush 63, 2) := by decide +kernel
theorem d_Sum_end_23 : decode M_Sum_end.2.1 23 = .ok (.iand, 1) := by decide +kernel
theorem d_Sum_end_24 : decode M_Sum_end.2.1 24 = .ok (.isub, 1) := by decide +kernel
theorem d_Sum_end_25 : decode M_Sum_end.2.1 25 = .ok (.bipush 63, 2) := by decide +kernel
theorem d_Sum_end_27 : decode M_Sum_end.2.1 27 = .ok (.iand, 1) := by decide +kernel
theorem d_Sum_end_28 : decode M_Sum_end.2.1 28 = .ok (.istore_n 2, 1) := by decide +kernel
theorem d_Sum_end_29 : decode M_Sum_end.2.1 29 = .ok (.iload_n 2, 1) := by decide +kernel
theorem d_Sum_end_30 : decode M_Sum_end.2.1 30 = .ok (.ifCond .le 14, 3) := by decide +kernel
theorem d_Sum_end_33 : decode M_Sum_end.2.1 33 = .ok (.aload_n 0, 1) := by decide +kernel
theorem d_Sum_end_34 : decode M_Sum_end.2.1 34 = .ok (.iconst 0, 1) := by decide +kernel
theorem d_Sum_end_35 : decode M_Sum_end.2.1 35 = .ok (.invokevirtual 86, 3) := by decide +kernel
theorem d_Sum_end_38 : decode M_Sum_end.2.1 38 = .ok (.iinc 2 (-1), 3) := by decide +kernel
theorem d_Sum_end_41 : decode M_Sum_end.2.1 41 = .ok (.goto (-12), 3) := by decide +kernel
theorem d_Sum_end_44 : decode M_Sum_end.2.1 44 = .ok (.iconst 0, 1) := by decide +kernel
theorem d_Sum_end_45 : decode M_Sum_end.2.1 45 = .ok (.istore_n 2, 1) := by decide +kernel
theorem d_Sum_end_46 : decode M_Sum_end.2.1 46 = .ok (.iload_n 2, 1) := by decide +kernel
theorem d_Sum_end_47 : decode M_Sum_end.2.1 47 = .ok (.iconst 4, 1) := by decide +kernel
theorem d_Sum_end_48 : decode M_Sum_end.2.1 48 = .ok (.if_icmp .ge 14, 3) := by decide +kernel
theorem d_Sum_end_51 : decode M_Sum_end.2.1 51 = .ok (.aload_n 0, 1) := by decide +kernel
theorem d_Sum_end_52 : decode M_Sum_end.2.1 52 = .ok (.iconst 0, 1) := by decide +kernel
theorem d_Sum_end_53 : decode M_Sum_end.2.1 53 = .ok (.invokevirtual 86, 3) := by decide +kernel
theorem d_Sum_end_56 : decode M_Sum_end.2.1 56 = .ok (.iinc 2 1, 3) := by decide +kernel
theorem d_Sum_end_59 : decode M_Sum_end.2.1 59 = .ok (.goto (-13), 3) := by decide +kernel
theorem d_Sum_end_62 : decode M_Sum_end.2.1 62 = .ok (.bipush 24, 2) := by decide +kernel
theorem d_Sum_end_64 : decode M_Sum_end.2.1 64 = .ok (.istore_n 2, 1) := by decide +kernel
theorem d_Sum_end_65 : decode M_Sum_end.2.1 65 = .ok (.iload_n 2, 1) := by decide +kernel
theorem d_Sum_end_66 : decode M_Sum_end.2.1 66 = .ok (.ifCond .lt 20, 3) := by decide +kernel
theorem d_Sum_end_69 : decode M_Sum_end.2.1 69 = .ok (.aload_n 0, 1) := by decide +kernel
theorem d_Sum_end_70 : decode M_Sum_end.2.1 70 = .ok (.iload_n 1, 1) := by decide +kernel
theorem d_Sum_end_71 : decode M_Sum_end.2.1 71 = .ok (.iload_n 2, 1) := by decide +kernel
theorem d_Sum_end_72 : decode M_Sum_end.2.1 72 = .ok (.iushr, 1) := by decide +kernel
theorem d_Sum_end_73 : decode M_Sum_end.2.1 73 = .ok (.sipush 255, 3) := by decide +kernel
theorem d_Sum_end_76 : decode M_Sum_end.2.1 76 = .ok (.iand, 1) := by decide +kernel
theorem d_Sum_end_77 : decode M_Sum_end.2.1 77 = .ok (.invokevirtual 86, 3) := by decide +kernel
theorem d_Sum_end_80 : decode M_Sum_end.2.1 80 = .ok (.iinc 2 (-8), 3) := by decide +kernel
theorem d_Sum_end_83 : decode M_Sum_end.2.1 83 = .ok (.goto (-18), 3) := by decide +kernel
theorem d_Sum_end_86 : decode M_Sum_end.2.1 86 = .ok (.return_, 1) := by decide +kernel
def f_Sum_end (x0 : Nat) (c : cM) (K : cM → Prop) : Prop :=
  kd x0 = 2 ∧ (f_Sum_take x0 128 c (fun c2 => ∃ I3 : Nat → Int32 → cM → Prop, (∃ n, I3 n ((120 - ((c2 x0 3) &&& 63)) &&& 63) c2) ∧ ∀ (n4 : Nat) (y7 : Int32) (c8 : cM), I3 n4 y7 c8 → (((y7 ≤ 0) → (∃ I10 : Nat → Int32 → cM → Prop, (∃ n, I10 n 0 c8) ∧ ∀ (n11 : Nat) (y14 : Int32) (c15 : cM), I10 n11 y14 c15 → (((4 ≤ y14) → (∃ I17 : Nat → Int32 → cM → Prop, (∃ n, I17 n 24 c15) ∧ ∀ (n18 : Nat) (y21 : Int32) (c22 : cM), I17 n18 y21 c22 → (((y21 < 0) → (K c22)) ∧ (¬ (y21 < 0) → (f_Sum_take x0 ((c_ushr (8 * (c x0 3)) y21) &&& 255) c22 (fun c24 => ∃ m, m < n18 ∧ I17 m (y21 + (-8)) c24)))))) ∧ (¬ (4 ≤ y14) → (f_Sum_take x0 0 c15 (fun c25 => ∃ m, m < n11 ∧ I10 m (y14 + 1) c25)))))) ∧ (¬ (y7 ≤ 0) → (f_Sum_take x0 0 c8 (fun c26 => ∃ m, m < n4 ∧ I3 m (y7 + (-1)) c26))))))
theorem c_Sum_end {x0 : Nat} {c : cM} {K : cM → Prop} (h : f_Sum_end x0 c K) : Ct M_Sum_end 3 0 0 (wd c) [.ref x0] (PoV K) := by
  refine Ct.of (by decide +kernel) (Nat.le_of_ble_eq_true rfl) (fun Z T => ?_)
  have F := T.F
  unfold f_Sum_end at h
  show Z (wd c) 0 [(0, .ref x0)] [] 0 0
  refine g_bipush (v := 8) F (pc := 0) d_Sum_end_0 (by decide) (g_aload_n F (pc := 2) d_Sum_end_2 0 rfl ?_)
  obtain ⟨o1, h⟩ := h
  refine gc_getI F (pc := 3) d_Sum_end_3 fi_Sum_27 o1 (g_imul F (pc := 6) d_Sum_end_6 (g_istore_n (lv' := [(1, .int (8 * (c x0 3))), (0, .ref x0)]) F (pc := 7) d_Sum_end_7 (by decide) rfl (g_aload_n F (pc := 8) d_Sum_end_8 1 rfl (g_sipush (v := 128) F (pc := 9) d_Sum_end_9 (by decide) ?_))))
  refine gc_callVV (As := [.int 128]) (st := []) F (pc := 12) d_Sum_end_12 cb_Sum_86 iv_Sum_take np_Sum_take o1 vc_2 (c_Sum_take h) rfl (by decide) (Nat.le_refl _) (Nat.le_refl _) (Nat.le_of_ble_eq_true rfl) (fun c2 h => ?_)
  refine g_bipush (v := 120) F (pc := 15) d_Sum_end_15 (by decide) (g_aload_n F (pc := 17) d_Sum_end_17 1 rfl (gc_getI F (pc := 18) d_Sum_end_18 fi_Sum_27 o1 (g_bipush (v := 63) F (pc := 21) d_Sum_end_21 (by decide) (g_iand F (pc := 23) d_Sum_end_23 (g_isub F (pc := 24) d_Sum_end_24 ?_)))))
  refine g_bipush (v := 63) F (pc := 25) d_Sum_end_25 (by decide) (g_iand F (pc := 27) d_Sum_end_27 (g_istore_n (lv' := [(2, .int ((120 - ((c2 x0 3) &&& 63)) &&& 63)), (1, .int (8 * (c x0 3))), (0, .ref x0)]) F (pc := 28) d_Sum_end_28 (by decide) rfl ?_))
  refine g_lv (lv' := [(0, .ref x0), (1, .int (8 * (c x0 3))), (2, .int ((120 - ((c2 x0 3) &&& 63)) &&& 63))]) F [2, 1, 0] rfl ?_
  obtain ⟨I3, ⟨n0, h⟩, hI3⟩ := h
  have lp6 : ∀ (n4 : Nat) (y7 : Int32) (c8 : cM), I3 n4 y7 c8 → Z (wd c8) 29 [(0, .ref x0), (1, .int (8 * (c x0 3))), (2, .int y7)] [] 0 0 := by
    intro n4
    induction n4 using Nat.strongRecOn with
    | _ n4 ih5 =>
      intro y7 c8 h
      replace h := hI3 n4 y7 c8 h
      refine g_iload_n F (pc := 29) d_Sum_end_29 2 rfl ?_
      refine g_if_le (tgt := 44) F (pc := 30) d_Sum_end_30 (by decide) (fun b9 => ?_) (fun b9 => ?_)
      · replace h := h.1 b9
        refine g_iconst (v := 0) F (pc := 44) d_Sum_end_44 (by decide) (g_istore_n (lv' := [(2, .int 0), (0, .ref x0), (1, .int (8 * (c x0 3)))]) F (pc := 45) d_Sum_end_45 (by decide) rfl ?_)
        refine g_lv (lv' := [(0, .ref x0), (1, .int (8 * (c x0 3))), (2, .int 0)]) F [1, 2, 0] rfl ?_
        obtain ⟨I10, ⟨n0, h⟩, hI10⟩ := h
        have lp13 : ∀ (n11 : Nat) (y14 : Int32) (c15 : cM), I10 n11 y14 c15 → Z (wd c15) 46 [(0, .ref x0), (1, .int (8 * (c x0 3))), (2, .int y14)] [] 0 0 := by
          intro n11
          induction n11 using Nat.strongRecOn with
          | _ n11 ih12 =>
            intro y14 c15 h
            replace h := hI10 n11 y14 c15 h
            refine g_iload_n F (pc := 46) d_Sum_end_46 2 rfl (g_iconst (v := 4) F (pc := 47) d_Sum_end_47 (by decide) ?_)
            refine g_icmp_ge (tgt := 62) F (pc := 48) d_Sum_end_48 (by decide) (fun b16 => ?_) (fun b16 => ?_)
            · replace h := h.1 b16
              refine g_bipush (v := 24) F (pc := 62) d_Sum_end_62 (by decide) (g_istore_n (lv' := [(2, .int 24), (0, .ref x0), (1, .int (8 * (c x0 3)))]) F (pc := 64) d_Sum_end_64 (by decide) rfl ?_)
              refine g_lv (lv' := [(0, .ref x0), (1, .int (8 * (c x0 3))), (2, .int 24)]) F [1, 2, 0] rfl ?_
              obtain ⟨I17, ⟨n0, h⟩, hI17⟩ := h
              have lp20 : ∀ (n18 : Nat) (y21 : Int32) (c22 : cM), I17 n18 y21 c22 → Z (wd c22) 65 [(0, .ref x0), (1, .int (8 * (c x0 3))), (2, .int y21)] [] 0 0 := by
                intro n18
                induction n18 using Nat.strongRecOn with
                | _ n18 ih19 =>
                  intro y21 c22 h
                  replace h := hI17 n18 y21 c22 h
                  refine g_iload_n F (pc := 65) d_Sum_end_65 2 rfl ?_
                  refine g_if_lt (tgt := 86) F (pc := 66) d_Sum_end_66 (by decide) (fun b23 => ?_) (fun b23 => ?_)
                  · replace h := h.1 b23
                    exact g_vret T (pc := 86) d_Sum_end_86 rfl (Nat.le_refl _) (Nat.le_refl _) (poV h)
                  · replace h := h.2 b23
                    refine g_aload_n F (pc := 69) d_Sum_end_69 0 rfl (g_iload_n F (pc := 70) d_Sum_end_70 1 rfl (g_iload_n F (pc := 71) d_Sum_end_71 2 rfl (g_iushr F (pc := 72) d_Sum_end_72 (g_sipush (v := 255) F (pc := 73) d_Sum_end_73 (by decide) (g_iand F (pc := 76) d_Sum_end_76 ?_)))))
                    refine gc_callVV (As := [.int ((c_ushr (8 * (c x0 3)) y21) &&& 255)]) (st := []) F (pc := 77) d_Sum_end_77 cb_Sum_86 iv_Sum_take np_Sum_take o1 vc_2 (c_Sum_take h) rfl (by decide) (Nat.le_refl _) (Nat.le_refl _) (Nat.le_of_ble_eq_true rfl) (fun c24 h => ?_)
                    refine g_iinc (v := (y21 + (-8))) (lv' := [(2, .int (y21 + (-8))), (0, .ref x0), (1, .int (8 * (c x0 3)))]) F (pc := 80) d_Sum_end_80 2 rfl (sk_inc (by decide)) (by decide) rfl (g_goto (tgt := 65) F (pc := 83) d_Sum_end_83 (by decide) ?_)
                    refine g_lv (lv' := [(0, .ref x0), (1, .int (8 * (c x0 3))), (2, .int (y21 + (-8)))]) F [1, 2, 0] rfl ?_
                    obtain ⟨m, hm, h⟩ := h
                    exact ih19 m hm _ _ h
              exact lp20 n0 _ _ h
            · replace h := h.2 b16
              refine g_aload_n F (pc := 51) d_Sum_end_51 0 rfl (g_iconst (v := 0) F (pc := 52) d_Sum_end_52 (by decide) ?_)
              refine gc_callVV (As := [.int 0]) (st := []) F (pc := 53) d_Sum_end_53 cb_Sum_86 iv_Sum_take np_Sum_take o1 vc_2 (c_Sum_take h) rfl (by decide) (Nat.le_refl _) (Nat.le_refl _) (Nat.le_of_ble_eq_true rfl) (fun c25 h => ?_)
              refine g_iinc (v := (y14 + 1)) (lv' := [(2, .int (y14 + 1)), (0, .ref x0), (1, .int (8 * (c x0 3)))]) F (pc := 56) d_Sum_end_56 2 rfl (sk_inc (by decide)) (by decide) rfl (g_goto (tgt := 46) F (pc := 59) d_Sum_end_59 (by decide) ?_)
              refine g_lv (lv' := [(0, .ref x0), (1, .int (8 * (c x0 3))), (2, .int (y14 + 1))]) F [1, 2, 0] rfl ?_
              obtain ⟨m, hm, h⟩ := h
              exact ih12 m hm _ _ h
        exact lp13 n0 _ _ h
      · replace h := h.2 b9
        refine g_aload_n F (pc := 33) d_Sum_end_33 0 rfl (g_iconst (v := 0) F (pc := 34) d_Sum_end_34 (by decide) ?_)
        refine gc_callVV (As := [.int 0]) (st := []) F (pc := 35) d_Sum_end_35 cb_Sum_86 iv_Sum_take np_Sum_take o1 vc_2 (c_Sum_take h) rfl (by decide) (Nat.le_refl _) (Nat.le_refl _) (Nat.le_of_ble_eq_true rfl) (fun c26 h => ?_)
        refine g_iinc (v := (y7 + (-1))) (lv' := [(2, .int (y7 + (-1))), (0, .ref x0), (1, .int (8 * (c x0 3)))]) F (pc := 38) d_Sum_end_38 2 rfl (sk_inc (by decide)) (by decide) rfl (g_goto (tgt := 29) F (pc := 41) d_Sum_end_41 (by decide) ?_)
        refine g_lv (lv' := [(0, .ref x0), (1, .int (8 * (c x0 3))), (2, .int (y7 + (-1)))]) F [1, 2, 0] rfl ?_
        obtain ⟨m, hm, h⟩ := h
        exact ih5 m hm _ _ h
  exact lp6 n0 _ _ h
theorem d_Sum_begin_0 : decode M_Sum_begin.2.1 0 = .ok (.getstatic 80, 3) := by decide +kernel
theorem d_Sum_begin_3 : decode M_Sum_begin.2.1 3 = .ok (.iconst 0, 1) := by decide +kernel
theorem d_Sum_begin_4 : decode M_Sum_begin.2.1 4 = .ok (.aload_n 0, 1) := by decide +kernel
theorem d_Sum_begin_5 : decode M_Sum_begin.2.1 5 = .ok (.getfield 9, 3) := by decide +kernel
theorem d_Sum_begin_8 : decode M_Sum_begin.2.1 8 = .ok (.iconst 0, 1) := by decide +kernel
theorem d_Sum_begin_9 : decode M_Sum_begin.2.1 9 = .ok (.iconst 5, 1) := by decide +kernel
theorem d_Sum_begin_10 : decode M_Sum_begin.2.1 10 = .ok (.invokestatic 74, 3) := by decide +kernel
theorem d_Sum_begin_13 : decode M_Sum_begin.2.1 13 = .ok (.aload_n 0, 1) := by decide +kernel
theorem d_Sum_begin_14 : decode M_Sum_begin.2.1 14 = .ok (.iconst 0, 1) := by decide +kernel
theorem d_Sum_begin_15 : decode M_Sum_begin.2.1 15 = .ok (.putfield 27, 3) := by decide +kernel
theorem d_Sum_begin_18 : decode M_Sum_begin.2.1 18 = .ok (.return_, 1) := by decide +kernel
def f_Sum_begin (x0 : Nat) (c : cM) (K : cM → Prop) : Prop :=
  kd x0 = 2 ∧ (kd (rf x0 0) = 100 ∧ ((Int32.toNatClampNeg 0) + (Int32.toNatClampNeg 5) ≤ ln 1 ∧ ((Int32.toNatClampNeg 0) + (Int32.toNatClampNeg 5) ≤ ln (rf x0 0) ∧ (kd 1 = 202 ∧ (∀ c6 : cM, c6 = c_row c (rf x0 0) (c_cp (oc 1) (c (rf x0 0)) (Int32.toNatClampNeg 0) (Int32.toNatClampNeg 0) (Int32.toNatClampNeg 5)) → (∀ c7 : cM, c7 = c_up c6 x0 3 0 → (K c7)))))))
theorem c_Sum_begin {x0 : Nat} {c : cM} {K : cM → Prop} (h : f_Sum_begin x0 c K) : Ct M_Sum_begin 1 0 0 (wd c) [.ref x0] (PoV K) := by
  refine Ct.of (by decide +kernel) (Nat.le_of_ble_eq_true rfl) (fun Z T => ?_)
  have F := T.F
  unfold f_Sum_begin at h
  show Z (wd c) 0 [(0, .ref x0)] [] 0 0
  refine go_st F (pc := 0) d_Sum_begin_0 gs_Sum_80 (g_iconst (v := 0) F (pc := 3) d_Sum_begin_3 (by decide) (g_aload_n F (pc := 4) d_Sum_begin_4 0 rfl ?_))
  obtain ⟨o1, h⟩ := h
  refine gc_getR F (pc := 5) d_Sum_begin_5 fi_Sum_9 o1 (g_iconst (v := 0) F (pc := 8) d_Sum_begin_8 (by decide) (g_iconst (v := 5) F (pc := 9) d_Sum_begin_9 (by decide) ?_))
  obtain ⟨o2, h⟩ := h
  obtain ⟨o3, h⟩ := h
  obtain ⟨o4, h⟩ := h
  obtain ⟨o5, h⟩ := h
  refine go_copy F (pc := 10) d_Sum_begin_10 ml_Sum_74 ac_2 ac_3 ac_4 o5 o2 (by decide) (by decide) (by decide) o3 o4 (by decide) (Nat.le_of_ble_eq_true rfl) ?_
  obtain ⟨c6, ec6⟩ : ∃ c6 : cM, c6 = c_row c (rf x0 0) (c_cp (oc 1) (c (rf x0 0)) (Int32.toNatClampNeg 0) (Int32.toNatClampNeg 0) (Int32.toNatClampNeg 5)) := ⟨_, rfl⟩
  rw [← ec6]
  replace h := h c6 ec6
  refine g_aload_n F (pc := 13) d_Sum_begin_13 0 rfl (g_iconst (v := 0) F (pc := 14) d_Sum_begin_14 (by decide) (gc_putI F (pc := 15) d_Sum_begin_15 pi_Sum_27 o1 ?_))
  obtain ⟨c7, ec7⟩ : ∃ c7 : cM, c7 = c_up c6 x0 3 0 := ⟨_, rfl⟩
  rw [← ec7]
  replace h := h c7 ec7
  exact g_vret T (pc := 18) d_Sum_begin_18 rfl (Nat.le_refl _) (Nat.le_refl _) (poV h)
theorem d_Sum_giveName_0 : decode M_Sum_giveName.2.1 0 = .ok (.aload_n 0, 1) := by decide +kernel
theorem d_Sum_giveName_1 : decode M_Sum_giveName.2.1 1 = .ok (.getfield 23, 3) := by decide +kernel
theorem d_Sum_giveName_4 : decode M_Sum_giveName.2.1 4 = .ok (.invokevirtual 41, 3) := by decide +kernel
theorem d_Sum_giveName_7 : decode M_Sum_giveName.2.1 7 = .ok (.aload_n 0, 1) := by decide +kernel
theorem d_Sum_giveName_8 : decode M_Sum_giveName.2.1 8 = .ok (.getfield 23, 3) := by decide +kernel
theorem d_Sum_giveName_11 : decode M_Sum_giveName.2.1 11 = .ok (.aload_n 1, 1) := by decide +kernel
theorem d_Sum_giveName_12 : decode M_Sum_giveName.2.1 12 = .ok (.getfield 44, 3) := by decide +kernel
theorem d_Sum_giveName_15 : decode M_Sum_giveName.2.1 15 = .ok (.iconst 1, 1) := by decide +kernel
theorem d_Sum_giveName_16 : decode M_Sum_giveName.2.1 16 = .ok (.if_icmp .ne 8, 3) := by decide +kernel
theorem d_Sum_giveName_19 : decode M_Sum_giveName.2.1 19 = .ok (.ldc 49, 2) := by decide +kernel
theorem d_Sum_giveName_21 : decode M_Sum_giveName.2.1 21 = .ok (.goto 18, 3) := by decide +kernel
theorem d_Sum_giveName_24 : decode M_Sum_giveName.2.1 24 = .ok (.aload_n 1, 1) := by decide +kernel
theorem d_Sum_giveName_25 : decode M_Sum_giveName.2.1 25 = .ok (.getfield 44, 3) := by decide +kernel
theorem d_Sum_giveName_28 : decode M_Sum_giveName.2.1 28 = .ok (.iconst 2, 1) := by decide +kernel
theorem d_Sum_giveName_29 : decode M_Sum_giveName.2.1 29 = .ok (.if_icmp .ne 8, 3) := by decide +kernel
theorem d_Sum_giveName_32 : decode M_Sum_giveName.2.1 32 = .ok (.ldc 51, 2) := by decide +kernel
theorem d_Sum_giveName_34 : decode M_Sum_giveName.2.1 34 = .ok (.goto 5, 3) := by decide +kernel
theorem d_Sum_giveName_37 : decode M_Sum_giveName.2.1 37 = .ok (.ldc 53, 2) := by decide +kernel
theorem d_Sum_giveName_39 : decode M_Sum_giveName.2.1 39 = .ok (.invokevirtual 55, 3) := by decide +kernel
theorem d_Sum_giveName_42 : decode M_Sum_giveName.2.1 42 = .ok (.aload_n 0, 1) := by decide +kernel
theorem d_Sum_giveName_43 : decode M_Sum_giveName.2.1 43 = .ok (.getfield 23, 3) := by decide +kernel
theorem d_Sum_giveName_46 : decode M_Sum_giveName.2.1 46 = .ok (.aload_n 1, 1) := by decide +kernel
theorem d_Sum_giveName_47 : decode M_Sum_giveName.2.1 47 = .ok (.getfield 59, 3) := by decide +kernel
theorem d_Sum_giveName_50 : decode M_Sum_giveName.2.1 50 = .ok (.getfield 62, 3) := by decide +kernel
theorem d_Sum_giveName_53 : decode M_Sum_giveName.2.1 53 = .ok (.invokevirtual 65, 3) := by decide +kernel
theorem d_Sum_giveName_56 : decode M_Sum_giveName.2.1 56 = .ok (.aload_n 0, 1) := by decide +kernel
theorem d_Sum_giveName_57 : decode M_Sum_giveName.2.1 57 = .ok (.getfield 23, 3) := by decide +kernel
theorem d_Sum_giveName_60 : decode M_Sum_giveName.2.1 60 = .ok (.iconst 0, 1) := by decide +kernel
theorem d_Sum_giveName_61 : decode M_Sum_giveName.2.1 61 = .ok (.invokevirtual 68, 3) := by decide +kernel
theorem d_Sum_giveName_64 : decode M_Sum_giveName.2.1 64 = .ok (.aload_n 0, 1) := by decide +kernel
theorem d_Sum_giveName_65 : decode M_Sum_giveName.2.1 65 = .ok (.invokevirtual 31, 3) := by decide +kernel
theorem d_Sum_giveName_68 : decode M_Sum_giveName.2.1 68 = .ok (.aload_n 0, 1) := by decide +kernel
theorem d_Sum_giveName_69 : decode M_Sum_giveName.2.1 69 = .ok (.aload_n 0, 1) := by decide +kernel
theorem d_Sum_giveName_70 : decode M_Sum_giveName.2.1 70 = .ok (.getfield 23, 3) := by decide +kernel
theorem d_Sum_giveName_73 : decode M_Sum_giveName.2.1 73 = .ok (.aload_n 0, 1) := by decide +kernel
theorem d_Sum_giveName_74 : decode M_Sum_giveName.2.1 74 = .ok (.getfield 23, 3) := by decide +kernel
theorem d_Sum_giveName_77 : decode M_Sum_giveName.2.1 77 = .ok (.getfield 62, 3) := by decide +kernel
theorem d_Sum_giveName_80 : decode M_Sum_giveName.2.1 80 = .ok (.invokevirtual 34, 3) := by decide +kernel
theorem d_Sum_giveName_83 : decode M_Sum_giveName.2.1 83 = .ok (.aload_n 0, 1) := by decide +kernel
theorem d_Sum_giveName_84 : decode M_Sum_giveName.2.1 84 = .ok (.aload_n 1, 1) := by decide +kernel
theorem d_Sum_giveName_85 : decode M_Sum_giveName.2.1 85 = .ok (.getfield 59, 3) := by decide +kernel
theorem d_Sum_giveName_88 : decode M_Sum_giveName.2.1 88 = .ok (.aload_n 1, 1) := by decide +kernel
theorem d_Sum_giveName_89 : decode M_Sum_giveName.2.1 89 = .ok (.getfield 59, 3) := by decide +kernel
theorem d_Sum_giveName_92 : decode M_Sum_giveName.2.1 92 = .ok (.getfield 62, 3) := by decide +kernel
theorem d_Sum_giveName_95 : decode M_Sum_giveName.2.1 95 = .ok (.invokevirtual 34, 3) := by decide +kernel
theorem d_Sum_giveName_98 : decode M_Sum_giveName.2.1 98 = .ok (.aload_n 0, 1) := by decide +kernel
theorem d_Sum_giveName_99 : decode M_Sum_giveName.2.1 99 = .ok (.invokevirtual 38, 3) := by decide +kernel
theorem d_Sum_giveName_102 : decode M_Sum_giveName.2.1 102 = .ok (.aload_n 0, 1) := by decide +kernel
theorem d_Sum_giveName_103 : decode M_Sum_giveName.2.1 103 = .ok (.getfield 9, 3) := by decide +kernel
theorem d_Sum_giveName_106 : decode M_Sum_giveName.2.1 106 = .ok (.iconst 0, 1) := by decide +kernel
theorem d_Sum_giveName_107 : decode M_Sum_giveName.2.1 107 = .ok (.aload_n 1, 1) := by decide +kernel
theorem d_Sum_giveName_108 : decode M_Sum_giveName.2.1 108 = .ok (.getfield 71, 3) := by decide +kernel
theorem d_Sum_giveName_111 : decode M_Sum_giveName.2.1 111 = .ok (.iconst 0, 1) := by decide +kernel
theorem d_Sum_giveName_112 : decode M_Sum_giveName.2.1 112 = .ok (.iconst 5, 1) := by decide +kernel
theorem d_Sum_giveName_113 : decode M_Sum_giveName.2.1 113 = .ok (.invokestatic 74, 3) := by decide +kernel
theorem d_Sum_giveName_116 : decode M_Sum_giveName.2.1 116 = .ok (.return_, 1) := by decide +kernel
def f_Sum_giveName (x0 : Nat) (x1 : Nat) (c : cM) (K : cM → Prop) : Prop :=
  kd x0 = 2 ∧ (kd (rf x0 2) = 1 ∧ (f_Row_clear (rf x0 2) c (fun c3 => kd x1 = 3 ∧ (∃ J8 : Nat → Prop, (∀ (s7 : Nat), J8 s7 → (f_Row_putText (rf x0 2) s7 c3 (fun c10 => kd (rf x1 1) = 1 ∧ (f_Row_putDecimal (rf x0 2) (c10 (rf x1 1) 1) c10 (fun c12 => f_Row_put (rf x0 2) 0 c12 (fun c13 => f_Sum_begin x0 c13 (fun c14 => f_Sum_takeRow x0 (rf x0 2) (c14 (rf x0 2) 1) c14 (fun c15 => f_Sum_takeRow x0 (rf x1 1) (c15 (rf x1 1) 1) c15 (fun c16 => f_Sum_end x0 c16 (fun c17 => kd (rf x1 2) = 100 ∧ ((Int32.toNatClampNeg 0) + (Int32.toNatClampNeg 5) ≤ ln (rf x0 0) ∧ ((Int32.toNatClampNeg 0) + (Int32.toNatClampNeg 5) ≤ ln (rf x1 2) ∧ (kd (rf x0 0) = 100 ∧ (∀ c22 : cM, c22 = c_row c17 (rf x1 2) (c_cp (c17 (rf x0 0)) (c17 (rf x1 2)) (Int32.toNatClampNeg 0) (Int32.toNatClampNeg 0) (Int32.toNatClampNeg 5)) → (K c22))))))))))))))) ∧ (((¬ (c3 x1 0) = 1) → (((¬ (c3 x1 0) = 2) → (J8 5)) ∧ ((c3 x1 0) = 2 → (J8 4)))) ∧ ((c3 x1 0) = 1 → (J8 3)))))))
theorem c_Sum_giveName {x0 : Nat} {x1 : Nat} {c : cM} {K : cM → Prop} (h : f_Sum_giveName x0 x1 c K) : Ct M_Sum_giveName 5 0 0 (wd c) [.ref x0, .ref x1] (PoV K) := by
  refine Ct.of (by decide +kernel) (Nat.le_of_ble_eq_true rfl) (fun Z T => ?_)
  have F := T.F
  unfold f_Sum_giveName at h
  show Z (wd c) 0 [(0, .ref x0), (1, .ref x1)] [] 0 0
  refine g_aload_n F (pc := 0) d_Sum_giveName_0 0 rfl ?_
  obtain ⟨o1, h⟩ := h
  refine gc_getR F (pc := 1) d_Sum_giveName_1 fi_Sum_23 o1 ?_
  obtain ⟨o2, h⟩ := h
  refine gc_callVV (As := []) (st := []) F (pc := 4) d_Sum_giveName_4 cb_Sum_41 iv_Row_clear np_Row_clear o2 vc_1 (c_Row_clear h) rfl (by decide) (Nat.le_refl _) (Nat.le_refl _) (Nat.le_of_ble_eq_true rfl) (fun c3 h => ?_)
  refine g_aload_n F (pc := 7) d_Sum_giveName_7 0 rfl (gc_getR F (pc := 8) d_Sum_giveName_8 fi_Sum_23 o1 (g_aload_n F (pc := 11) d_Sum_giveName_11 1 rfl ?_))
  obtain ⟨o4, h⟩ := h
  refine gc_getI F (pc := 12) d_Sum_giveName_12 fi_Sum_44 o4 (g_iconst (v := 1) F (pc := 15) d_Sum_giveName_15 (by decide) ?_)
  obtain ⟨J8, hJ8, h⟩ := h
  have jn9 : ∀ (s7 : Nat), J8 s7 → Z (wd c3) 39 [(0, .ref x0), (1, .ref x1)] [.ref s7, .ref (rf x0 2)] 0 0 := by
    intro s7 h
    replace h := hJ8 s7 h
    refine gc_callVV (As := [.ref s7]) (st := []) F (pc := 39) d_Sum_giveName_39 cb_Sum_55 iv_Row_putText np_Row_putText o2 vc_1 (c_Row_putText h) rfl (by decide) (Nat.le_refl _) (Nat.le_refl _) (Nat.le_of_ble_eq_true rfl) (fun c10 h => ?_)
    refine g_aload_n F (pc := 42) d_Sum_giveName_42 0 rfl (gc_getR F (pc := 43) d_Sum_giveName_43 fi_Sum_23 o1 (g_aload_n F (pc := 46) d_Sum_giveName_46 1 rfl (gc_getR F (pc := 47) d_Sum_giveName_47 fi_Sum_59 o4 ?_)))
    obtain ⟨o11, h⟩ := h
    refine gc_getI F (pc := 50) d_Sum_giveName_50 fi_Sum_62 o11 ?_
    refine gc_callVV (As := [.int (c10 (rf x1 1) 1)]) (st := []) F (pc := 53) d_Sum_giveName_53 cb_Sum_65 iv_Row_putDecimal np_Row_putDecimal o2 vc_1 (c_Row_putDecimal h) rfl (by decide) (Nat.le_refl _) (Nat.le_refl _) (Nat.le_of_ble_eq_true rfl) (fun c12 h => ?_)
    refine g_aload_n F (pc := 56) d_Sum_giveName_56 0 rfl (gc_getR F (pc := 57) d_Sum_giveName_57 fi_Sum_23 o1 (g_iconst (v := 0) F (pc := 60) d_Sum_giveName_60 (by decide) ?_))
    refine gc_callVV (As := [.int 0]) (st := []) F (pc := 61) d_Sum_giveName_61 cb_Sum_68 iv_Row_put np_Row_put o2 vc_1 (c_Row_put h) rfl (by decide) (Nat.le_refl _) (Nat.le_refl _) (Nat.le_of_ble_eq_true rfl) (fun c13 h => ?_)
    refine g_aload_n F (pc := 64) d_Sum_giveName_64 0 rfl ?_
    refine gc_callVV (As := []) (st := []) F (pc := 65) d_Sum_giveName_65 cb_Sum_31 iv_Sum_begin np_Sum_begin o1 vc_2 (c_Sum_begin h) rfl (by decide) (Nat.le_refl _) (Nat.le_refl _) (Nat.le_of_ble_eq_true rfl) (fun c14 h => ?_)
    refine g_aload_n F (pc := 68) d_Sum_giveName_68 0 rfl (g_aload_n F (pc := 69) d_Sum_giveName_69 0 rfl (gc_getR F (pc := 70) d_Sum_giveName_70 fi_Sum_23 o1 (g_aload_n F (pc := 73) d_Sum_giveName_73 0 rfl (gc_getR F (pc := 74) d_Sum_giveName_74 fi_Sum_23 o1 (gc_getI F (pc := 77) d_Sum_giveName_77 fi_Sum_62 o2 ?_)))))
    refine gc_callVV (As := [.ref (rf x0 2), .int (c14 (rf x0 2) 1)]) (st := []) F (pc := 80) d_Sum_giveName_80 cb_Sum_34 iv_Sum_takeRow np_Sum_takeRow o1 vc_2 (c_Sum_takeRow h) rfl (by decide) (Nat.le_refl _) (Nat.le_refl _) (Nat.le_of_ble_eq_true rfl) (fun c15 h => ?_)
    refine g_aload_n F (pc := 83) d_Sum_giveName_83 0 rfl (g_aload_n F (pc := 84) d_Sum_giveName_84 1 rfl (gc_getR F (pc := 85) d_Sum_giveName_85 fi_Sum_59 o4 (g_aload_n F (pc := 88) d_Sum_giveName_88 1 rfl (gc_getR F (pc := 89) d_Sum_giveName_89 fi_Sum_59 o4 (gc_getI F (pc := 92) d_Sum_giveName_92 fi_Sum_62 o11 ?_)))))
    refine gc_callVV (As := [.ref (rf x1 1), .int (c15 (rf x1 1) 1)]) (st := []) F (pc := 95) d_Sum_giveName_95 cb_Sum_34 iv_Sum_takeRow np_Sum_takeRow o1 vc_2 (c_Sum_takeRow h) rfl (by decide) (Nat.le_refl _) (Nat.le_refl _) (Nat.le_of_ble_eq_true rfl) (fun c16 h => ?_)
    refine g_aload_n F (pc := 98) d_Sum_giveName_98 0 rfl ?_
    refine gc_callVV (As := []) (st := []) F (pc := 99) d_Sum_giveName_99 cb_Sum_38 iv_Sum_end np_Sum_end o1 vc_2 (c_Sum_end h) rfl (by decide) (Nat.le_refl _) (Nat.le_refl _) (Nat.le_of_ble_eq_true rfl) (fun c17 h => ?_)
    refine g_aload_n F (pc := 102) d_Sum_giveName_102 0 rfl (gc_getR F (pc := 103) d_Sum_giveName_103 fi_Sum_9 o1 (g_iconst (v := 0) F (pc := 106) d_Sum_giveName_106 (by decide) (g_aload_n F (pc := 107) d_Sum_giveName_107 1 rfl (gc_getR F (pc := 108) d_Sum_giveName_108 fi_Sum_71 o4 (g_iconst (v := 0) F (pc := 111) d_Sum_giveName_111 (by decide) ?_)))))
    refine g_iconst (v := 5) F (pc := 112) d_Sum_giveName_112 (by decide) ?_
    obtain ⟨o18, h⟩ := h
    obtain ⟨o19, h⟩ := h
    obtain ⟨o20, h⟩ := h
    obtain ⟨o21, h⟩ := h
    refine gc_copy F (pc := 113) d_Sum_giveName_113 ml_Sum_74 ac_2 ac_3 ac_4 o21 o18 (by decide) (by decide) (by decide) o19 o20 (by decide) (Nat.le_of_ble_eq_true rfl) ?_
    obtain ⟨c22, ec22⟩ : ∃ c22 : cM, c22 = c_row c17 (rf x1 2) (c_cp (c17 (rf x0 0)) (c17 (rf x1 2)) (Int32.toNatClampNeg 0) (Int32.toNatClampNeg 0) (Int32.toNatClampNeg 5)) := ⟨_, rfl⟩
    rw [← ec22]
    replace h := h c22 ec22
    exact g_vret T (pc := 116) d_Sum_giveName_116 rfl (Nat.le_refl _) (Nat.le_refl _) (poV h)
  refine g_icmp_ne (tgt := 24) F (pc := 16) d_Sum_giveName_16 (by decide) (fun b5 => ?_) (fun b5 => ?_)
  · replace h := h.1 b5
    refine g_aload_n F (pc := 24) d_Sum_giveName_24 1 rfl (gc_getI F (pc := 25) d_Sum_giveName_25 fi_Sum_44 o4 (g_iconst (v := 2) F (pc := 28) d_Sum_giveName_28 (by decide) ?_))
    refine g_icmp_ne (tgt := 37) F (pc := 29) d_Sum_giveName_29 (by decide) (fun b23 => ?_) (fun b23 => ?_)
    · replace h := h.1 b23
      refine go_ldc F (pc := 37) d_Sum_giveName_37 sr_Sum_53 ?_
      exact jn9 _ h
    · replace h := h.2 b23
      refine go_ldc F (pc := 32) d_Sum_giveName_32 sr_Sum_51 (g_goto (tgt := 39) F (pc := 34) d_Sum_giveName_34 (by decide) ?_)
      exact jn9 _ h
  · replace h := h.2 b5
    refine go_ldc F (pc := 19) d_Sum_giveName_19 sr_Sum_49 (g_goto (tgt := 39) F (pc := 21) d_Sum_giveName_21 (by decide) ?_)
    exact jn9 _ h
theorem d_Sum_ofRow_0 : decode M_Sum_ofRow.2.1 0 = .ok (.aload_n 0, 1) := by decide +kernel
theorem d_Sum_ofRow_1 : decode M_Sum_ofRow.2.1 1 = .ok (.invokevirtual 31, 3) := by decide +kernel
theorem d_Sum_ofRow_4 : decode M_Sum_ofRow.2.1 4 = .ok (.aload_n 0, 1) := by decide +kernel
theorem d_Sum_ofRow_5 : decode M_Sum_ofRow.2.1 5 = .ok (.aload_n 1, 1) := by decide +kernel
theorem d_Sum_ofRow_6 : decode M_Sum_ofRow.2.1 6 = .ok (.iload_n 2, 1) := by decide +kernel
theorem d_Sum_ofRow_7 : decode M_Sum_ofRow.2.1 7 = .ok (.invokevirtual 34, 3) := by decide +kernel
theorem d_Sum_ofRow_10 : decode M_Sum_ofRow.2.1 10 = .ok (.aload_n 0, 1) := by decide +kernel
theorem d_Sum_ofRow_11 : decode M_Sum_ofRow.2.1 11 = .ok (.invokevirtual 38, 3) := by decide +kernel
theorem d_Sum_ofRow_14 : decode M_Sum_ofRow.2.1 14 = .ok (.return_, 1) := by decide +kernel
def f_Sum_ofRow (x0 : Nat) (x1 : Nat) (x2 : Int32) (c : cM) (K : cM → Prop) : Prop :=
  kd x0 = 2 ∧ (f_Sum_begin x0 c (fun c2 => f_Sum_takeRow x0 x1 x2 c2 (fun c3 => f_Sum_end x0 c3 (fun c4 => K c4))))
theorem c_Sum_ofRow {x0 : Nat} {x1 : Nat} {x2 : Int32} {c : cM} {K : cM → Prop} (h : f_Sum_ofRow x0 x1 x2 c K) : Ct M_Sum_ofRow 4 0 0 (wd c) [.ref x0, .ref x1, .int x2] (PoV K) := by
  refine Ct.of (by decide +kernel) (Nat.le_of_ble_eq_true rfl) (fun Z T => ?_)
  have F := T.F
  unfold f_Sum_ofRow at h
  show Z (wd c) 0 [(0, .ref x0), (1, .ref x1), (2, .int x2)] [] 0 0
  refine g_aload_n F (pc := 0) d_Sum_ofRow_0 0 rfl ?_
  obtain ⟨o1, h⟩ := h
  refine gc_callVV (As := []) (st := []) F (pc := 1) d_Sum_ofRow_1 cb_Sum_31 iv_Sum_begin np_Sum_begin o1 vc_2 (c_Sum_begin h) rfl (by decide) (Nat.le_refl _) (Nat.le_refl _) (Nat.le_of_ble_eq_true rfl) (fun c2 h => ?_)
  refine g_aload_n F (pc := 4) d_Sum_ofRow_4 0 rfl (g_aload_n F (pc := 5) d_Sum_ofRow_5 1 rfl (g_iload_n F (pc := 6) d_Sum_ofRow_6 2 rfl ?_))
  refine gc_callVV (As := [.ref x1, .int x2]) (st := []) F (pc := 7) d_Sum_ofRow_7 cb_Sum_34 iv_Sum_takeRow np_Sum_takeRow o1 vc_2 (c_Sum_takeRow h) rfl (by decide) (Nat.le_refl _) (Nat.le_refl _) (Nat.le_of_ble_eq_true rfl) (fun c3 h => ?_)
  refine g_aload_n F (pc := 10) d_Sum_ofRow_10 0 rfl ?_
  refine gc_callVV (As := []) (st := []) F (pc := 11) d_Sum_ofRow_11 cb_Sum_38 iv_Sum_end np_Sum_end o1 vc_2 (c_Sum_end h) rfl (by decide) (Nat.le_refl _) (Nat.le_refl _) (Nat.le_of_ble_eq_true rfl) (fun c4 h => ?_)
  exact g_vret T (pc := 14) d_Sum_ofRow_14 rfl (Nat.le_refl _) (Nat.le_refl _) (poV h)
