theorem d_Mo_isThing_0 : decode M_Mo_isThing.2.1 0 = .ok (.iload_n 1, 1) := by decide +kernel
theorem d_Mo_isThing_1 : decode M_Mo_isThing.2.1 1 = .ok (.ifCond .lt 15, 3) := by decide +kernel
theorem d_Mo_isThing_4 : decode M_Mo_isThing.2.1 4 = .ok (.iload_n 1, 1) := by decide +kernel
theorem d_Mo_isThing_5 : decode M_Mo_isThing.2.1 5 = .ok (.aload_n 0, 1) := by decide +kernel
theorem d_Mo_isThing_6 : decode M_Mo_isThing.2.1 6 = .ok (.getfield 93, 3) := by decide +kernel
theorem d_Mo_isThing_9 : decode M_Mo_isThing.2.1 9 = .ok (.if_icmp .ge 7, 3) := by decide +kernel
theorem d_Mo_isThing_12 : decode M_Mo_isThing.2.1 12 = .ok (.iconst 1, 1) := by decide +kernel
theorem d_Mo_isThing_13 : decode M_Mo_isThing.2.1 13 = .ok (.goto 4, 3) := by decide +kernel
theorem d_Mo_isThing_16 : decode M_Mo_isThing.2.1 16 = .ok (.iconst 0, 1) := by decide +kernel
theorem d_Mo_isThing_17 : decode M_Mo_isThing.2.1 17 = .ok (.ireturn, 1) := by decide +kernel
def f_Mo_isThing (x0 : Nat) (x1 : Int32) (c : cM) (K : Int32 → cM → Prop) : Prop :=
  ((x1 < 0) → (K 0 c)) ∧ (¬ (x1 < 0) → (kd x0 = 7 ∧ ((((c x0 0) ≤ x1) → (K 0 c)) ∧ (¬ ((c x0 0) ≤ x1) → (K 1 c)))))
theorem c_Mo_isThing {x0 : Nat} {x1 : Int32} {c : cM} {K : Int32 → cM → Prop} (h : f_Mo_isThing x0 x1 c K) : Ct M_Mo_isThing 0 0 0 (wd c) [.ref x0, .int x1] (PoI K) := by
  refine Ct.of (by decide +kernel) (Nat.le_of_ble_eq_true rfl) (fun Z T => ?_)
  have F := T.F
  unfold f_Mo_isThing at h
  show Z (wd c) 0 [(0, .ref x0), (1, .int x1)] [] 0 0
  refine g_iload_n F (pc := 0) d_Mo_isThing_0 1 rfl ?_
  refine g_if_lt (tgt := 16) F (pc := 1) d_Mo_isThing_1 (by decide) (fun b1 => ?_) (fun b1 => ?_)
  · replace h := h.1 b1
    refine g_iconst (v := 0) F (pc := 16) d_Mo_isThing_16 (by decide) ?_
    exact g_zret T (pc := 17) d_Mo_isThing_17 rfl (by decide) (Nat.le_refl _) (Nat.le_refl _) (poI h)
  · replace h := h.2 b1
    refine g_iload_n F (pc := 4) d_Mo_isThing_4 1 rfl (g_aload_n F (pc := 5) d_Mo_isThing_5 0 rfl ?_)
    obtain ⟨o2, h⟩ := h
    refine gc_getI F (pc := 6) d_Mo_isThing_6 fi_Mo_93 o2 ?_
    refine g_icmp_ge (tgt := 16) F (pc := 9) d_Mo_isThing_9 (by decide) (fun b3 => ?_) (fun b3 => ?_)
    · replace h := h.1 b3
      refine g_iconst (v := 0) F (pc := 16) d_Mo_isThing_16 (by decide) ?_
      exact g_zret T (pc := 17) d_Mo_isThing_17 rfl (by decide) (Nat.le_refl _) (Nat.le_refl _) (poI h)
    · replace h := h.2 b3
      refine g_iconst (v := 1) F (pc := 12) d_Mo_isThing_12 (by decide) (g_goto (tgt := 17) F (pc := 13) d_Mo_isThing_13 (by decide) ?_)
      exact g_zret T (pc := 17) d_Mo_isThing_17 rfl (by decide) (Nat.le_refl _) (Nat.le_refl _) (poI h)
theorem d_Mo_isKind_0 : decode M_Mo_isKind.2.1 0 = .ok (.aload_n 0, 1) := by decide +kernel
theorem d_Mo_isKind_1 : decode M_Mo_isKind.2.1 1 = .ok (.iload_n 1, 1) := by decide +kernel
theorem d_Mo_isKind_2 : decode M_Mo_isKind.2.1 2 = .ok (.invokevirtual 113, 3) := by decide +kernel
theorem d_Mo_isKind_5 : decode M_Mo_isKind.2.1 5 = .ok (.ifCond .eq 17, 3) := by decide +kernel
theorem d_Mo_isKind_8 : decode M_Mo_isKind.2.1 8 = .ok (.aload_n 0, 1) := by decide +kernel
theorem d_Mo_isKind_9 : decode M_Mo_isKind.2.1 9 = .ok (.getfield 7, 3) := by decide +kernel
theorem d_Mo_isKind_12 : decode M_Mo_isKind.2.1 12 = .ok (.iload_n 1, 1) := by decide +kernel
theorem d_Mo_isKind_13 : decode M_Mo_isKind.2.1 13 = .ok (.iaload, 1) := by decide +kernel
theorem d_Mo_isKind_14 : decode M_Mo_isKind.2.1 14 = .ok (.iload_n 2, 1) := by decide +kernel
theorem d_Mo_isKind_15 : decode M_Mo_isKind.2.1 15 = .ok (.if_icmp .ne 7, 3) := by decide +kernel
theorem d_Mo_isKind_18 : decode M_Mo_isKind.2.1 18 = .ok (.iconst 1, 1) := by decide +kernel
theorem d_Mo_isKind_19 : decode M_Mo_isKind.2.1 19 = .ok (.goto 4, 3) := by decide +kernel
theorem d_Mo_isKind_22 : decode M_Mo_isKind.2.1 22 = .ok (.iconst 0, 1) := by decide +kernel
theorem d_Mo_isKind_23 : decode M_Mo_isKind.2.1 23 = .ok (.ireturn, 1) := by decide +kernel
def f_Mo_isKind (x0 : Nat) (x1 : Int32) (x2 : Int32) (c : cM) (K : Int32 → cM → Prop) : Prop :=
  kd x0 = 7 ∧ (f_Mo_isThing x0 x1 c (fun v3 c2 => ((v3 = 0) → (K 0 c2)) ∧ (¬ (v3 = 0) → (kd (rf x0 1) = 100 ∧ (vp_in x1 (ln (rf x0 1)) ∧ (((¬ (c2 (rf x0 1) (Int32.toNatClampNeg x1)) = x2) → (K 0 c2)) ∧ ((c2 (rf x0 1) (Int32.toNatClampNeg x1)) = x2 → (K 1 c2))))))))
theorem c_Mo_isKind {x0 : Nat} {x1 : Int32} {x2 : Int32} {c : cM} {K : Int32 → cM → Prop} (h : f_Mo_isKind x0 x1 x2 c K) : Ct M_Mo_isKind 1 0 0 (wd c) [.ref x0, .int x1, .int x2] (PoI K) := by
  refine Ct.of (by decide +kernel) (Nat.le_of_ble_eq_true rfl) (fun Z T => ?_)
  have F := T.F
  unfold f_Mo_isKind at h
  show Z (wd c) 0 [(0, .ref x0), (1, .int x1), (2, .int x2)] [] 0 0
  refine g_aload_n F (pc := 0) d_Mo_isKind_0 0 rfl (g_iload_n F (pc := 1) d_Mo_isKind_1 1 rfl ?_)
  obtain ⟨o1, h⟩ := h
  refine gc_callVI (As := [.int x1]) (st := []) F (pc := 2) d_Mo_isKind_2 cb_Mo_113 iv_Mo_isThing np_Mo_isThing o1 vc_7 (c_Mo_isThing h) rfl (by decide) (Nat.le_refl _) (Nat.le_refl _) (Nat.le_of_ble_eq_true rfl) (fun v3 c2 h => ?_)
  refine g_if_eq (tgt := 22) F (pc := 5) d_Mo_isKind_5 (by decide) (fun b4 => ?_) (fun b4 => ?_)
  · replace h := h.1 b4
    refine g_iconst (v := 0) F (pc := 22) d_Mo_isKind_22 (by decide) ?_
    exact g_zret T (pc := 23) d_Mo_isKind_23 rfl (by decide) (Nat.le_refl _) (Nat.le_refl _) (poI h)
  · replace h := h.2 b4
    refine g_aload_n F (pc := 8) d_Mo_isKind_8 0 rfl (gc_getR F (pc := 9) d_Mo_isKind_9 fi_Mo_7 o1 (g_iload_n F (pc := 12) d_Mo_isKind_12 1 rfl ?_))
    obtain ⟨o5, h⟩ := h
    obtain ⟨o6, h⟩ := h
    refine gc_iald F (pc := 13) d_Mo_isKind_13 o5 o6 (g_iload_n F (pc := 14) d_Mo_isKind_14 2 rfl ?_)
    refine g_icmp_ne (tgt := 22) F (pc := 15) d_Mo_isKind_15 (by decide) (fun b7 => ?_) (fun b7 => ?_)
    · replace h := h.1 b7
      refine g_iconst (v := 0) F (pc := 22) d_Mo_isKind_22 (by decide) ?_
      exact g_zret T (pc := 23) d_Mo_isKind_23 rfl (by decide) (Nat.le_refl _) (Nat.le_refl _) (poI h)
    · replace h := h.2 b7
      refine g_iconst (v := 1) F (pc := 18) d_Mo_isKind_18 (by decide) (g_goto (tgt := 23) F (pc := 19) d_Mo_isKind_19 (by decide) ?_)
      exact g_zret T (pc := 23) d_Mo_isKind_23 rfl (by decide) (Nat.le_refl _) (Nat.le_refl _) (poI h)
theorem d_Mo_type_0 : decode M_Mo_type.2.1 0 = .ok (.iload_n 3, 1) := by decide +kernel
theorem d_Mo_type_1 : decode M_Mo_type.2.1 1 = .ok (.iconst 1, 1) := by decide +kernel
theorem d_Mo_type_2 : decode M_Mo_type.2.1 2 = .ok (.if_icmp .lt 9, 3) := by decide +kernel
theorem d_Mo_type_5 : decode M_Mo_type.2.1 5 = .ok (.iload_n 3, 1) := by decide +kernel
theorem d_Mo_type_6 : decode M_Mo_type.2.1 6 = .ok (.bipush 8, 2) := by decide +kernel
theorem d_Mo_type_8 : decode M_Mo_type.2.1 8 = .ok (.if_icmp .le 5, 3) := by decide +kernel
theorem d_Mo_type_11 : decode M_Mo_type.2.1 11 = .ok (.iconst (-1), 1) := by decide +kernel
theorem d_Mo_type_12 : decode M_Mo_type.2.1 12 = .ok (.ireturn, 1) := by decide +kernel
theorem d_Mo_type_13 : decode M_Mo_type.2.1 13 = .ok (.aload_n 0, 1) := by decide +kernel
theorem d_Mo_type_14 : decode M_Mo_type.2.1 14 = .ok (.getfield 117, 3) := by decide +kernel
theorem d_Mo_type_17 : decode M_Mo_type.2.1 17 = .ok (.iload_n 3, 1) := by decide +kernel
theorem d_Mo_type_18 : decode M_Mo_type.2.1 18 = .ok (.iadd, 1) := by decide +kernel
theorem d_Mo_type_19 : decode M_Mo_type.2.1 19 = .ok (.bipush 64, 2) := by decide +kernel
theorem d_Mo_type_21 : decode M_Mo_type.2.1 21 = .ok (.if_icmp .le 6, 3) := by decide +kernel
theorem d_Mo_type_24 : decode M_Mo_type.2.1 24 = .ok (.bipush (-2), 2) := by decide +kernel
theorem d_Mo_type_26 : decode M_Mo_type.2.1 26 = .ok (.ireturn, 1) := by decide +kernel
theorem d_Mo_type_27 : decode M_Mo_type.2.1 27 = .ok (.iload_n 3, 1) := by decide +kernel
theorem d_Mo_type_28 : decode M_Mo_type.2.1 28 = .ok (.iconst 1, 1) := by decide +kernel
theorem d_Mo_type_29 : decode M_Mo_type.2.1 29 = .ok (.isub, 1) := by decide +kernel
theorem d_Mo_type_30 : decode M_Mo_type.2.1 30 = .ok (.istore 4, 2) := by decide +kernel
theorem d_Mo_type_32 : decode M_Mo_type.2.1 32 = .ok (.iload 4, 2) := by decide +kernel
theorem d_Mo_type_34 : decode M_Mo_type.2.1 34 = .ok (.ifCond .lt 40, 3) := by decide +kernel
theorem d_Mo_type_37 : decode M_Mo_type.2.1 37 = .ok (.aload_n 0, 1) := by decide +kernel
theorem d_Mo_type_38 : decode M_Mo_type.2.1 38 = .ok (.getfield 29, 3) := by decide +kernel
theorem d_Mo_type_41 : decode M_Mo_type.2.1 41 = .ok (.aload_n 0, 1) := by decide +kernel
theorem d_Mo_type_42 : decode M_Mo_type.2.1 42 = .ok (.getfield 117, 3) := by decide +kernel
theorem d_Mo_type_45 : decode M_Mo_type.2.1 45 = .ok (.lload_n 1, 1) := by decide +kernel
theorem d_Mo_type_46 : decode M_Mo_type.2.1 46 = .ok (.bipush 8, 2) := by decide +kernel
theorem d_Mo_type_48 : decode M_Mo_type.2.1 48 = .ok (.iload 4, 2) := by decide +kernel
theorem d_Mo_type_50 : decode M_Mo_type.2.1 50 = .ok (.imul, 1) := by decide +kernel
theorem d_Mo_type_51 : decode M_Mo_type.2.1 51 = .ok (.lshr, 1) := by decide +kernel
theorem d_Mo_type_52 : decode M_Mo_type.2.1 52 = .ok (.ldc2_w 120, 3) := by decide +kernel
theorem d_Mo_type_55 : decode M_Mo_type.2.1 55 = .ok (.land, 1) := by decide +kernel
theorem d_Mo_type_56 : decode M_Mo_type.2.1 56 = .ok (.l2i, 1) := by decide +kernel
theorem d_Mo_type_57 : decode M_Mo_type.2.1 57 = .ok (.iastore, 1) := by decide +kernel
theorem d_Mo_type_58 : decode M_Mo_type.2.1 58 = .ok (.aload_n 0, 1) := by decide +kernel
theorem d_Mo_type_59 : decode M_Mo_type.2.1 59 = .ok (.dup, 1) := by decide +kernel
theorem d_Mo_type_60 : decode M_Mo_type.2.1 60 = .ok (.getfield 117, 3) := by decide +kernel
theorem d_Mo_type_63 : decode M_Mo_type.2.1 63 = .ok (.iconst 1, 1) := by decide +kernel
theorem d_Mo_type_64 : decode M_Mo_type.2.1 64 = .ok (.iadd, 1) := by decide +kernel
theorem d_Mo_type_65 : decode M_Mo_type.2.1 65 = .ok (.putfield 117, 3) := by decide +kernel
theorem d_Mo_type_68 : decode M_Mo_type.2.1 68 = .ok (.iinc 4 (-1), 3) := by decide +kernel
theorem d_Mo_type_71 : decode M_Mo_type.2.1 71 = .ok (.goto (-39), 3) := by decide +kernel
theorem d_Mo_type_74 : decode M_Mo_type.2.1 74 = .ok (.aload_n 0, 1) := by decide +kernel
theorem d_Mo_type_75 : decode M_Mo_type.2.1 75 = .ok (.getfield 117, 3) := by decide +kernel
theorem d_Mo_type_78 : decode M_Mo_type.2.1 78 = .ok (.ireturn, 1) := by decide +kernel
def f_Mo_type (x0 : Nat) (x1 : Int64) (x3 : Int32) (c : cM) (K : Int32 → cM → Prop) : Prop :=
  ((x3 < 1) → (K (-1) c)) ∧ (¬ (x3 < 1) → (((x3 ≤ 8) → (kd x0 = 7 ∧ (((((c x0 7) + x3) ≤ 64) → (∃ I5 : Nat → Int32 → cM → Prop, (∃ n, I5 n (x3 - 1) c) ∧ ∀ (n6 : Nat) (y9 : Int32) (c10 : cM), I5 n6 y9 c10 → (((y9 < 0) → (K (c10 x0 7) c10)) ∧ (¬ (y9 < 0) → (kd (rf x0 8) = 100 ∧ (vp_in (c10 x0 7) (ln (rf x0 8)) ∧ (∀ c14 : cM, c14 = c_up c10 (rf x0 8) (Int32.toNatClampNeg (c10 x0 7)) (Int64.toInt32 ((c_lshr x1 (8 * y9)) &&& 255)) → (∀ c15 : cM, c15 = c_up c14 x0 7 ((c14 x0 7) + 1) → (∃ m, m < n6 ∧ I5 m (y9 + (-1)) c15))))))))) ∧ (¬ (((c x0 7) + x3) ≤ 64) → (K (-2) c))))) ∧ (¬ (x3 ≤ 8) → (K (-1) c))))
theorem c_Mo_type {x0 : Nat} {x1 : Int64} {x3 : Int32} {c : cM} {K : Int32 → cM → Prop} (h : f_Mo_type x0 x1 x3 c K) : Ct M_Mo_type 0 0 0 (wd c) [.ref x0, .long x1, .int x3] (PoI K) := by
  refine Ct.of (by decide +kernel) (Nat.le_of_ble_eq_true rfl) (fun Z T => ?_)
  have F := T.F
  unfold f_Mo_type at h
  show Z (wd c) 0 [(0, .ref x0), (1, .long x1), (3, .int x3)] [] 0 0
  refine g_iload_n F (pc := 0) d_Mo_type_0 2 rfl (g_iconst (v := 1) F (pc := 1) d_Mo_type_1 (by decide) ?_)
  refine g_icmp_lt (tgt := 11) F (pc := 2) d_Mo_type_2 (by decide) (fun b1 => ?_) (fun b1 => ?_)
  · replace h := h.1 b1
    refine g_iconst (v := (-1)) F (pc := 11) d_Mo_type_11 (by decide) ?_
    exact g_iret T (pc := 12) d_Mo_type_12 rfl (Nat.le_refl _) (Nat.le_refl _) (poI h)
  · replace h := h.2 b1
    refine g_iload_n F (pc := 5) d_Mo_type_5 2 rfl (g_bipush (v := 8) F (pc := 6) d_Mo_type_6 (by decide) ?_)
    refine g_icmp_le (tgt := 13) F (pc := 8) d_Mo_type_8 (by decide) (fun b2 => ?_) (fun b2 => ?_)
    · replace h := h.1 b2
      refine g_aload_n F (pc := 13) d_Mo_type_13 0 rfl ?_
      obtain ⟨o3, h⟩ := h
      refine gc_getI F (pc := 14) d_Mo_type_14 fi_Mo_117 o3 (g_iload_n F (pc := 17) d_Mo_type_17 2 rfl (g_iadd F (pc := 18) d_Mo_type_18 (g_bipush (v := 64) F (pc := 19) d_Mo_type_19 (by decide) ?_)))
      refine g_icmp_le (tgt := 27) F (pc := 21) d_Mo_type_21 (by decide) (fun b4 => ?_) (fun b4 => ?_)
      · replace h := h.1 b4
        refine g_iload_n F (pc := 27) d_Mo_type_27 2 rfl (g_iconst (v := 1) F (pc := 28) d_Mo_type_28 (by decide) (g_isub F (pc := 29) d_Mo_type_29 (g_istore (lv' := [(4, .int (x3 - 1)), (0, .ref x0), (1, .long x1), (3, .int x3)]) F (pc := 30) d_Mo_type_30 (by decide) rfl ?_)))
        refine g_lv (lv' := [(0, .ref x0), (1, .long x1), (4, .int (x3 - 1))]) F [1, 2, 0] rfl ?_
        obtain ⟨I5, ⟨n0, h⟩, hI5⟩ := h
        have lp8 : ∀ (n6 : Nat) (y9 : Int32) (c10 : cM), I5 n6 y9 c10 → Z (wd c10) 32 [(0, .ref x0), (1, .long x1), (4, .int y9)] [] 0 0 := by
          intro n6
          induction n6 using Nat.strongRecOn with
          | _ n6 ih7 =>
            intro y9 c10 h
            replace h := hI5 n6 y9 c10 h
            refine g_iload F (pc := 32) d_Mo_type_32 2 rfl ?_
            refine g_if_lt (tgt := 74) F (pc := 34) d_Mo_type_34 (by decide) (fun b11 => ?_) (fun b11 => ?_)
            · replace h := h.1 b11
              refine g_aload_n F (pc := 74) d_Mo_type_74 0 rfl (gc_getI F (pc := 75) d_Mo_type_75 fi_Mo_117 o3 ?_)
              exact g_iret T (pc := 78) d_Mo_type_78 rfl (Nat.le_refl _) (Nat.le_refl _) (poI h)
            · replace h := h.2 b11
              refine g_aload_n F (pc := 37) d_Mo_type_37 0 rfl (gc_getR F (pc := 38) d_Mo_type_38 fi_Mo_29 o3 (g_aload_n F (pc := 41) d_Mo_type_41 0 rfl (gc_getI F (pc := 42) d_Mo_type_42 fi_Mo_117 o3 (g_lload_n F (pc := 45) d_Mo_type_45 1 rfl (g_bipush (v := 8) F (pc := 46) d_Mo_type_46 (by decide) ?_)))))
              refine g_iload F (pc := 48) d_Mo_type_48 2 rfl (g_imul F (pc := 50) d_Mo_type_50 (g_lshr F (pc := 51) d_Mo_type_51 (g_ldc2 F (pc := 52) d_Mo_type_52 kc_Mo_120 (g_land F (pc := 55) d_Mo_type_55 (g_l2i F (pc := 56) d_Mo_type_56 ?_)))))
              obtain ⟨o12, h⟩ := h
              obtain ⟨o13, h⟩ := h
              refine gc_iast F (pc := 57) d_Mo_type_57 o12 o13 ?_
              obtain ⟨c14, ec14⟩ : ∃ c14 : cM, c14 = c_up c10 (rf x0 8) (Int32.toNatClampNeg (c10 x0 7)) (Int64.toInt32 ((c_lshr x1 (8 * y9)) &&& 255)) := ⟨_, rfl⟩
              rw [← ec14]
              replace h := h c14 ec14
              refine g_aload_n F (pc := 58) d_Mo_type_58 0 rfl (g_dup F (pc := 59) d_Mo_type_59 rfl (gc_getI F (pc := 60) d_Mo_type_60 fi_Mo_117 o3 (g_iconst (v := 1) F (pc := 63) d_Mo_type_63 (by decide) (g_iadd F (pc := 64) d_Mo_type_64 (gc_putI F (pc := 65) d_Mo_type_65 pi_Mo_117 o3 ?_)))))
              obtain ⟨c15, ec15⟩ : ∃ c15 : cM, c15 = c_up c14 x0 7 ((c14 x0 7) + 1) := ⟨_, rfl⟩
              rw [← ec15]
              replace h := h c15 ec15
              refine g_iinc (v := (y9 + (-1))) (lv' := [(4, .int (y9 + (-1))), (0, .ref x0), (1, .long x1)]) F (pc := 68) d_Mo_type_68 2 rfl (sk_inc (by decide)) (by decide) rfl (g_goto (tgt := 32) F (pc := 71) d_Mo_type_71 (by decide) ?_)
              refine g_lv (lv' := [(0, .ref x0), (1, .long x1), (4, .int (y9 + (-1)))]) F [1, 2, 0] rfl ?_
              obtain ⟨m, hm, h⟩ := h
              exact ih7 m hm _ _ h
        exact lp8 n0 _ _ h
      · replace h := h.2 b4
        refine g_bipush (v := (-2)) F (pc := 24) d_Mo_type_24 (by decide) ?_
        exact g_iret T (pc := 26) d_Mo_type_26 rfl (Nat.le_refl _) (Nat.le_refl _) (poI h)
    · replace h := h.2 b2
      refine g_iconst (v := (-1)) F (pc := 11) d_Mo_type_11 (by decide) ?_
      exact g_iret T (pc := 12) d_Mo_type_12 rfl (Nat.le_refl _) (Nat.le_refl _) (poI h)
theorem d_Mo_blob_0 : decode M_Mo_blob.2.1 0 = .ok (.aload_n 0, 1) := by decide +kernel
theorem d_Mo_blob_1 : decode M_Mo_blob.2.1 1 = .ok (.iconst 3, 1) := by decide +kernel
theorem d_Mo_blob_2 : decode M_Mo_blob.2.1 2 = .ok (.invokevirtual 122, 3) := by decide +kernel
theorem d_Mo_blob_5 : decode M_Mo_blob.2.1 5 = .ok (.iconst 0, 1) := by decide +kernel
theorem d_Mo_blob_6 : decode M_Mo_blob.2.1 6 = .ok (.istore_n 1, 1) := by decide +kernel
theorem d_Mo_blob_7 : decode M_Mo_blob.2.1 7 = .ok (.iload_n 1, 1) := by decide +kernel
theorem d_Mo_blob_8 : decode M_Mo_blob.2.1 8 = .ok (.aload_n 0, 1) := by decide +kernel
theorem d_Mo_blob_9 : decode M_Mo_blob.2.1 9 = .ok (.getfield 117, 3) := by decide +kernel
theorem d_Mo_blob_12 : decode M_Mo_blob.2.1 12 = .ok (.if_icmp .ge 19, 3) := by decide +kernel
theorem d_Mo_blob_15 : decode M_Mo_blob.2.1 15 = .ok (.aload_n 0, 1) := by decide +kernel
theorem d_Mo_blob_16 : decode M_Mo_blob.2.1 16 = .ok (.aload_n 0, 1) := by decide +kernel
theorem d_Mo_blob_17 : decode M_Mo_blob.2.1 17 = .ok (.getfield 29, 3) := by decide +kernel
theorem d_Mo_blob_20 : decode M_Mo_blob.2.1 20 = .ok (.iload_n 1, 1) := by decide +kernel
theorem d_Mo_blob_21 : decode M_Mo_blob.2.1 21 = .ok (.iaload, 1) := by decide +kernel
theorem d_Mo_blob_22 : decode M_Mo_blob.2.1 22 = .ok (.invokevirtual 110, 3) := by decide +kernel
theorem d_Mo_blob_25 : decode M_Mo_blob.2.1 25 = .ok (.iinc 1 1, 3) := by decide +kernel
theorem d_Mo_blob_28 : decode M_Mo_blob.2.1 28 = .ok (.goto (-21), 3) := by decide +kernel
theorem d_Mo_blob_31 : decode M_Mo_blob.2.1 31 = .ok (.aload_n 0, 1) := by decide +kernel
theorem d_Mo_blob_32 : decode M_Mo_blob.2.1 32 = .ok (.invokevirtual 125, 3) := by decide +kernel
theorem d_Mo_blob_35 : decode M_Mo_blob.2.1 35 = .ok (.istore_n 1, 1) := by decide +kernel
theorem d_Mo_blob_36 : decode M_Mo_blob.2.1 36 = .ok (.iload_n 1, 1) := by decide +kernel
theorem d_Mo_blob_37 : decode M_Mo_blob.2.1 37 = .ok (.ifCond .lt 8, 3) := by decide +kernel
theorem d_Mo_blob_40 : decode M_Mo_blob.2.1 40 = .ok (.aload_n 0, 1) := by decide +kernel
theorem d_Mo_blob_41 : decode M_Mo_blob.2.1 41 = .ok (.iconst 0, 1) := by decide +kernel
theorem d_Mo_blob_42 : decode M_Mo_blob.2.1 42 = .ok (.putfield 117, 3) := by decide +kernel
theorem d_Mo_blob_45 : decode M_Mo_blob.2.1 45 = .ok (.iload_n 1, 1) := by decide +kernel
theorem d_Mo_blob_46 : decode M_Mo_blob.2.1 46 = .ok (.ireturn, 1) := by decide +kernel
def f_Mo_blob (x0 : Nat) (c : cM) (K : Int32 → cM → Prop) : Prop :=
  kd x0 = 7 ∧ (f_Mo_begin x0 3 c (fun c2 => ∃ I3 : Nat → Int32 → cM → Prop, (∃ n, I3 n 0 c2) ∧ ∀ (n4 : Nat) (y7 : Int32) (c8 : cM), I3 n4 y7 c8 → ((((c8 x0 7) ≤ y7) → (f_Mo_come x0 c8 (fun v11 c10 => ((v11 < 0) → (K v11 c10)) ∧ (¬ (v11 < 0) → (∀ c13 : cM, c13 = c_up c10 x0 7 0 → (K v11 c13)))))) ∧ (¬ ((c8 x0 7) ≤ y7) → (kd (rf x0 8) = 100 ∧ (vp_in y7 (ln (rf x0 8)) ∧ (f_Mo_add x0 (c8 (rf x0 8) (Int32.toNatClampNeg y7)) c8 (fun c16 => ∃ m, m < n4 ∧ I3 m (y7 + 1) c16))))))))
theorem c_Mo_blob {x0 : Nat} {c : cM} {K : Int32 → cM → Prop} (h : f_Mo_blob x0 c K) : Ct M_Mo_blob 5 0 0 (wd c) [.ref x0] (PoI K) := by
  refine Ct.of (by decide +kernel) (Nat.le_of_ble_eq_true rfl) (fun Z T => ?_)
  have F := T.F
  unfold f_Mo_blob at h
  show Z (wd c) 0 [(0, .ref x0)] [] 0 0
  refine g_aload_n F (pc := 0) d_Mo_blob_0 0 rfl (g_iconst (v := 3) F (pc := 1) d_Mo_blob_1 (by decide) ?_)
  obtain ⟨o1, h⟩ := h
  refine gc_callVV (As := [.int 3]) (st := []) F (pc := 2) d_Mo_blob_2 cb_Mo_122 iv_Mo_begin np_Mo_begin o1 vc_7 (c_Mo_begin h) rfl (by decide) (Nat.le_refl _) (Nat.le_refl _) (Nat.le_of_ble_eq_true rfl) (fun c2 h => ?_)
  refine g_iconst (v := 0) F (pc := 5) d_Mo_blob_5 (by decide) (g_istore_n (lv' := [(1, .int 0), (0, .ref x0)]) F (pc := 6) d_Mo_blob_6 (by decide) rfl ?_)
  refine g_lv (lv' := [(0, .ref x0), (1, .int 0)]) F [1, 0] rfl ?_
  obtain ⟨I3, ⟨n0, h⟩, hI3⟩ := h
  have lp6 : ∀ (n4 : Nat) (y7 : Int32) (c8 : cM), I3 n4 y7 c8 → Z (wd c8) 7 [(0, .ref x0), (1, .int y7)] [] 0 0 := by
    intro n4
    induction n4 using Nat.strongRecOn with
    | _ n4 ih5 =>
      intro y7 c8 h
      replace h := hI3 n4 y7 c8 h
      refine g_iload_n F (pc := 7) d_Mo_blob_7 1 rfl (g_aload_n F (pc := 8) d_Mo_blob_8 0 rfl (gc_getI F (pc := 9) d_Mo_blob_9 fi_Mo_117 o1 ?_))
      refine g_icmp_ge (tgt := 31) F (pc := 12) d_Mo_blob_12 (by decide) (fun b9 => ?_) (fun b9 => ?_)
      · replace h := h.1 b9
        refine g_aload_n F (pc := 31) d_Mo_blob_31 0 rfl ?_
        refine gc_callVI (As := []) (st := []) F (pc := 32) d_Mo_blob_32 cb_Mo_125 iv_Mo_come np_Mo_come o1 vc_7 (c_Mo_come h) rfl (by decide) (Nat.le_refl _) (Nat.le_refl _) (Nat.le_of_ble_eq_true rfl) (fun v11 c10 h => ?_)
        refine g_istore_n (lv' := [(1, .int v11), (0, .ref x0)]) F (pc := 35) d_Mo_blob_35 (by decide) rfl (g_iload_n F (pc := 36) d_Mo_blob_36 0 rfl ?_)
        refine g_if_lt (tgt := 45) F (pc := 37) d_Mo_blob_37 (by decide) (fun b12 => ?_) (fun b12 => ?_)
        · replace h := h.1 b12
          refine g_iload_n F (pc := 45) d_Mo_blob_45 0 rfl ?_
          exact g_iret T (pc := 46) d_Mo_blob_46 rfl (Nat.le_refl _) (Nat.le_refl _) (poI h)
        · replace h := h.2 b12
          refine g_aload_n F (pc := 40) d_Mo_blob_40 1 rfl (g_iconst (v := 0) F (pc := 41) d_Mo_blob_41 (by decide) (gc_putI F (pc := 42) d_Mo_blob_42 pi_Mo_117 o1 ?_))
          obtain ⟨c13, ec13⟩ : ∃ c13 : cM, c13 = c_up c10 x0 7 0 := ⟨_, rfl⟩
          rw [← ec13]
          replace h := h c13 ec13
          refine g_iload_n F (pc := 45) d_Mo_blob_45 0 rfl ?_
          exact g_iret T (pc := 46) d_Mo_blob_46 rfl (Nat.le_refl _) (Nat.le_refl _) (poI h)
      · replace h := h.2 b9
        refine g_aload_n F (pc := 15) d_Mo_blob_15 0 rfl (g_aload_n F (pc := 16) d_Mo_blob_16 0 rfl (gc_getR F (pc := 17) d_Mo_blob_17 fi_Mo_29 o1 (g_iload_n F (pc := 20) d_Mo_blob_20 1 rfl ?_)))
        obtain ⟨o14, h⟩ := h
        obtain ⟨o15, h⟩ := h
        refine gc_iald F (pc := 21) d_Mo_blob_21 o14 o15 ?_
        refine gc_callVV (As := [.int (c8 (rf x0 8) (Int32.toNatClampNeg y7))]) (st := []) F (pc := 22) d_Mo_blob_22 cb_Mo_110 iv_Mo_add np_Mo_add o1 vc_7 (c_Mo_add h) rfl (by decide) (Nat.le_refl _) (Nat.le_refl _) (Nat.le_of_ble_eq_true rfl) (fun c16 h => ?_)
        refine g_iinc (v := (y7 + 1)) (lv' := [(1, .int (y7 + 1)), (0, .ref x0)]) F (pc := 25) d_Mo_blob_25 1 rfl (sk_inc (by decide)) (by decide) rfl (g_goto (tgt := 7) F (pc := 28) d_Mo_blob_28 (by decide) ?_)
        refine g_lv (lv' := [(0, .ref x0), (1, .int (y7 + 1))]) F [1, 0] rfl ?_
        obtain ⟨m, hm, h⟩ := h
        exact ih5 m hm _ _ h
  exact lp6 n0 _ _ h
theorem d_Mo_entry_0 : decode M_Mo_entry.2.1 0 = .ok (.iload_n 1, 1) := by decide +kernel
theorem d_Mo_entry_1 : decode M_Mo_entry.2.1 1 = .ok (.ifCond .lt 27, 3) := by decide +kernel
theorem d_Mo_entry_4 : decode M_Mo_entry.2.1 4 = .ok (.iload_n 1, 1) := by decide +kernel
theorem d_Mo_entry_5 : decode M_Mo_entry.2.1 5 = .ok (.bipush 25, 2) := by decide +kernel
theorem d_Mo_entry_7 : decode M_Mo_entry.2.1 7 = .ok (.if_icmp .gt 21, 3) := by decide +kernel
theorem d_Mo_entry_10 : decode M_Mo_entry.2.1 10 = .ok (.aload_n 0, 1) := by decide +kernel
theorem d_Mo_entry_11 : decode M_Mo_entry.2.1 11 = .ok (.iload_n 2, 1) := by decide +kernel
theorem d_Mo_entry_12 : decode M_Mo_entry.2.1 12 = .ok (.iconst 2, 1) := by decide +kernel
theorem d_Mo_entry_13 : decode M_Mo_entry.2.1 13 = .ok (.invokevirtual 129, 3) := by decide +kernel
theorem d_Mo_entry_16 : decode M_Mo_entry.2.1 16 = .ok (.ifCond .ne 14, 3) := by decide +kernel
theorem d_Mo_entry_19 : decode M_Mo_entry.2.1 19 = .ok (.aload_n 0, 1) := by decide +kernel
theorem d_Mo_entry_20 : decode M_Mo_entry.2.1 20 = .ok (.iload_n 2, 1) := by decide +kernel
theorem d_Mo_entry_21 : decode M_Mo_entry.2.1 21 = .ok (.iconst 3, 1) := by decide +kernel
theorem d_Mo_entry_22 : decode M_Mo_entry.2.1 22 = .ok (.invokevirtual 129, 3) := by decide +kernel
theorem d_Mo_entry_25 : decode M_Mo_entry.2.1 25 = .ok (.ifCond .ne 5, 3) := by decide +kernel
theorem d_Mo_entry_28 : decode M_Mo_entry.2.1 28 = .ok (.iconst (-1), 1) := by decide +kernel
theorem d_Mo_entry_29 : decode M_Mo_entry.2.1 29 = .ok (.ireturn, 1) := by decide +kernel
theorem d_Mo_entry_30 : decode M_Mo_entry.2.1 30 = .ok (.aload_n 0, 1) := by decide +kernel
theorem d_Mo_entry_31 : decode M_Mo_entry.2.1 31 = .ok (.getfield 133, 3) := by decide +kernel
theorem d_Mo_entry_34 : decode M_Mo_entry.2.1 34 = .ok (.istore_n 3, 1) := by decide +kernel
theorem d_Mo_entry_35 : decode M_Mo_entry.2.1 35 = .ok (.iconst 0, 1) := by decide +kernel
theorem d_Mo_entry_36 : decode M_Mo_entry.2.1 36 = .ok (.istore 4, 2) := by decide +kernel
theorem d_Mo_entry_38 : decode M_Mo_entry.2.1 38 = .ok (.iload 4, 2) := by decide +kernel
theorem d_Mo_entry_40 : decode M_Mo_entry.2.1 40 = .ok (.aload_n 0, 1) := by decide +kernel
theorem d_Mo_entry_41 : decode M_Mo_entry.2.1 41 = .ok (.getfield 133, 3) := by decide +kernel
theorem d_Mo_entry_44 : decode M_Mo_entry.2.1 44 = .ok (.if_icmp .ge 27, 3) := by decide +kernel
theorem d_Mo_entry_47 : decode M_Mo_entry.2.1 47 = .ok (.aload_n 0, 1) := by decide +kernel
theorem d_Mo_entry_48 : decode M_Mo_entry.2.1 48 = .ok (.getfield 32, 3) := by decide +kernel
theorem d_Mo_entry_51 : decode M_Mo_entry.2.1 51 = .ok (.iload 4, 2) := by decide +kernel
theorem d_Mo_entry_53 : decode M_Mo_entry.2.1 53 = .ok (.iaload, 1) := by decide +kernel
theorem d_Mo_entry_54 : decode M_Mo_entry.2.1 54 = .ok (.iload_n 1, 1) := by decide +kernel
theorem d_Mo_entry_55 : decode M_Mo_entry.2.1 55 = .ok (.if_icmp .ne 8, 3) := by decide +kernel
theorem d_Mo_entry_58 : decode M_Mo_entry.2.1 58 = .ok (.iload 4, 2) := by decide +kernel
theorem d_Mo_entry_60 : decode M_Mo_entry.2.1 60 = .ok (.goto 4, 3) := by decide +kernel
theorem d_Mo_entry_63 : decode M_Mo_entry.2.1 63 = .ok (.iload_n 3, 1) := by decide +kernel
theorem d_Mo_entry_64 : decode M_Mo_entry.2.1 64 = .ok (.istore_n 3, 1) := by decide +kernel
theorem d_Mo_entry_65 : decode M_Mo_entry.2.1 65 = .ok (.iinc 4 1, 3) := by decide +kernel
theorem d_Mo_entry_68 : decode M_Mo_entry.2.1 68 = .ok (.goto (-30), 3) := by decide +kernel
theorem d_Mo_entry_71 : decode M_Mo_entry.2.1 71 = .ok (.iload_n 3, 1) := by decide +kernel
theorem d_Mo_entry_72 : decode M_Mo_entry.2.1 72 = .ok (.iconst 4, 1) := by decide +kernel
theorem d_Mo_entry_73 : decode M_Mo_entry.2.1 73 = .ok (.if_icmp .ne 6, 3) := by decide +kernel
theorem d_Mo_entry_76 : decode M_Mo_entry.2.1 76 = .ok (.bipush (-2), 2) := by decide +kernel
theorem d_Mo_entry_78 : decode M_Mo_entry.2.1 78 = .ok (.ireturn, 1) := by decide +kernel
theorem d_Mo_entry_79 : decode M_Mo_entry.2.1 79 = .ok (.aload_n 0, 1) := by decide +kernel
theorem d_Mo_entry_80 : decode M_Mo_entry.2.1 80 = .ok (.getfield 32, 3) := by decide +kernel
theorem d_Mo_entry_83 : decode M_Mo_entry.2.1 83 = .ok (.iload_n 3, 1) := by decide +kernel
theorem d_Mo_entry_84 : decode M_Mo_entry.2.1 84 = .ok (.iload_n 1, 1) := by decide +kernel
theorem d_Mo_entry_85 : decode M_Mo_entry.2.1 85 = .ok (.iastore, 1) := by decide +kernel
theorem d_Mo_entry_86 : decode M_Mo_entry.2.1 86 = .ok (.aload_n 0, 1) := by decide +kernel
theorem d_Mo_entry_87 : decode M_Mo_entry.2.1 87 = .ok (.getfield 35, 3) := by decide +kernel
theorem d_Mo_entry_90 : decode M_Mo_entry.2.1 90 = .ok (.iload_n 3, 1) := by decide +kernel
theorem d_Mo_entry_91 : decode M_Mo_entry.2.1 91 = .ok (.iload_n 2, 1) := by decide +kernel
theorem d_Mo_entry_92 : decode M_Mo_entry.2.1 92 = .ok (.iastore, 1) := by decide +kernel
theorem d_Mo_entry_93 : decode M_Mo_entry.2.1 93 = .ok (.aload_n 0, 1) := by decide +kernel
theorem d_Mo_entry_94 : decode M_Mo_entry.2.1 94 = .ok (.iload_n 3, 1) := by decide +kernel
theorem d_Mo_entry_95 : decode M_Mo_entry.2.1 95 = .ok (.aload_n 0, 1) := by decide +kernel
theorem d_Mo_entry_96 : decode M_Mo_entry.2.1 96 = .ok (.getfield 133, 3) := by decide +kernel
theorem d_Mo_entry_99 : decode M_Mo_entry.2.1 99 = .ok (.if_icmp .ne 12, 3) := by decide +kernel
theorem d_Mo_entry_102 : decode M_Mo_entry.2.1 102 = .ok (.aload_n 0, 1) := by decide +kernel
theorem d_Mo_entry_103 : decode M_Mo_entry.2.1 103 = .ok (.getfield 133, 3) := by decide +kernel
theorem d_Mo_entry_106 : decode M_Mo_entry.2.1 106 = .ok (.iconst 1, 1) := by decide +kernel
theorem d_Mo_entry_107 : decode M_Mo_entry.2.1 107 = .ok (.iadd, 1) := by decide +kernel
theorem d_Mo_entry_108 : decode M_Mo_entry.2.1 108 = .ok (.goto 7, 3) := by decide +kernel
theorem d_Mo_entry_111 : decode M_Mo_entry.2.1 111 = .ok (.aload_n 0, 1) := by decide +kernel
theorem d_Mo_entry_112 : decode M_Mo_entry.2.1 112 = .ok (.getfield 133, 3) := by decide +kernel
theorem d_Mo_entry_115 : decode M_Mo_entry.2.1 115 = .ok (.putfield 133, 3) := by decide +kernel
theorem d_Mo_entry_118 : decode M_Mo_entry.2.1 118 = .ok (.aload_n 0, 1) := by decide +kernel
theorem d_Mo_entry_119 : decode M_Mo_entry.2.1 119 = .ok (.getfield 133, 3) := by decide +kernel
theorem d_Mo_entry_122 : decode M_Mo_entry.2.1 122 = .ok (.ireturn, 1) := by decide +kernel
def f_Mo_entry (x0 : Nat) (x1 : Int32) (x2 : Int32) (c : cM) (K : Int32 → cM → Prop) : Prop :=
  ((x1 < 0) → (K (-1) c)) ∧ (¬ (x1 < 0) → (((25 < x1) → (K (-1) c)) ∧ (¬ (25 < x1) → (kd x0 = 7 ∧ (f_Mo_isKind x0 x2 2 c (fun v5 c4 => ∃ J11 : cM → Prop, (∀ (c10 : cM), J11 c10 → (∃ I13 : Nat → Int32 → Int32 → Prop, (∃ n, I13 n (c10 x0 9) 0) ∧ ∀ (n14 : Nat) (y17 : Int32) (y18 : Int32), I13 n14 y17 y18 → ((((c10 x0 9) ≤ y18) → (((¬ y17 = 4) → (kd (rf x0 10) = 100 ∧ (vp_in y17 (ln (rf x0 10)) ∧ (∀ c23 : cM, c23 = c_up c10 (rf x0 10) (Int32.toNatClampNeg y17) x1 → (kd (rf x0 11) = 100 ∧ (vp_in y17 (ln (rf x0 11)) ∧ (∀ c26 : cM, c26 = c_up c23 (rf x0 11) (Int32.toNatClampNeg y17) x2 → (∃ J29 : Int32 → Prop, (∀ (s28 : Int32), J29 s28 → (∀ c31 : cM, c31 = c_up c26 x0 9 s28 → (K (c31 x0 9) c31))) ∧ (((¬ y17 = (c26 x0 9)) → (J29 (c26 x0 9))) ∧ (y17 = (c26 x0 9) → (J29 ((c26 x0 9) + 1)))))))))))) ∧ (y17 = 4 → (K (-2) c10)))) ∧ (¬ ((c10 x0 9) ≤ y18) → (kd (rf x0 10) = 100 ∧ (vp_in y18 (ln (rf x0 10)) ∧ (∃ J36 : Int32 → Prop, (∀ (s35 : Int32), J36 s35 → (∃ m, m < n14 ∧ I13 m s35 (y18 + 1))) ∧ (((¬ (c10 (rf x0 10) (Int32.toNatClampNeg y18)) = x1) → (J36 y17)) ∧ ((c10 (rf x0 10) (Int32.toNatClampNeg y18)) = x1 → (J36 y18)))))))))) ∧ (((¬ v5 = 0) → (J11 c4)) ∧ (v5 = 0 → (f_Mo_isKind x0 x2 3 c4 (fun v39 c38 => ((¬ v39 = 0) → (J11 c38)) ∧ (v39 = 0 → (K (-1) c38))))))))))))
theorem c_Mo_entry {x0 : Nat} {x1 : Int32} {x2 : Int32} {c : cM} {K : Int32 → cM → Prop} (h : f_Mo_entry x0 x1 x2 c K) : Ct M_Mo_entry 2 0 0 (wd c) [.ref x0, .int x1, .int x2] (PoI K) := by
  refine Ct.of (by decide +kernel) (Nat.le_of_ble_eq_true rfl) (fun Z T => ?_)
  have F := T.F
  unfold f_Mo_entry at h
  show Z (wd c) 0 [(0, .ref x0), (1, .int x1), (2, .int x2)] [] 0 0
  refine g_iload_n F (pc := 0) d_Mo_entry_0 1 rfl ?_
  refine g_if_lt (tgt := 28) F (pc := 1) d_Mo_entry_1 (by decide) (fun b1 => ?_) (fun b1 => ?_)
  · replace h := h.1 b1
    refine g_iconst (v := (-1)) F (pc := 28) d_Mo_entry_28 (by decide) ?_
    exact g_iret T (pc := 29) d_Mo_entry_29 rfl (Nat.le_refl _) (Nat.le_refl _) (poI h)
  · replace h := h.2 b1
    refine g_iload_n F (pc := 4) d_Mo_entry_4 1 rfl (g_bipush (v := 25) F (pc := 5) d_Mo_entry_5 (by decide) ?_)
    refine g_icmp_gt (tgt := 28) F (pc := 7) d_Mo_entry_7 (by decide) (fun b2 => ?_) (fun b2 => ?_)
    · replace h := h.1 b2
      refine g_iconst (v := (-1)) F (pc := 28) d_Mo_entry_28 (by decide) ?_
      exact g_iret T (pc := 29) d_Mo_entry_29 rfl (Nat.le_refl _) (Nat.le_refl _) (poI h)
    · replace h := h.2 b2
      refine g_aload_n F (pc := 10) d_Mo_entry_10 0 rfl (g_iload_n F (pc := 11) d_Mo_entry_11 2 rfl (g_iconst (v := 2) F (pc := 12) d_Mo_entry_12 (by decide) ?_))
      obtain ⟨o3, h⟩ := h
      refine gc_callVI (As := [.int x2, .int 2]) (st := []) F (pc := 13) d_Mo_entry_13 cb_Mo_129 iv_Mo_isKind np_Mo_isKind o3 vc_7 (c_Mo_isKind h) rfl (by decide) (Nat.le_refl _) (Nat.le_refl _) (Nat.le_of_ble_eq_true rfl) (fun v5 c4 h => ?_)
      obtain ⟨J11, hJ11, h⟩ := h
      have jn12 : ∀ (c10 : cM), J11 c10 → Z (wd c10) 30 [(0, .ref x0), (1, .int x1), (2, .int x2)] [] 0 0 := by
        intro c10 h
        replace h := hJ11 c10 h
        refine g_aload_n F (pc := 30) d_Mo_entry_30 0 rfl (gc_getI F (pc := 31) d_Mo_entry_31 fi_Mo_133 o3 (g_istore_n (lv' := [(3, .int (c10 x0 9)), (0, .ref x0), (1, .int x1), (2, .int x2)]) F (pc := 34) d_Mo_entry_34 (by decide) rfl (g_iconst (v := 0) F (pc := 35) d_Mo_entry_35 (by decide) (g_istore (lv' := [(4, .int 0), (3, .int (c10 x0 9)), (0, .ref x0), (1, .int x1), (2, .int x2)]) F (pc := 36) d_Mo_entry_36 (by decide) rfl ?_))))
        refine g_lv (lv' := [(0, .ref x0), (1, .int x1), (2, .int x2), (3, .int (c10 x0 9)), (4, .int 0)]) F [2, 3, 4, 1, 0] rfl ?_
        obtain ⟨I13, ⟨n0, h⟩, hI13⟩ := h
        have lp16 : ∀ (n14 : Nat) (y17 : Int32) (y18 : Int32), I13 n14 y17 y18 → Z (wd c10) 38 [(0, .ref x0), (1, .int x1), (2, .int x2), (3, .int y17), (4, .int y18)] [] 0 0 := by
          intro n14
          induction n14 using Nat.strongRecOn with
          | _ n14 ih15 =>
            intro y17 y18 h
            replace h := hI13 n14 y17 y18 h
            refine g_iload F (pc := 38) d_Mo_entry_38 4 rfl (g_aload_n F (pc := 40) d_Mo_entry_40 0 rfl (gc_getI F (pc := 41) d_Mo_entry_41 fi_Mo_133 o3 ?_))
            refine g_icmp_ge (tgt := 71) F (pc := 44) d_Mo_entry_44 (by decide) (fun b19 => ?_) (fun b19 => ?_)
            · replace h := h.1 b19
              refine g_iload_n F (pc := 71) d_Mo_entry_71 3 rfl (g_iconst (v := 4) F (pc := 72) d_Mo_entry_72 (by decide) ?_)
              refine g_icmp_ne (tgt := 79) F (pc := 73) d_Mo_entry_73 (by decide) (fun b20 => ?_) (fun b20 => ?_)
              · replace h := h.1 b20
                refine g_aload_n F (pc := 79) d_Mo_entry_79 0 rfl (gc_getR F (pc := 80) d_Mo_entry_80 fi_Mo_32 o3 (g_iload_n F (pc := 83) d_Mo_entry_83 3 rfl (g_iload_n F (pc := 84) d_Mo_entry_84 1 rfl ?_)))
                obtain ⟨o21, h⟩ := h
                obtain ⟨o22, h⟩ := h
                refine gc_iast F (pc := 85) d_Mo_entry_85 o21 o22 ?_
                obtain ⟨c23, ec23⟩ : ∃ c23 : cM, c23 = c_up c10 (rf x0 10) (Int32.toNatClampNeg y17) x1 := ⟨_, rfl⟩
                rw [← ec23]
                replace h := h c23 ec23
                refine g_aload_n F (pc := 86) d_Mo_entry_86 0 rfl (gc_getR F (pc := 87) d_Mo_entry_87 fi_Mo_35 o3 (g_iload_n F (pc := 90) d_Mo_entry_90 3 rfl (g_iload_n F (pc := 91) d_Mo_entry_91 2 rfl ?_)))
                obtain ⟨o24, h⟩ := h
                obtain ⟨o25, h⟩ := h
                refine gc_iast F (pc := 92) d_Mo_entry_92 o24 o25 ?_
                obtain ⟨c26, ec26⟩ : ∃ c26 : cM, c26 = c_up c23 (rf x0 11) (Int32.toNatClampNeg y17) x2 := ⟨_, rfl⟩
                rw [← ec26]
                replace h := h c26 ec26
                refine g_aload_n F (pc := 93) d_Mo_entry_93 0 rfl (g_iload_n F (pc := 94) d_Mo_entry_94 3 rfl (g_aload_n F (pc := 95) d_Mo_entry_95 0 rfl (gc_getI F (pc := 96) d_Mo_entry_96 fi_Mo_133 o3 ?_)))
                obtain ⟨J29, hJ29, h⟩ := h
                have jn30 : ∀ (s28 : Int32), J29 s28 → Z (wd c26) 115 [(0, .ref x0)] [.int s28, .ref x0] 0 0 := by
                  intro s28 h
                  replace h := hJ29 s28 h
                  refine gc_putI F (pc := 115) d_Mo_entry_115 pi_Mo_133 o3 ?_
                  obtain ⟨c31, ec31⟩ : ∃ c31 : cM, c31 = c_up c26 x0 9 s28 := ⟨_, rfl⟩
                  rw [← ec31]
                  replace h := h c31 ec31
                  refine g_aload_n F (pc := 118) d_Mo_entry_118 0 rfl (gc_getI F (pc := 119) d_Mo_entry_119 fi_Mo_133 o3 ?_)
                  exact g_iret T (pc := 122) d_Mo_entry_122 rfl (Nat.le_refl _) (Nat.le_refl _) (poI h)
                refine g_icmp_ne (tgt := 111) F (pc := 99) d_Mo_entry_99 (by decide) (fun b27 => ?_) (fun b27 => ?_)
                · replace h := h.1 b27
                  refine g_aload_n F (pc := 111) d_Mo_entry_111 0 rfl (gc_getI F (pc := 112) d_Mo_entry_112 fi_Mo_133 o3 ?_)
                  refine g_lv (lv' := [(0, .ref x0)]) F [0] rfl ?_
                  exact jn30 _ h
                · replace h := h.2 b27
                  refine g_aload_n F (pc := 102) d_Mo_entry_102 0 rfl (gc_getI F (pc := 103) d_Mo_entry_103 fi_Mo_133 o3 (g_iconst (v := 1) F (pc := 106) d_Mo_entry_106 (by decide) (g_iadd F (pc := 107) d_Mo_entry_107 (g_goto (tgt := 115) F (pc := 108) d_Mo_entry_108 (by decide) ?_))))
                  refine g_lv (lv' := [(0, .ref x0)]) F [0] rfl ?_
                  exact jn30 _ h
              · replace h := h.2 b20
                refine g_bipush (v := (-2)) F (pc := 76) d_Mo_entry_76 (by decide) ?_
                exact g_iret T (pc := 78) d_Mo_entry_78 rfl (Nat.le_refl _) (Nat.le_refl _) (poI h)
            · replace h := h.2 b19
              refine g_aload_n F (pc := 47) d_Mo_entry_47 0 rfl (gc_getR F (pc := 48) d_Mo_entry_48 fi_Mo_32 o3 (g_iload F (pc := 51) d_Mo_entry_51 4 rfl ?_))
              obtain ⟨o32, h⟩ := h
              obtain ⟨o33, h⟩ := h
              refine gc_iald F (pc := 53) d_Mo_entry_53 o32 o33 (g_iload_n F (pc := 54) d_Mo_entry_54 1 rfl ?_)
              obtain ⟨J36, hJ36, h⟩ := h
              have jn37 : ∀ (s35 : Int32), J36 s35 → Z (wd c10) 64 [(0, .ref x0), (1, .int x1), (2, .int x2), (4, .int y18)] [.int s35] 0 0 := by
                intro s35 h
                replace h := hJ36 s35 h
                refine g_istore_n (lv' := [(3, .int s35), (0, .ref x0), (1, .int x1), (2, .int x2), (4, .int y18)]) F (pc := 64) d_Mo_entry_64 (by decide) rfl (g_iinc (v := (y18 + 1)) (lv' := [(4, .int (y18 + 1)), (3, .int s35), (0, .ref x0), (1, .int x1), (2, .int x2)]) F (pc := 65) d_Mo_entry_65 4 rfl (sk_inc (by decide)) (by decide) rfl (g_goto (tgt := 38) F (pc := 68) d_Mo_entry_68 (by decide) ?_))
                refine g_lv (lv' := [(0, .ref x0), (1, .int x1), (2, .int x2), (3, .int s35), (4, .int (y18 + 1))]) F [2, 3, 4, 1, 0] rfl ?_
                obtain ⟨m, hm, h⟩ := h
                exact ih15 m hm _ _ h
              refine g_icmp_ne (tgt := 63) F (pc := 55) d_Mo_entry_55 (by decide) (fun b34 => ?_) (fun b34 => ?_)
              · replace h := h.1 b34
                refine g_iload_n F (pc := 63) d_Mo_entry_63 3 rfl ?_
                refine g_lv (lv' := [(0, .ref x0), (1, .int x1), (2, .int x2), (4, .int y18)]) F [0, 1, 2, 4] rfl ?_
                exact jn37 _ h
              · replace h := h.2 b34
                refine g_iload F (pc := 58) d_Mo_entry_58 4 rfl (g_goto (tgt := 64) F (pc := 60) d_Mo_entry_60 (by decide) ?_)
                refine g_lv (lv' := [(0, .ref x0), (1, .int x1), (2, .int x2), (4, .int y18)]) F [0, 1, 2, 4] rfl ?_
                exact jn37 _ h
        exact lp16 n0 _ _ h
      refine g_if_ne (tgt := 30) F (pc := 16) d_Mo_entry_16 (by decide) (fun b6 => ?_) (fun b6 => ?_)
      · replace h := h.1 b6
        exact jn12 _ h
      · replace h := h.2 b6
        refine g_aload_n F (pc := 19) d_Mo_entry_19 0 rfl (g_iload_n F (pc := 20) d_Mo_entry_20 2 rfl (g_iconst (v := 3) F (pc := 21) d_Mo_entry_21 (by decide) ?_))
        refine gc_callVI (As := [.int x2, .int 3]) (st := []) F (pc := 22) d_Mo_entry_22 cb_Mo_129 iv_Mo_isKind np_Mo_isKind o3 vc_7 (c_Mo_isKind h) rfl (by decide) (Nat.le_refl _) (Nat.le_refl _) (Nat.le_of_ble_eq_true rfl) (fun v39 c38 h => ?_)
        refine g_if_ne (tgt := 30) F (pc := 25) d_Mo_entry_25 (by decide) (fun b40 => ?_) (fun b40 => ?_)
        · replace h := h.1 b40
          exact jn12 _ h
        · replace h := h.2 b40
          refine g_iconst (v := (-1)) F (pc := 28) d_Mo_entry_28 (by decide) ?_
          exact g_iret T (pc := 29) d_Mo_entry_29 rfl (Nat.le_refl _) (Nat.le_refl _) (poI h)
theorem d_Mo_addEntry_0 : decode M_Mo_addEntry.2.1 0 = .ok (.aload_n 0, 1) := by decide +kernel
theorem d_Mo_addEntry_1 : decode M_Mo_addEntry.2.1 1 = .ok (.getfield 7, 3) := by decide +kernel
theorem d_Mo_addEntry_4 : decode M_Mo_addEntry.2.1 4 = .ok (.aload_n 0, 1) := by decide +kernel
theorem d_Mo_addEntry_5 : decode M_Mo_addEntry.2.1 5 = .ok (.getfield 35, 3) := by decide +kernel
theorem d_Mo_addEntry_8 : decode M_Mo_addEntry.2.1 8 = .ok (.iload_n 1, 1) := by decide +kernel
theorem d_Mo_addEntry_9 : decode M_Mo_addEntry.2.1 9 = .ok (.iaload, 1) := by decide +kernel
theorem d_Mo_addEntry_10 : decode M_Mo_addEntry.2.1 10 = .ok (.iaload, 1) := by decide +kernel
theorem d_Mo_addEntry_11 : decode M_Mo_addEntry.2.1 11 = .ok (.iconst 3, 1) := by decide +kernel
theorem d_Mo_addEntry_12 : decode M_Mo_addEntry.2.1 12 = .ok (.if_icmp .ne 42, 3) := by decide +kernel
theorem d_Mo_addEntry_15 : decode M_Mo_addEntry.2.1 15 = .ok (.aload_n 0, 1) := by decide +kernel
theorem d_Mo_addEntry_16 : decode M_Mo_addEntry.2.1 16 = .ok (.bipush 49, 2) := by decide +kernel
theorem d_Mo_addEntry_18 : decode M_Mo_addEntry.2.1 18 = .ok (.invokevirtual 110, 3) := by decide +kernel
theorem d_Mo_addEntry_21 : decode M_Mo_addEntry.2.1 21 = .ok (.aload_n 0, 1) := by decide +kernel
theorem d_Mo_addEntry_22 : decode M_Mo_addEntry.2.1 22 = .ok (.bipush 48, 2) := by decide +kernel
theorem d_Mo_addEntry_24 : decode M_Mo_addEntry.2.1 24 = .ok (.invokevirtual 110, 3) := by decide +kernel
theorem d_Mo_addEntry_27 : decode M_Mo_addEntry.2.1 27 = .ok (.aload_n 0, 1) := by decide +kernel
theorem d_Mo_addEntry_28 : decode M_Mo_addEntry.2.1 28 = .ok (.bipush 48, 2) := by decide +kernel
theorem d_Mo_addEntry_30 : decode M_Mo_addEntry.2.1 30 = .ok (.invokevirtual 110, 3) := by decide +kernel
theorem d_Mo_addEntry_33 : decode M_Mo_addEntry.2.1 33 = .ok (.aload_n 0, 1) := by decide +kernel
theorem d_Mo_addEntry_34 : decode M_Mo_addEntry.2.1 34 = .ok (.bipush 54, 2) := by decide +kernel
theorem d_Mo_addEntry_36 : decode M_Mo_addEntry.2.1 36 = .ok (.invokevirtual 110, 3) := by decide +kernel
theorem d_Mo_addEntry_39 : decode M_Mo_addEntry.2.1 39 = .ok (.aload_n 0, 1) := by decide +kernel
theorem d_Mo_addEntry_40 : decode M_Mo_addEntry.2.1 40 = .ok (.bipush 52, 2) := by decide +kernel
theorem d_Mo_addEntry_42 : decode M_Mo_addEntry.2.1 42 = .ok (.invokevirtual 110, 3) := by decide +kernel
theorem d_Mo_addEntry_45 : decode M_Mo_addEntry.2.1 45 = .ok (.aload_n 0, 1) := by decide +kernel
theorem d_Mo_addEntry_46 : decode M_Mo_addEntry.2.1 46 = .ok (.bipush 52, 2) := by decide +kernel
theorem d_Mo_addEntry_48 : decode M_Mo_addEntry.2.1 48 = .ok (.invokevirtual 110, 3) := by decide +kernel
theorem d_Mo_addEntry_51 : decode M_Mo_addEntry.2.1 51 = .ok (.goto 28, 3) := by decide +kernel
theorem d_Mo_addEntry_54 : decode M_Mo_addEntry.2.1 54 = .ok (.aload_n 0, 1) := by decide +kernel
theorem d_Mo_addEntry_55 : decode M_Mo_addEntry.2.1 55 = .ok (.bipush 52, 2) := by decide +kernel
theorem d_Mo_addEntry_57 : decode M_Mo_addEntry.2.1 57 = .ok (.invokevirtual 110, 3) := by decide +kernel
theorem d_Mo_addEntry_60 : decode M_Mo_addEntry.2.1 60 = .ok (.iconst 0, 1) := by decide +kernel
theorem d_Mo_addEntry_61 : decode M_Mo_addEntry.2.1 61 = .ok (.istore_n 2, 1) := by decide +kernel
theorem d_Mo_addEntry_62 : decode M_Mo_addEntry.2.1 62 = .ok (.iload_n 2, 1) := by decide +kernel
theorem d_Mo_addEntry_63 : decode M_Mo_addEntry.2.1 63 = .ok (.iconst 4, 1) := by decide +kernel
theorem d_Mo_addEntry_64 : decode M_Mo_addEntry.2.1 64 = .ok (.if_icmp .ge 15, 3) := by decide +kernel
theorem d_Mo_addEntry_67 : decode M_Mo_addEntry.2.1 67 = .ok (.aload_n 0, 1) := by decide +kernel
theorem d_Mo_addEntry_68 : decode M_Mo_addEntry.2.1 68 = .ok (.bipush 48, 2) := by decide +kernel
theorem d_Mo_addEntry_70 : decode M_Mo_addEntry.2.1 70 = .ok (.invokevirtual 110, 3) := by decide +kernel
theorem d_Mo_addEntry_73 : decode M_Mo_addEntry.2.1 73 = .ok (.iinc 2 1, 3) := by decide +kernel
theorem d_Mo_addEntry_76 : decode M_Mo_addEntry.2.1 76 = .ok (.goto (-14), 3) := by decide +kernel
theorem d_Mo_addEntry_79 : decode M_Mo_addEntry.2.1 79 = .ok (.aload_n 0, 1) := by decide +kernel
theorem d_Mo_addEntry_80 : decode M_Mo_addEntry.2.1 80 = .ok (.bipush 32, 2) := by decide +kernel
theorem d_Mo_addEntry_82 : decode M_Mo_addEntry.2.1 82 = .ok (.invokevirtual 110, 3) := by decide +kernel
theorem d_Mo_addEntry_85 : decode M_Mo_addEntry.2.1 85 = .ok (.aload_n 0, 1) := by decide +kernel
theorem d_Mo_addEntry_86 : decode M_Mo_addEntry.2.1 86 = .ok (.bipush 97, 2) := by decide +kernel
theorem d_Mo_addEntry_88 : decode M_Mo_addEntry.2.1 88 = .ok (.aload_n 0, 1) := by decide +kernel
theorem d_Mo_addEntry_89 : decode M_Mo_addEntry.2.1 89 = .ok (.getfield 32, 3) := by decide +kernel
theorem d_Mo_addEntry_92 : decode M_Mo_addEntry.2.1 92 = .ok (.iload_n 1, 1) := by decide +kernel
theorem d_Mo_addEntry_93 : decode M_Mo_addEntry.2.1 93 = .ok (.iaload, 1) := by decide +kernel
theorem d_Mo_addEntry_94 : decode M_Mo_addEntry.2.1 94 = .ok (.iadd, 1) := by decide +kernel
theorem d_Mo_addEntry_95 : decode M_Mo_addEntry.2.1 95 = .ok (.invokevirtual 110, 3) := by decide +kernel
theorem d_Mo_addEntry_98 : decode M_Mo_addEntry.2.1 98 = .ok (.aload_n 0, 1) := by decide +kernel
theorem d_Mo_addEntry_99 : decode M_Mo_addEntry.2.1 99 = .ok (.iconst 0, 1) := by decide +kernel
theorem d_Mo_addEntry_100 : decode M_Mo_addEntry.2.1 100 = .ok (.invokevirtual 110, 3) := by decide +kernel
theorem d_Mo_addEntry_103 : decode M_Mo_addEntry.2.1 103 = .ok (.aload_n 0, 1) := by decide +kernel
theorem d_Mo_addEntry_104 : decode M_Mo_addEntry.2.1 104 = .ok (.aload_n 0, 1) := by decide +kernel
theorem d_Mo_addEntry_105 : decode M_Mo_addEntry.2.1 105 = .ok (.getfield 35, 3) := by decide +kernel
theorem d_Mo_addEntry_108 : decode M_Mo_addEntry.2.1 108 = .ok (.iload_n 1, 1) := by decide +kernel
theorem d_Mo_addEntry_109 : decode M_Mo_addEntry.2.1 109 = .ok (.iaload, 1) := by decide +kernel
theorem d_Mo_addEntry_110 : decode M_Mo_addEntry.2.1 110 = .ok (.invokevirtual 136, 3) := by decide +kernel
theorem d_Mo_addEntry_113 : decode M_Mo_addEntry.2.1 113 = .ok (.return_, 1) := by decide +kernel
def f_Mo_addEntry (x0 : Nat) (x1 : Int32) (c : cM) (K : cM → Prop) : Prop :=
  kd x0 = 7 ∧ (kd (rf x0 11) = 100 ∧ (vp_in x1 (ln (rf x0 11)) ∧ (kd (rf x0 1) = 100 ∧ (vp_in (c (rf x0 11) (Int32.toNatClampNeg x1)) (ln (rf x0 1)) ∧ (∃ J19 : cM → Prop, (∀ (c18 : cM), J19 c18 → (f_Mo_add x0 32 c18 (fun c21 => kd (rf x0 10) = 100 ∧ (vp_in x1 (ln (rf x0 10)) ∧ (f_Mo_add x0 (97 + (c21 (rf x0 10) (Int32.toNatClampNeg x1))) c21 (fun c24 => f_Mo_add x0 0 c24 (fun c25 => f_Mo_addName x0 (c25 (rf x0 11) (Int32.toNatClampNeg x1)) c25 (fun c26 => K c26)))))))) ∧ (((¬ (c (rf x0 1) (Int32.toNatClampNeg (c (rf x0 11) (Int32.toNatClampNeg x1)))) = 3) → (f_Mo_add x0 52 c (fun c27 => ∃ I28 : Nat → Int32 → cM → Prop, (∃ n, I28 n 0 c27) ∧ ∀ (n29 : Nat) (y32 : Int32) (c33 : cM), I28 n29 y32 c33 → (((4 ≤ y32) → (J19 c33)) ∧ (¬ (4 ≤ y32) → (f_Mo_add x0 48 c33 (fun c35 => ∃ m, m < n29 ∧ I28 m (y32 + 1) c35))))))) ∧ ((c (rf x0 1) (Int32.toNatClampNeg (c (rf x0 11) (Int32.toNatClampNeg x1)))) = 3 → (f_Mo_add x0 49 c (fun c36 => f_Mo_add x0 48 c36 (fun c37 => f_Mo_add x0 48 c37 (fun c38 => f_Mo_add x0 54 c38 (fun c39 => f_Mo_add x0 52 c39 (fun c40 => f_Mo_add x0 52 c40 (fun c41 => J19 c41))))))))))))))
theorem c_Mo_addEntry {x0 : Nat} {x1 : Int32} {c : cM} {K : cM → Prop} (h : f_Mo_addEntry x0 x1 c K) : Ct M_Mo_addEntry 2 0 0 (wd c) [.ref x0, .int x1] (PoV K) := by
  refine Ct.of (by decide +kernel) (Nat.le_of_ble_eq_true rfl) (fun Z T => ?_)
  have F := T.F
  unfold f_Mo_addEntry at h
  show Z (wd c) 0 [(0, .ref x0), (1, .int x1)] [] 0 0
  refine g_aload_n F (pc := 0) d_Mo_addEntry_0 0 rfl ?_
  obtain ⟨o1, h⟩ := h
  refine gc_getR F (pc := 1) d_Mo_addEntry_1 fi_Mo_7 o1 (g_aload_n F (pc := 4) d_Mo_addEntry_4 0 rfl (gc_getR F (pc := 5) d_Mo_addEntry_5 fi_Mo_35 o1 (g_iload_n F (pc := 8) d_Mo_addEntry_8 1 rfl ?_)))
  obtain ⟨o2, h⟩ := h
  obtain ⟨o3, h⟩ := h
  refine gc_iald F (pc := 9) d_Mo_addEntry_9 o2 o3 ?_
  obtain ⟨o4, h⟩ := h
  obtain ⟨o5, h⟩ := h
  refine gc_iald F (pc := 10) d_Mo_addEntry_10 o4 o5 (g_iconst (v := 3) F (pc := 11) d_Mo_addEntry_11 (by decide) ?_)
  obtain ⟨J19, hJ19, h⟩ := h
  have jn20 : ∀ (c18 : cM), J19 c18 → Z (wd c18) 79 [(0, .ref x0), (1, .int x1)] [] 0 0 := by
    intro c18 h
    replace h := hJ19 c18 h
    refine g_aload_n F (pc := 79) d_Mo_addEntry_79 0 rfl (g_bipush (v := 32) F (pc := 80) d_Mo_addEntry_80 (by decide) ?_)
    refine gc_callVV (As := [.int 32]) (st := []) F (pc := 82) d_Mo_addEntry_82 cb_Mo_110 iv_Mo_add np_Mo_add o1 vc_7 (c_Mo_add h) rfl (by decide) (Nat.le_refl _) (Nat.le_refl _) (Nat.le_of_ble_eq_true rfl) (fun c21 h => ?_)
    refine g_aload_n F (pc := 85) d_Mo_addEntry_85 0 rfl (g_bipush (v := 97) F (pc := 86) d_Mo_addEntry_86 (by decide) (g_aload_n F (pc := 88) d_Mo_addEntry_88 0 rfl (gc_getR F (pc := 89) d_Mo_addEntry_89 fi_Mo_32 o1 (g_iload_n F (pc := 92) d_Mo_addEntry_92 1 rfl ?_))))
    obtain ⟨o22, h⟩ := h
    obtain ⟨o23, h⟩ := h
    refine gc_iald F (pc := 93) d_Mo_addEntry_93 o22 o23 (g_iadd F (pc := 94) d_Mo_addEntry_94 ?_)
    refine gc_callVV (As := [.int (97 + (c21 (rf x0 10) (Int32.toNatClampNeg x1)))]) (st := []) F (pc := 95) d_Mo_addEntry_95 cb_Mo_110 iv_Mo_add np_Mo_add o1 vc_7 (c_Mo_add h) rfl (by decide) (Nat.le_refl _) (Nat.le_refl _) (Nat.le_of_ble_eq_true rfl) (fun c24 h => ?_)
    refine g_aload_n F (pc := 98) d_Mo_addEntry_98 0 rfl (g_iconst (v := 0) F (pc := 99) d_Mo_addEntry_99 (by decide) ?_)
    refine gc_callVV (As := [.int 0]) (st := []) F (pc := 100) d_Mo_addEntry_100 cb_Mo_110 iv_Mo_add np_Mo_add o1 vc_7 (c_Mo_add h) rfl (by decide) (Nat.le_refl _) (Nat.le_refl _) (Nat.le_of_ble_eq_true rfl) (fun c25 h => ?_)
    refine g_aload_n F (pc := 103) d_Mo_addEntry_103 0 rfl (g_aload_n F (pc := 104) d_Mo_addEntry_104 0 rfl (gc_getR F (pc := 105) d_Mo_addEntry_105 fi_Mo_35 o1 (g_iload_n F (pc := 108) d_Mo_addEntry_108 1 rfl (gc_iald F (pc := 109) d_Mo_addEntry_109 o2 o3 ?_))))
    refine gc_callVV (As := [.int (c25 (rf x0 11) (Int32.toNatClampNeg x1))]) (st := []) F (pc := 110) d_Mo_addEntry_110 cb_Mo_136 iv_Mo_addName np_Mo_addName o1 vc_7 (c_Mo_addName h) rfl (by decide) (Nat.le_refl _) (Nat.le_refl _) (Nat.le_of_ble_eq_true rfl) (fun c26 h => ?_)
    exact g_vret T (pc := 113) d_Mo_addEntry_113 rfl (Nat.le_refl _) (Nat.le_refl _) (poV h)
  refine g_icmp_ne (tgt := 54) F (pc := 12) d_Mo_addEntry_12 (by decide) (fun b6 => ?_) (fun b6 => ?_)
  · replace h := h.1 b6
    refine g_aload_n F (pc := 54) d_Mo_addEntry_54 0 rfl (g_bipush (v := 52) F (pc := 55) d_Mo_addEntry_55 (by decide) ?_)
    refine gc_callVV (As := [.int 52]) (st := []) F (pc := 57) d_Mo_addEntry_57 cb_Mo_110 iv_Mo_add np_Mo_add o1 vc_7 (c_Mo_add h) rfl (by decide) (Nat.le_refl _) (Nat.le_refl _) (Nat.le_of_ble_eq_true rfl) (fun c27 h => ?_)
    refine g_iconst (v := 0) F (pc := 60) d_Mo_addEntry_60 (by decide) (g_istore_n (lv' := [(2, .int 0), (0, .ref x0), (1, .int x1)]) F (pc := 61) d_Mo_addEntry_61 (by decide) rfl ?_)
    refine g_lv (lv' := [(0, .ref x0), (1, .int x1), (2, .int 0)]) F [1, 2, 0] rfl ?_
    obtain ⟨I28, ⟨n0, h⟩, hI28⟩ := h
    have lp31 : ∀ (n29 : Nat) (y32 : Int32) (c33 : cM), I28 n29 y32 c33 → Z (wd c33) 62 [(0, .ref x0), (1, .int x1), (2, .int y32)] [] 0 0 := by
      intro n29
      induction n29 using Nat.strongRecOn with
      | _ n29 ih30 =>
        intro y32 c33 h
        replace h := hI28 n29 y32 c33 h
        refine g_iload_n F (pc := 62) d_Mo_addEntry_62 2 rfl (g_iconst (v := 4) F (pc := 63) d_Mo_addEntry_63 (by decide) ?_)
        refine g_icmp_ge (tgt := 79) F (pc := 64) d_Mo_addEntry_64 (by decide) (fun b34 => ?_) (fun b34 => ?_)
        · replace h := h.1 b34
          refine g_lv (lv' := [(0, .ref x0), (1, .int x1)]) F [0, 1] rfl ?_
          exact jn20 _ h
        · replace h := h.2 b34
          refine g_aload_n F (pc := 67) d_Mo_addEntry_67 0 rfl (g_bipush (v := 48) F (pc := 68) d_Mo_addEntry_68 (by decide) ?_)
          refine gc_callVV (As := [.int 48]) (st := []) F (pc := 70) d_Mo_addEntry_70 cb_Mo_110 iv_Mo_add np_Mo_add o1 vc_7 (c_Mo_add h) rfl (by decide) (Nat.le_refl _) (Nat.le_refl _) (Nat.le_of_ble_eq_true rfl) (fun c35 h => ?_)
          refine g_iinc (v := (y32 + 1)) (lv' := [(2, .int (y32 + 1)), (0, .ref x0), (1, .int x1)]) F (pc := 73) d_Mo_addEntry_73 2 rfl (sk_inc (by decide)) (by decide) rfl (g_goto (tgt := 62) F (pc := 76) d_Mo_addEntry_76 (by decide) ?_)
          refine g_lv (lv' := [(0, .ref x0), (1, .int x1), (2, .int (y32 + 1))]) F [1, 2, 0] rfl ?_
          obtain ⟨m, hm, h⟩ := h
          exact ih30 m hm _ _ h
    exact lp31 n0 _ _ h
  · replace h := h.2 b6
    refine g_aload_n F (pc := 15) d_Mo_addEntry_15 0 rfl (g_bipush (v := 49) F (pc := 16) d_Mo_addEntry_16 (by decide) ?_)
    refine gc_callVV (As := [.int 49]) (st := []) F (pc := 18) d_Mo_addEntry_18 cb_Mo_110 iv_Mo_add np_Mo_add o1 vc_7 (c_Mo_add h) rfl (by decide) (Nat.le_refl _) (Nat.le_refl _) (Nat.le_of_ble_eq_true rfl) (fun c36 h => ?_)
    refine g_aload_n F (pc := 21) d_Mo_addEntry_21 0 rfl (g_bipush (v := 48) F (pc := 22) d_Mo_addEntry_22 (by decide) ?_)
    refine gc_callVV (As := [.int 48]) (st := []) F (pc := 24) d_Mo_addEntry_24 cb_Mo_110 iv_Mo_add np_Mo_add o1 vc_7 (c_Mo_add h) rfl (by decide) (Nat.le_refl _) (Nat.le_refl _) (Nat.le_of_ble_eq_true rfl) (fun c37 h => ?_)
    refine g_aload_n F (pc := 27) d_Mo_addEntry_27 0 rfl (g_bipush (v := 48) F (pc := 28) d_Mo_addEntry_28 (by decide) ?_)
    refine gc_callVV (As := [.int 48]) (st := []) F (pc := 30) d_Mo_addEntry_30 cb_Mo_110 iv_Mo_add np_Mo_add o1 vc_7 (c_Mo_add h) rfl (by decide) (Nat.le_refl _) (Nat.le_refl _) (Nat.le_of_ble_eq_true rfl) (fun c38 h => ?_)
    refine g_aload_n F (pc := 33) d_Mo_addEntry_33 0 rfl (g_bipush (v := 54) F (pc := 34) d_Mo_addEntry_34 (by decide) ?_)
    refine gc_callVV (As := [.int 54]) (st := []) F (pc := 36) d_Mo_addEntry_36 cb_Mo_110 iv_Mo_add np_Mo_add o1 vc_7 (c_Mo_add h) rfl (by decide) (Nat.le_refl _) (Nat.le_refl _) (Nat.le_of_ble_eq_true rfl) (fun c39 h => ?_)
    refine g_aload_n F (pc := 39) d_Mo_addEntry_39 0 rfl (g_bipush (v := 52) F (pc := 40) d_Mo_addEntry_40 (by decide) ?_)
    refine gc_callVV (As := [.int 52]) (st := []) F (pc := 42) d_Mo_addEntry_42 cb_Mo_110 iv_Mo_add np_Mo_add o1 vc_7 (c_Mo_add h) rfl (by decide) (Nat.le_refl _) (Nat.le_refl _) (Nat.le_of_ble_eq_true rfl) (fun c40 h => ?_)
    refine g_aload_n F (pc := 45) d_Mo_addEntry_45 0 rfl (g_bipush (v := 52) F (pc := 46) d_Mo_addEntry_46 (by decide) ?_)
    refine gc_callVV (As := [.int 52]) (st := []) F (pc := 48) d_Mo_addEntry_48 cb_Mo_110 iv_Mo_add np_Mo_add o1 vc_7 (c_Mo_add h) rfl (by decide) (Nat.le_refl _) (Nat.le_refl _) (Nat.le_of_ble_eq_true rfl) (fun c41 h => ?_)
    refine g_goto (tgt := 79) F (pc := 51) d_Mo_addEntry_51 (by decide) ?_
    exact jn20 _ h
theorem d_Mo_tree_0 : decode M_Mo_tree.2.1 0 = .ok (.aload_n 0, 1) := by decide +kernel
theorem d_Mo_tree_1 : decode M_Mo_tree.2.1 1 = .ok (.iconst 2, 1) := by decide +kernel
theorem d_Mo_tree_2 : decode M_Mo_tree.2.1 2 = .ok (.invokevirtual 122, 3) := by decide +kernel
theorem d_Mo_tree_5 : decode M_Mo_tree.2.1 5 = .ok (.iconst 0, 1) := by decide +kernel
theorem d_Mo_tree_6 : decode M_Mo_tree.2.1 6 = .ok (.istore_n 1, 1) := by decide +kernel
theorem d_Mo_tree_7 : decode M_Mo_tree.2.1 7 = .ok (.iload_n 1, 1) := by decide +kernel
theorem d_Mo_tree_8 : decode M_Mo_tree.2.1 8 = .ok (.bipush 26, 2) := by decide +kernel
theorem d_Mo_tree_10 : decode M_Mo_tree.2.1 10 = .ok (.if_icmp .ge 40, 3) := by decide +kernel
theorem d_Mo_tree_13 : decode M_Mo_tree.2.1 13 = .ok (.iconst 0, 1) := by decide +kernel
theorem d_Mo_tree_14 : decode M_Mo_tree.2.1 14 = .ok (.istore_n 2, 1) := by decide +kernel
theorem d_Mo_tree_15 : decode M_Mo_tree.2.1 15 = .ok (.iload_n 2, 1) := by decide +kernel
theorem d_Mo_tree_16 : decode M_Mo_tree.2.1 16 = .ok (.aload_n 0, 1) := by decide +kernel
theorem d_Mo_tree_17 : decode M_Mo_tree.2.1 17 = .ok (.getfield 133, 3) := by decide +kernel
theorem d_Mo_tree_20 : decode M_Mo_tree.2.1 20 = .ok (.if_icmp .ge 24, 3) := by decide +kernel
theorem d_Mo_tree_23 : decode M_Mo_tree.2.1 23 = .ok (.aload_n 0, 1) := by decide +kernel
theorem d_Mo_tree_24 : decode M_Mo_tree.2.1 24 = .ok (.getfield 32, 3) := by decide +kernel
theorem d_Mo_tree_27 : decode M_Mo_tree.2.1 27 = .ok (.iload_n 2, 1) := by decide +kernel
theorem d_Mo_tree_28 : decode M_Mo_tree.2.1 28 = .ok (.iaload, 1) := by decide +kernel
theorem d_Mo_tree_29 : decode M_Mo_tree.2.1 29 = .ok (.iload_n 1, 1) := by decide +kernel
theorem d_Mo_tree_30 : decode M_Mo_tree.2.1 30 = .ok (.if_icmp .ne 8, 3) := by decide +kernel
theorem d_Mo_tree_33 : decode M_Mo_tree.2.1 33 = .ok (.aload_n 0, 1) := by decide +kernel
theorem d_Mo_tree_34 : decode M_Mo_tree.2.1 34 = .ok (.iload_n 2, 1) := by decide +kernel
theorem d_Mo_tree_35 : decode M_Mo_tree.2.1 35 = .ok (.invokevirtual 139, 3) := by decide +kernel
theorem d_Mo_tree_38 : decode M_Mo_tree.2.1 38 = .ok (.iinc 2 1, 3) := by decide +kernel
theorem d_Mo_tree_41 : decode M_Mo_tree.2.1 41 = .ok (.goto (-26), 3) := by decide +kernel
theorem d_Mo_tree_44 : decode M_Mo_tree.2.1 44 = .ok (.iinc 1 1, 3) := by decide +kernel
theorem d_Mo_tree_47 : decode M_Mo_tree.2.1 47 = .ok (.goto (-40), 3) := by decide +kernel
theorem d_Mo_tree_50 : decode M_Mo_tree.2.1 50 = .ok (.aload_n 0, 1) := by decide +kernel
theorem d_Mo_tree_51 : decode M_Mo_tree.2.1 51 = .ok (.invokevirtual 125, 3) := by decide +kernel
theorem d_Mo_tree_54 : decode M_Mo_tree.2.1 54 = .ok (.istore_n 1, 1) := by decide +kernel
theorem d_Mo_tree_55 : decode M_Mo_tree.2.1 55 = .ok (.iload_n 1, 1) := by decide +kernel
theorem d_Mo_tree_56 : decode M_Mo_tree.2.1 56 = .ok (.ifCond .lt 8, 3) := by decide +kernel
theorem d_Mo_tree_59 : decode M_Mo_tree.2.1 59 = .ok (.aload_n 0, 1) := by decide +kernel
theorem d_Mo_tree_60 : decode M_Mo_tree.2.1 60 = .ok (.iconst 0, 1) := by decide +kernel
theorem d_Mo_tree_61 : decode M_Mo_tree.2.1 61 = .ok (.putfield 133, 3) := by decide +kernel
theorem d_Mo_tree_64 : decode M_Mo_tree.2.1 64 = .ok (.iload_n 1, 1) := by decide +kernel
theorem d_Mo_tree_65 : decode M_Mo_tree.2.1 65 = .ok (.ireturn, 1) := by decide +kernel
def f_Mo_tree (x0 : Nat) (c : cM) (K : Int32 → cM → Prop) : Prop :=
  kd x0 = 7 ∧ (f_Mo_begin x0 2 c (fun c2 => ∃ I3 : Nat → Int32 → cM → Prop, (∃ n, I3 n 0 c2) ∧ ∀ (n4 : Nat) (y7 : Int32) (c8 : cM), I3 n4 y7 c8 → (((26 ≤ y7) → (f_Mo_come x0 c8 (fun v11 c10 => ((v11 < 0) → (K v11 c10)) ∧ (¬ (v11 < 0) → (∀ c13 : cM, c13 = c_up c10 x0 9 0 → (K v11 c13)))))) ∧ (¬ (26 ≤ y7) → (∃ I14 : Nat → Int32 → cM → Prop, (∃ n, I14 n 0 c8) ∧ ∀ (n15 : Nat) (y18 : Int32) (c19 : cM), I14 n15 y18 c19 → ((((c19 x0 9) ≤ y18) → (∃ m, m < n4 ∧ I3 m (y7 + 1) c19)) ∧ (¬ ((c19 x0 9) ≤ y18) → (kd (rf x0 10) = 100 ∧ (vp_in y18 (ln (rf x0 10)) ∧ (∃ J26 : cM → Prop, (∀ (c25 : cM), J26 c25 → (∃ m, m < n15 ∧ I14 m (y18 + 1) c25)) ∧ (((¬ (c19 (rf x0 10) (Int32.toNatClampNeg y18)) = y7) → (J26 c19)) ∧ ((c19 (rf x0 10) (Int32.toNatClampNeg y18)) = y7 → (f_Mo_addEntry x0 y18 c19 (fun c28 => J26 c28))))))))))))))
theorem c_Mo_tree {x0 : Nat} {c : cM} {K : Int32 → cM → Prop} (h : f_Mo_tree x0 c K) : Ct M_Mo_tree 5 0 0 (wd c) [.ref x0] (PoI K) := by
  refine Ct.of (by decide +kernel) (Nat.le_of_ble_eq_true rfl) (fun Z T => ?_)
  have F := T.F
  unfold f_Mo_tree at h
  show Z (wd c) 0 [(0, .ref x0)] [] 0 0
  refine g_aload_n F (pc := 0) d_Mo_tree_0 0 rfl (g_iconst (v := 2) F (pc := 1) d_Mo_tree_1 (by decide) ?_)
  obtain ⟨o1, h⟩ := h
  refine gc_callVV (As := [.int 2]) (st := []) F (pc := 2) d_Mo_tree_2 cb_Mo_122 iv_Mo_begin np_Mo_begin o1 vc_7 (c_Mo_begin h) rfl (by decide) (Nat.le_refl _) (Nat.le_refl _) (Nat.le_of_ble_eq_true rfl) (fun c2 h => ?_)
  refine g_iconst (v := 0) F (pc := 5) d_Mo_tree_5 (by decide) (g_istore_n (lv' := [(1, .int 0), (0, .ref x0)]) F (pc := 6) d_Mo_tree_6 (by decide) rfl ?_)
  refine g_lv (lv' := [(0, .ref x0), (1, .int 0)]) F [1, 0] rfl ?_
  obtain ⟨I3, ⟨n0, h⟩, hI3⟩ := h
  have lp6 : ∀ (n4 : Nat) (y7 : Int32) (c8 : cM), I3 n4 y7 c8 → Z (wd c8) 7 [(0, .ref x0), (1, .int y7)] [] 0 0 := by
    intro n4
    induction n4 using Nat.strongRecOn with
    | _ n4 ih5 =>
      intro y7 c8 h
      replace h := hI3 n4 y7 c8 h
      refine g_iload_n F (pc := 7) d_Mo_tree_7 1 rfl (g_bipush (v := 26) F (pc := 8) d_Mo_tree_8 (by decide) ?_)
      refine g_icmp_ge (tgt := 50) F (pc := 10) d_Mo_tree_10 (by decide) (fun b9 => ?_) (fun b9 => ?_)
      · replace h := h.1 b9
        refine g_aload_n F (pc := 50) d_Mo_tree_50 0 rfl ?_
        refine gc_callVI (As := []) (st := []) F (pc := 51) d_Mo_tree_51 cb_Mo_125 iv_Mo_come np_Mo_come o1 vc_7 (c_Mo_come h) rfl (by decide) (Nat.le_refl _) (Nat.le_refl _) (Nat.le_of_ble_eq_true rfl) (fun v11 c10 h => ?_)
        refine g_istore_n (lv' := [(1, .int v11), (0, .ref x0)]) F (pc := 54) d_Mo_tree_54 (by decide) rfl (g_iload_n F (pc := 55) d_Mo_tree_55 0 rfl ?_)
        refine g_if_lt (tgt := 64) F (pc := 56) d_Mo_tree_56 (by decide) (fun b12 => ?_) (fun b12 => ?_)
        · replace h := h.1 b12
          refine g_iload_n F (pc := 64) d_Mo_tree_64 0 rfl ?_
          exact g_iret T (pc := 65) d_Mo_tree_65 rfl (Nat.le_refl _) (Nat.le_refl _) (poI h)
        · replace h := h.2 b12
          refine g_aload_n F (pc := 59) d_Mo_tree_59 1 rfl (g_iconst (v := 0) F (pc := 60) d_Mo_tree_60 (by decide) (gc_putI F (pc := 61) d_Mo_tree_61 pi_Mo_133 o1 ?_))
          obtain ⟨c13, ec13⟩ : ∃ c13 : cM, c13 = c_up c10 x0 9 0 := ⟨_, rfl⟩
          rw [← ec13]
          replace h := h c13 ec13
          refine g_iload_n F (pc := 64) d_Mo_tree_64 0 rfl ?_
          exact g_iret T (pc := 65) d_Mo_tree_65 rfl (Nat.le_refl _) (Nat.le_refl _) (poI h)
      · replace h := h.2 b9
        refine g_iconst (v := 0) F (pc := 13) d_Mo_tree_13 (by decide) (g_istore_n (lv' := [(2, .int 0), (0, .ref x0), (1, .int y7)]) F (pc := 14) d_Mo_tree_14 (by decide) rfl ?_)
        refine g_lv (lv' := [(0, .ref x0), (1, .int y7), (2, .int 0)]) F [1, 2, 0] rfl ?_
        obtain ⟨I14, ⟨n0, h⟩, hI14⟩ := h
        have lp17 : ∀ (n15 : Nat) (y18 : Int32) (c19 : cM), I14 n15 y18 c19 → Z (wd c19) 15 [(0, .ref x0), (1, .int y7), (2, .int y18)] [] 0 0 := by
          intro n15
          induction n15 using Nat.strongRecOn with
          | _ n15 ih16 =>
            intro y18 c19 h
            replace h := hI14 n15 y18 c19 h
            refine g_iload_n F (pc := 15) d_Mo_tree_15 2 rfl (g_aload_n F (pc := 16) d_Mo_tree_16 0 rfl (gc_getI F (pc := 17) d_Mo_tree_17 fi_Mo_133 o1 ?_))
            refine g_icmp_ge (tgt := 44) F (pc := 20) d_Mo_tree_20 (by decide) (fun b20 => ?_) (fun b20 => ?_)
            · replace h := h.1 b20
              refine g_iinc (v := (y7 + 1)) (lv' := [(1, .int (y7 + 1)), (0, .ref x0), (2, .int y18)]) F (pc := 44) d_Mo_tree_44 1 rfl (sk_inc (by decide)) (by decide) rfl (g_goto (tgt := 7) F (pc := 47) d_Mo_tree_47 (by decide) ?_)
              refine g_lv (lv' := [(0, .ref x0), (1, .int (y7 + 1))]) F [1, 0] rfl ?_
              obtain ⟨m, hm, h⟩ := h
              exact ih5 m hm _ _ h
            · replace h := h.2 b20
              refine g_aload_n F (pc := 23) d_Mo_tree_23 0 rfl (gc_getR F (pc := 24) d_Mo_tree_24 fi_Mo_32 o1 (g_iload_n F (pc := 27) d_Mo_tree_27 2 rfl ?_))
              obtain ⟨o21, h⟩ := h
              obtain ⟨o22, h⟩ := h
              refine gc_iald F (pc := 28) d_Mo_tree_28 o21 o22 (g_iload_n F (pc := 29) d_Mo_tree_29 1 rfl ?_)
              obtain ⟨J26, hJ26, h⟩ := h
              have jn27 : ∀ (c25 : cM), J26 c25 → Z (wd c25) 38 [(0, .ref x0), (1, .int y7), (2, .int y18)] [] 0 0 := by
                intro c25 h
                replace h := hJ26 c25 h
                refine g_iinc (v := (y18 + 1)) (lv' := [(2, .int (y18 + 1)), (0, .ref x0), (1, .int y7)]) F (pc := 38) d_Mo_tree_38 2 rfl (sk_inc (by decide)) (by decide) rfl (g_goto (tgt := 15) F (pc := 41) d_Mo_tree_41 (by decide) ?_)
                refine g_lv (lv' := [(0, .ref x0), (1, .int y7), (2, .int (y18 + 1))]) F [1, 2, 0] rfl ?_
                obtain ⟨m, hm, h⟩ := h
                exact ih16 m hm _ _ h
              refine g_icmp_ne (tgt := 38) F (pc := 30) d_Mo_tree_30 (by decide) (fun b23 => ?_) (fun b23 => ?_)
              · replace h := h.1 b23
                exact jn27 _ h
              · replace h := h.2 b23
                refine g_aload_n F (pc := 33) d_Mo_tree_33 0 rfl (g_iload_n F (pc := 34) d_Mo_tree_34 2 rfl ?_)
                refine gc_callVV (As := [.int y18]) (st := []) F (pc := 35) d_Mo_tree_35 cb_Mo_139 iv_Mo_addEntry np_Mo_addEntry o1 vc_7 (c_Mo_addEntry h) rfl (by decide) (Nat.le_refl _) (Nat.le_refl _) (Nat.le_of_ble_eq_true rfl) (fun c28 h => ?_)
                exact jn27 _ h
        exact lp17 n0 _ _ h
  exact lp6 n0 _ _ h
theorem d_Mo_commit_0 : decode M_Mo_commit.2.1 0 = .ok (.aload_n 0, 1) := by decide +kernel
theorem d_Mo_commit_1 : decode M_Mo_commit.2.1 1 = .ok (.iload_n 1, 1) := by decide +kernel
theorem d_Mo_commit_2 : decode M_Mo_commit.2.1 2 = .ok (.iconst 2, 1) := by decide +kernel
theorem d_Mo_commit_3 : decode M_Mo_commit.2.1 3 = .ok (.invokevirtual 129, 3) := by decide +kernel
theorem d_Mo_commit_6 : decode M_Mo_commit.2.1 6 = .ok (.ifCond .eq 21, 3) := by decide +kernel
theorem d_Mo_commit_9 : decode M_Mo_commit.2.1 9 = .ok (.iload_n 2, 1) := by decide +kernel
theorem d_Mo_commit_10 : decode M_Mo_commit.2.1 10 = .ok (.iconst (-1), 1) := by decide +kernel
theorem d_Mo_commit_11 : decode M_Mo_commit.2.1 11 = .ok (.if_icmp .eq 12, 3) := by decide +kernel
theorem d_Mo_commit_14 : decode M_Mo_commit.2.1 14 = .ok (.aload_n 0, 1) := by decide +kernel
theorem d_Mo_commit_15 : decode M_Mo_commit.2.1 15 = .ok (.iload_n 2, 1) := by decide +kernel
theorem d_Mo_commit_16 : decode M_Mo_commit.2.1 16 = .ok (.iconst 1, 1) := by decide +kernel
theorem d_Mo_commit_17 : decode M_Mo_commit.2.1 17 = .ok (.invokevirtual 129, 3) := by decide +kernel
theorem d_Mo_commit_20 : decode M_Mo_commit.2.1 20 = .ok (.ifCond .eq 7, 3) := by decide +kernel
theorem d_Mo_commit_23 : decode M_Mo_commit.2.1 23 = .ok (.iload_n 3, 1) := by decide +kernel
theorem d_Mo_commit_24 : decode M_Mo_commit.2.1 24 = .ok (.ifCond .ge 5, 3) := by decide +kernel
theorem d_Mo_commit_27 : decode M_Mo_commit.2.1 27 = .ok (.iconst (-1), 1) := by decide +kernel
theorem d_Mo_commit_28 : decode M_Mo_commit.2.1 28 = .ok (.ireturn, 1) := by decide +kernel
theorem d_Mo_commit_29 : decode M_Mo_commit.2.1 29 = .ok (.aload_n 0, 1) := by decide +kernel
theorem d_Mo_commit_30 : decode M_Mo_commit.2.1 30 = .ok (.iconst 1, 1) := by decide +kernel
theorem d_Mo_commit_31 : decode M_Mo_commit.2.1 31 = .ok (.invokevirtual 122, 3) := by decide +kernel
theorem d_Mo_commit_34 : decode M_Mo_commit.2.1 34 = .ok (.aload_n 0, 1) := by decide +kernel
theorem d_Mo_commit_35 : decode M_Mo_commit.2.1 35 = .ok (.bipush 116, 2) := by decide +kernel
theorem d_Mo_commit_37 : decode M_Mo_commit.2.1 37 = .ok (.invokevirtual 110, 3) := by decide +kernel
theorem d_Mo_commit_40 : decode M_Mo_commit.2.1 40 = .ok (.aload_n 0, 1) := by decide +kernel
theorem d_Mo_commit_41 : decode M_Mo_commit.2.1 41 = .ok (.bipush 114, 2) := by decide +kernel
theorem d_Mo_commit_43 : decode M_Mo_commit.2.1 43 = .ok (.invokevirtual 110, 3) := by decide +kernel
theorem d_Mo_commit_46 : decode M_Mo_commit.2.1 46 = .ok (.aload_n 0, 1) := by decide +kernel
theorem d_Mo_commit_47 : decode M_Mo_commit.2.1 47 = .ok (.bipush 101, 2) := by decide +kernel
theorem d_Mo_commit_49 : decode M_Mo_commit.2.1 49 = .ok (.invokevirtual 110, 3) := by decide +kernel
theorem d_Mo_commit_52 : decode M_Mo_commit.2.1 52 = .ok (.aload_n 0, 1) := by decide +kernel
theorem d_Mo_commit_53 : decode M_Mo_commit.2.1 53 = .ok (.bipush 101, 2) := by decide +kernel
theorem d_Mo_commit_55 : decode M_Mo_commit.2.1 55 = .ok (.invokevirtual 110, 3) := by decide +kernel
theorem d_Mo_commit_58 : decode M_Mo_commit.2.1 58 = .ok (.aload_n 0, 1) := by decide +kernel
theorem d_Mo_commit_59 : decode M_Mo_commit.2.1 59 = .ok (.bipush 32, 2) := by decide +kernel
theorem d_Mo_commit_61 : decode M_Mo_commit.2.1 61 = .ok (.invokevirtual 110, 3) := by decide +kernel
theorem d_Mo_commit_64 : decode M_Mo_commit.2.1 64 = .ok (.aload_n 0, 1) := by decide +kernel
theorem d_Mo_commit_65 : decode M_Mo_commit.2.1 65 = .ok (.iload_n 1, 1) := by decide +kernel
theorem d_Mo_commit_66 : decode M_Mo_commit.2.1 66 = .ok (.invokevirtual 136, 3) := by decide +kernel
theorem d_Mo_commit_69 : decode M_Mo_commit.2.1 69 = .ok (.aload_n 0, 1) := by decide +kernel
theorem d_Mo_commit_70 : decode M_Mo_commit.2.1 70 = .ok (.bipush 10, 2) := by decide +kernel
theorem d_Mo_commit_72 : decode M_Mo_commit.2.1 72 = .ok (.invokevirtual 110, 3) := by decide +kernel
theorem d_Mo_commit_75 : decode M_Mo_commit.2.1 75 = .ok (.iload_n 2, 1) := by decide +kernel
theorem d_Mo_commit_76 : decode M_Mo_commit.2.1 76 = .ok (.ifCond .lt 56, 3) := by decide +kernel
theorem d_Mo_commit_79 : decode M_Mo_commit.2.1 79 = .ok (.aload_n 0, 1) := by decide +kernel
theorem d_Mo_commit_80 : decode M_Mo_commit.2.1 80 = .ok (.bipush 112, 2) := by decide +kernel
theorem d_Mo_commit_82 : decode M_Mo_commit.2.1 82 = .ok (.invokevirtual 110, 3) := by decide +kernel
theorem d_Mo_commit_85 : decode M_Mo_commit.2.1 85 = .ok (.aload_n 0, 1) := by decide +kernel
theorem d_Mo_commit_86 : decode M_Mo_commit.2.1 86 = .ok (.bipush 97, 2) := by decide +kernel
theorem d_Mo_commit_88 : decode M_Mo_commit.2.1 88 = .ok (.invokevirtual 110, 3) := by decide +kernel
theorem d_Mo_commit_91 : decode M_Mo_commit.2.1 91 = .ok (.aload_n 0, 1) := by decide +kernel
theorem d_Mo_commit_92 : decode M_Mo_commit.2.1 92 = .ok (.bipush 114, 2) := by decide +kernel
theorem d_Mo_commit_94 : decode M_Mo_commit.2.1 94 = .ok (.invokevirtual 110, 3) := by decide +kernel
theorem d_Mo_commit_97 : decode M_Mo_commit.2.1 97 = .ok (.aload_n 0, 1) := by decide +kernel
theorem d_Mo_commit_98 : decode M_Mo_commit.2.1 98 = .ok (.bipush 101, 2) := by decide +kernel
theorem d_Mo_commit_100 : decode M_Mo_commit.2.1 100 = .ok (.invokevirtual 110, 3) := by decide +kernel
theorem d_Mo_commit_103 : decode M_Mo_commit.2.1 103 = .ok (.aload_n 0, 1) := by decide +kernel
theorem d_Mo_commit_104 : decode M_Mo_commit.2.1 104 = .ok (.bipush 110, 2) := by decide +kernel
theorem d_Mo_commit_106 : decode M_Mo_commit.2.1 106 = .ok (.invokevirtual 110, 3) := by decide +kernel
theorem d_Mo_commit_109 : decode M_Mo_commit.2.1 109 = .ok (.aload_n 0, 1) := by decide +kernel
theorem d_Mo_commit_110 : decode M_Mo_commit.2.1 110 = .ok (.bipush 116, 2) := by decide +kernel
theorem d_Mo_commit_112 : decode M_Mo_commit.2.1 112 = .ok (.invokevirtual 110, 3) := by decide +kernel
theorem d_Mo_commit_115 : decode M_Mo_commit.2.1 115 = .ok (.aload_n 0, 1) := by decide +kernel
theorem d_Mo_commit_116 : decode M_Mo_commit.2.1 116 = .ok (.bipush 32, 2) := by decide +kernel
theorem d_Mo_commit_118 : decode M_Mo_commit.2.1 118 = .ok (.invokevirtual 110, 3) := by decide +kernel
theorem d_Mo_commit_121 : decode M_Mo_commit.2.1 121 = .ok (.aload_n 0, 1) := by decide +kernel
theorem d_Mo_commit_122 : decode M_Mo_commit.2.1 122 = .ok (.iload_n 2, 1) := by decide +kernel
theorem d_Mo_commit_123 : decode M_Mo_commit.2.1 123 = .ok (.invokevirtual 136, 3) := by decide +kernel
theorem d_Mo_commit_126 : decode M_Mo_commit.2.1 126 = .ok (.aload_n 0, 1) := by decide +kernel
theorem d_Mo_commit_127 : decode M_Mo_commit.2.1 127 = .ok (.bipush 10, 2) := by decide +kernel
theorem d_Mo_commit_129 : decode M_Mo_commit.2.1 129 = .ok (.invokevirtual 110, 3) := by decide +kernel
theorem d_Mo_commit_132 : decode M_Mo_commit.2.1 132 = .ok (.aload_n 0, 1) := by decide +kernel
theorem d_Mo_commit_133 : decode M_Mo_commit.2.1 133 = .ok (.bipush 97, 2) := by decide +kernel
theorem d_Mo_commit_135 : decode M_Mo_commit.2.1 135 = .ok (.invokevirtual 110, 3) := by decide +kernel
theorem d_Mo_commit_138 : decode M_Mo_commit.2.1 138 = .ok (.aload_n 0, 1) := by decide +kernel
theorem d_Mo_commit_139 : decode M_Mo_commit.2.1 139 = .ok (.bipush 116, 2) := by decide +kernel
theorem d_Mo_commit_141 : decode M_Mo_commit.2.1 141 = .ok (.invokevirtual 110, 3) := by decide +kernel
theorem d_Mo_commit_144 : decode M_Mo_commit.2.1 144 = .ok (.aload_n 0, 1) := by decide +kernel
theorem d_Mo_commit_145 : decode M_Mo_commit.2.1 145 = .ok (.bipush 32, 2) := by decide +kernel
theorem d_Mo_commit_147 : decode M_Mo_commit.2.1 147 = .ok (.invokevirtual 110, 3) := by decide +kernel
theorem d_Mo_commit_150 : decode M_Mo_commit.2.1 150 = .ok (.iconst 1, 1) := by decide +kernel
theorem d_Mo_commit_151 : decode M_Mo_commit.2.1 151 = .ok (.istore 4, 2) := by decide +kernel
theorem d_Mo_commit_153 : decode M_Mo_commit.2.1 153 = .ok (.iload_n 3, 1) := by decide +kernel
theorem d_Mo_commit_154 : decode M_Mo_commit.2.1 154 = .ok (.iload 4, 2) := by decide +kernel
theorem d_Mo_commit_156 : decode M_Mo_commit.2.1 156 = .ok (.idiv, 1) := by decide +kernel
theorem d_Mo_commit_157 : decode M_Mo_commit.2.1 157 = .ok (.bipush 9, 2) := by decide +kernel
theorem d_Mo_commit_159 : decode M_Mo_commit.2.1 159 = .ok (.if_icmp .le 13, 3) := by decide +kernel
theorem d_Mo_commit_162 : decode M_Mo_commit.2.1 162 = .ok (.bipush 10, 2) := by decide +kernel
theorem d_Mo_commit_164 : decode M_Mo_commit.2.1 164 = .ok (.iload 4, 2) := by decide +kernel
theorem d_Mo_commit_166 : decode M_Mo_commit.2.1 166 = .ok (.imul, 1) := by decide +kernel
theorem d_Mo_commit_167 : decode M_Mo_commit.2.1 167 = .ok (.istore 4, 2) := by decide +kernel
theorem d_Mo_commit_169 : decode M_Mo_commit.2.1 169 = .ok (.goto (-16), 3) := by decide +kernel
theorem d_Mo_commit_172 : decode M_Mo_commit.2.1 172 = .ok (.iload 4, 2) := by decide +kernel
theorem d_Mo_commit_174 : decode M_Mo_commit.2.1 174 = .ok (.istore 5, 2) := by decide +kernel
theorem d_Mo_commit_176 : decode M_Mo_commit.2.1 176 = .ok (.iload 5, 2) := by decide +kernel
theorem d_Mo_commit_178 : decode M_Mo_commit.2.1 178 = .ok (.ifCond .le 27, 3) := by decide +kernel
theorem d_Mo_commit_181 : decode M_Mo_commit.2.1 181 = .ok (.aload_n 0, 1) := by decide +kernel
theorem d_Mo_commit_182 : decode M_Mo_commit.2.1 182 = .ok (.bipush 48, 2) := by decide +kernel
theorem d_Mo_commit_184 : decode M_Mo_commit.2.1 184 = .ok (.iload_n 3, 1) := by decide +kernel
theorem d_Mo_commit_185 : decode M_Mo_commit.2.1 185 = .ok (.iload 5, 2) := by decide +kernel
theorem d_Mo_commit_187 : decode M_Mo_commit.2.1 187 = .ok (.idiv, 1) := by decide +kernel
theorem d_Mo_commit_188 : decode M_Mo_commit.2.1 188 = .ok (.bipush 10, 2) := by decide +kernel
theorem d_Mo_commit_190 : decode M_Mo_commit.2.1 190 = .ok (.irem, 1) := by decide +kernel
theorem d_Mo_commit_191 : decode M_Mo_commit.2.1 191 = .ok (.iadd, 1) := by decide +kernel
theorem d_Mo_commit_192 : decode M_Mo_commit.2.1 192 = .ok (.invokevirtual 110, 3) := by decide +kernel
theorem d_Mo_commit_195 : decode M_Mo_commit.2.1 195 = .ok (.iload 5, 2) := by decide +kernel
theorem d_Mo_commit_197 : decode M_Mo_commit.2.1 197 = .ok (.bipush 10, 2) := by decide +kernel
theorem d_Mo_commit_199 : decode M_Mo_commit.2.1 199 = .ok (.idiv, 1) := by decide +kernel
theorem d_Mo_commit_200 : decode M_Mo_commit.2.1 200 = .ok (.istore 5, 2) := by decide +kernel
theorem d_Mo_commit_202 : decode M_Mo_commit.2.1 202 = .ok (.goto (-26), 3) := by decide +kernel
theorem d_Mo_commit_205 : decode M_Mo_commit.2.1 205 = .ok (.aload_n 0, 1) := by decide +kernel
theorem d_Mo_commit_206 : decode M_Mo_commit.2.1 206 = .ok (.bipush 10, 2) := by decide +kernel
theorem d_Mo_commit_208 : decode M_Mo_commit.2.1 208 = .ok (.invokevirtual 110, 3) := by decide +kernel
theorem d_Mo_commit_211 : decode M_Mo_commit.2.1 211 = .ok (.aload_n 0, 1) := by decide +kernel
theorem d_Mo_commit_212 : decode M_Mo_commit.2.1 212 = .ok (.invokevirtual 125, 3) := by decide +kernel
theorem d_Mo_commit_215 : decode M_Mo_commit.2.1 215 = .ok (.ireturn, 1) := by decide +kernel
def f_Mo_commit (x0 : Nat) (x1 : Int32) (x2 : Int32) (x3 : Int32) (c : cM) (K : Int32 → cM → Prop) : Prop :=
  kd x0 = 7 ∧ (f_Mo_isKind x0 x1 2 c (fun v3 c2 => ((v3 = 0) → (K (-1) c2)) ∧ (¬ (v3 = 0) → (∃ J10 : cM → Prop, (∀ (c9 : cM), J10 c9 → (((0 ≤ x3) → (f_Mo_begin x0 1 c9 (fun c13 => f_Mo_add x0 116 c13 (fun c14 => f_Mo_add x0 114 c14 (fun c15 => f_Mo_add x0 101 c15 (fun c16 => f_Mo_add x0 101 c16 (fun c17 => f_Mo_add x0 32 c17 (fun c18 => f_Mo_addName x0 x1 c18 (fun c19 => f_Mo_add x0 10 c19 (fun c20 => ∃ J32 : cM → Prop, (∀ (c31 : cM), J32 c31 → (f_Mo_add x0 97 c31 (fun c34 => f_Mo_add x0 116 c34 (fun c35 => f_Mo_add x0 32 c35 (fun c36 => ∃ I37 : Nat → Int32 → Prop, (∃ n, I37 n 1) ∧ ∀ (n38 : Nat) (y41 : Int32), I37 n38 y41 → (¬ y41 = 0 ∧ ((((x3 / y41) ≤ 9) → (∃ I44 : Nat → Int32 → cM → Prop, (∃ n, I44 n y41 c36) ∧ ∀ (n45 : Nat) (y48 : Int32) (c49 : cM), I44 n45 y48 c49 → (((y48 ≤ 0) → (f_Mo_add x0 10 c49 (fun c51 => f_Mo_come x0 c51 (fun v53 c52 => K v53 c52)))) ∧ (¬ (y48 ≤ 0) → (¬ y48 = 0 ∧ (f_Mo_add x0 (48 + (c_rem (x3 / y48) 10)) c49 (fun c55 => ∃ m, m < n45 ∧ I44 m (y48 / 10) c55))))))) ∧ (¬ ((x3 / y41) ≤ 9) → (∃ m, m < n38 ∧ I37 m (10 * y41)))))))))) ∧ (((x2 < 0) → (J32 c20)) ∧ (¬ (x2 < 0) → (f_Mo_add x0 112 c20 (fun c56 => f_Mo_add x0 97 c56 (fun c57 => f_Mo_add x0 114 c57 (fun c58 => f_Mo_add x0 101 c58 (fun c59 => f_Mo_add x0 110 c59 (fun c60 => f_Mo_add x0 116 c60 (fun c61 => f_Mo_add x0 32 c61 (fun c62 => f_Mo_addName x0 x2 c62 (fun c63 => f_Mo_add x0 10 c63 (fun c64 => J32 c64)))))))))))))))))))))) ∧ (¬ (0 ≤ x3) → (K (-1) c9)))) ∧ (((x2 = (-1)) → (J10 c2)) ∧ (¬ (x2 = (-1)) → (f_Mo_isKind x0 x2 1 c2 (fun v66 c65 => ((v66 = 0) → (K (-1) c65)) ∧ (¬ (v66 = 0) → (J10 c65))))))))))
theorem c_Mo_commit {x0 : Nat} {x1 : Int32} {x2 : Int32} {x3 : Int32} {c : cM} {K : Int32 → cM → Prop} (h : f_Mo_commit x0 x1 x2 x3 c K) : Ct M_Mo_commit 5 0 0 (wd c) [.ref x0, .int x1, .int x2, .int x3] (PoI K) := by
  refine Ct.of (by decide +kernel) (Nat.le_of_ble_eq_true rfl) (fun Z T => ?_)
  have F := T.F
  unfold f_Mo_commit at h
  show Z (wd c) 0 [(0, .ref x0), (1, .int x1), (2, .int x2), (3, .int x3)] [] 0 0
  refine g_aload_n F (pc := 0) d_Mo_commit_0 0 rfl (g_iload_n F (pc := 1) d_Mo_commit_1 1 rfl (g_iconst (v := 2) F (pc := 2) d_Mo_commit_2 (by decide) ?_))
  obtain ⟨o1, h⟩ := h
  refine gc_callVI (As := [.int x1, .int 2]) (st := []) F (pc := 3) d_Mo_commit_3 cb_Mo_129 iv_Mo_isKind np_Mo_isKind o1 vc_7 (c_Mo_isKind h) rfl (by decide) (Nat.le_refl _) (Nat.le_refl _) (Nat.le_of_ble_eq_true rfl) (fun v3 c2 h => ?_)
  refine g_if_eq (tgt := 27) F (pc := 6) d_Mo_commit_6 (by decide) (fun b4 => ?_) (fun b4 => ?_)
  · replace h := h.1 b4
    refine g_iconst (v := (-1)) F (pc := 27) d_Mo_commit_27 (by decide) ?_
    exact g_iret T (pc := 28) d_Mo_commit_28 rfl (Nat.le_refl _) (Nat.le_refl _) (poI h)
  · replace h := h.2 b4
    refine g_iload_n F (pc := 9) d_Mo_commit_9 2 rfl (g_iconst (v := (-1)) F (pc := 10) d_Mo_commit_10 (by decide) ?_)
    obtain ⟨J10, hJ10, h⟩ := h
    have jn11 : ∀ (c9 : cM), J10 c9 → Z (wd c9) 23 [(0, .ref x0), (1, .int x1), (2, .int x2), (3, .int x3)] [] 0 0 := by
      intro c9 h
      replace h := hJ10 c9 h
      refine g_iload_n F (pc := 23) d_Mo_commit_23 3 rfl ?_
      refine g_if_ge (tgt := 29) F (pc := 24) d_Mo_commit_24 (by decide) (fun b12 => ?_) (fun b12 => ?_)
      · replace h := h.1 b12
        refine g_aload_n F (pc := 29) d_Mo_commit_29 0 rfl (g_iconst (v := 1) F (pc := 30) d_Mo_commit_30 (by decide) ?_)
        refine gc_callVV (As := [.int 1]) (st := []) F (pc := 31) d_Mo_commit_31 cb_Mo_122 iv_Mo_begin np_Mo_begin o1 vc_7 (c_Mo_begin h) rfl (by decide) (Nat.le_refl _) (Nat.le_refl _) (Nat.le_of_ble_eq_true rfl) (fun c13 h => ?_)
        refine g_aload_n F (pc := 34) d_Mo_commit_34 0 rfl (g_bipush (v := 116) F (pc := 35) d_Mo_commit_35 (by decide) ?_)
        refine gc_callVV (As := [.int 116]) (st := []) F (pc := 37) d_Mo_commit_37 cb_Mo_110 iv_Mo_add np_Mo_add o1 vc_7 (c_Mo_add h) rfl (by decide) (Nat.le_refl _) (Nat.le_refl _) (Nat.le_of_ble_eq_true rfl) (fun c14 h => ?_)
        refine g_aload_n F (pc := 40) d_Mo_commit_40 0 rfl (g_bipush (v := 114) F (pc := 41) d_Mo_commit_41 (by decide) ?_)
        refine gc_callVV (As := [.int 114]) (st := []) F (pc := 43) d_Mo_commit_43 cb_Mo_110 iv_Mo_add np_Mo_add o1 vc_7 (c_Mo_add h) rfl (by decide) (Nat.le_refl _) (Nat.le_refl _) (Nat.le_of_ble_eq_true rfl) (fun c15 h => ?_)
        refine g_aload_n F (pc := 46) d_Mo_commit_46 0 rfl (g_bipush (v := 101) F (pc := 47) d_Mo_commit_47 (by decide) ?_)
        refine gc_callVV (As := [.int 101]) (st := []) F (pc := 49) d_Mo_commit_49 cb_Mo_110 iv_Mo_add np_Mo_add o1 vc_7 (c_Mo_add h) rfl (by decide) (Nat.le_refl _) (Nat.le_refl _) (Nat.le_of_ble_eq_true rfl) (fun c16 h => ?_)
        refine g_aload_n F (pc := 52) d_Mo_commit_52 0 rfl (g_bipush (v := 101) F (pc := 53) d_Mo_commit_53 (by decide) ?_)
        refine gc_callVV (As := [.int 101]) (st := []) F (pc := 55) d_Mo_commit_55 cb_Mo_110 iv_Mo_add np_Mo_add o1 vc_7 (c_Mo_add h) rfl (by decide) (Nat.le_refl _) (Nat.le_refl _) (Nat.le_of_ble_eq_true rfl) (fun c17 h => ?_)
        refine g_aload_n F (pc := 58) d_Mo_commit_58 0 rfl (g_bipush (v := 32) F (pc := 59) d_Mo_commit_59 (by decide) ?_)
        refine gc_callVV (As := [.int 32]) (st := []) F (pc := 61) d_Mo_commit_61 cb_Mo_110 iv_Mo_add np_Mo_add o1 vc_7 (c_Mo_add h) rfl (by decide) (Nat.le_refl _) (Nat.le_refl _) (Nat.le_of_ble_eq_true rfl) (fun c18 h => ?_)
        refine g_aload_n F (pc := 64) d_Mo_commit_64 0 rfl (g_iload_n F (pc := 65) d_Mo_commit_65 1 rfl ?_)
        refine gc_callVV (As := [.int x1]) (st := []) F (pc := 66) d_Mo_commit_66 cb_Mo_136 iv_Mo_addName np_Mo_addName o1 vc_7 (c_Mo_addName h) rfl (by decide) (Nat.le_refl _) (Nat.le_refl _) (Nat.le_of_ble_eq_true rfl) (fun c19 h => ?_)
        refine g_aload_n F (pc := 69) d_Mo_commit_69 0 rfl (g_bipush (v := 10) F (pc := 70) d_Mo_commit_70 (by decide) ?_)
        refine gc_callVV (As := [.int 10]) (st := []) F (pc := 72) d_Mo_commit_72 cb_Mo_110 iv_Mo_add np_Mo_add o1 vc_7 (c_Mo_add h) rfl (by decide) (Nat.le_refl _) (Nat.le_refl _) (Nat.le_of_ble_eq_true rfl) (fun c20 h => ?_)
        refine g_iload_n F (pc := 75) d_Mo_commit_75 2 rfl ?_
        obtain ⟨J32, hJ32, h⟩ := h
        have jn33 : ∀ (c31 : cM), J32 c31 → Z (wd c31) 132 [(0, .ref x0), (3, .int x3)] [] 0 0 := by
          intro c31 h
          replace h := hJ32 c31 h
          refine g_aload_n F (pc := 132) d_Mo_commit_132 0 rfl (g_bipush (v := 97) F (pc := 133) d_Mo_commit_133 (by decide) ?_)
          refine gc_callVV (As := [.int 97]) (st := []) F (pc := 135) d_Mo_commit_135 cb_Mo_110 iv_Mo_add np_Mo_add o1 vc_7 (c_Mo_add h) rfl (by decide) (Nat.le_refl _) (Nat.le_refl _) (Nat.le_of_ble_eq_true rfl) (fun c34 h => ?_)
          refine g_aload_n F (pc := 138) d_Mo_commit_138 0 rfl (g_bipush (v := 116) F (pc := 139) d_Mo_commit_139 (by decide) ?_)
          refine gc_callVV (As := [.int 116]) (st := []) F (pc := 141) d_Mo_commit_141 cb_Mo_110 iv_Mo_add np_Mo_add o1 vc_7 (c_Mo_add h) rfl (by decide) (Nat.le_refl _) (Nat.le_refl _) (Nat.le_of_ble_eq_true rfl) (fun c35 h => ?_)
          refine g_aload_n F (pc := 144) d_Mo_commit_144 0 rfl (g_bipush (v := 32) F (pc := 145) d_Mo_commit_145 (by decide) ?_)
          refine gc_callVV (As := [.int 32]) (st := []) F (pc := 147) d_Mo_commit_147 cb_Mo_110 iv_Mo_add np_Mo_add o1 vc_7 (c_Mo_add h) rfl (by decide) (Nat.le_refl _) (Nat.le_refl _) (Nat.le_of_ble_eq_true rfl) (fun c36 h => ?_)
          refine g_iconst (v := 1) F (pc := 150) d_Mo_commit_150 (by decide) (g_istore (lv' := [(4, .int 1), (0, .ref x0), (3, .int x3)]) F (pc := 151) d_Mo_commit_151 (by decide) rfl ?_)
          refine g_lv (lv' := [(0, .ref x0), (3, .int x3), (4, .int 1)]) F [1, 2, 0] rfl ?_
          obtain ⟨I37, ⟨n0, h⟩, hI37⟩ := h
          have lp40 : ∀ (n38 : Nat) (y41 : Int32), I37 n38 y41 → Z (wd c36) 153 [(0, .ref x0), (3, .int x3), (4, .int y41)] [] 0 0 := by
            intro n38
            induction n38 using Nat.strongRecOn with
            | _ n38 ih39 =>
              intro y41 h
              replace h := hI37 n38 y41 h
              refine g_iload_n F (pc := 153) d_Mo_commit_153 1 rfl (g_iload F (pc := 154) d_Mo_commit_154 2 rfl ?_)
              obtain ⟨o42, h⟩ := h
              refine g_idiv F (pc := 156) d_Mo_commit_156 o42 (g_bipush (v := 9) F (pc := 157) d_Mo_commit_157 (by decide) ?_)
              refine g_icmp_le (tgt := 172) F (pc := 159) d_Mo_commit_159 (by decide) (fun b43 => ?_) (fun b43 => ?_)
              · replace h := h.1 b43
                refine g_iload F (pc := 172) d_Mo_commit_172 2 rfl (g_istore (lv' := [(5, .int y41), (0, .ref x0), (3, .int x3), (4, .int y41)]) F (pc := 174) d_Mo_commit_174 (by decide) rfl ?_)
                refine g_lv (lv' := [(0, .ref x0), (3, .int x3), (5, .int y41)]) F [1, 2, 0] rfl ?_
                obtain ⟨I44, ⟨n0, h⟩, hI44⟩ := h
                have lp47 : ∀ (n45 : Nat) (y48 : Int32) (c49 : cM), I44 n45 y48 c49 → Z (wd c49) 176 [(0, .ref x0), (3, .int x3), (5, .int y48)] [] 0 0 := by
                  intro n45
                  induction n45 using Nat.strongRecOn with
                  | _ n45 ih46 =>
                    intro y48 c49 h
                    replace h := hI44 n45 y48 c49 h
                    refine g_iload F (pc := 176) d_Mo_commit_176 2 rfl ?_
                    refine g_if_le (tgt := 205) F (pc := 178) d_Mo_commit_178 (by decide) (fun b50 => ?_) (fun b50 => ?_)
                    · replace h := h.1 b50
                      refine g_aload_n F (pc := 205) d_Mo_commit_205 0 rfl (g_bipush (v := 10) F (pc := 206) d_Mo_commit_206 (by decide) ?_)
                      refine gc_callVV (As := [.int 10]) (st := []) F (pc := 208) d_Mo_commit_208 cb_Mo_110 iv_Mo_add np_Mo_add o1 vc_7 (c_Mo_add h) rfl (by decide) (Nat.le_refl _) (Nat.le_refl _) (Nat.le_of_ble_eq_true rfl) (fun c51 h => ?_)
                      refine g_aload_n F (pc := 211) d_Mo_commit_211 0 rfl ?_
                      refine gc_callVI (As := []) (st := []) F (pc := 212) d_Mo_commit_212 cb_Mo_125 iv_Mo_come np_Mo_come o1 vc_7 (c_Mo_come h) rfl (by decide) (Nat.le_refl _) (Nat.le_refl _) (Nat.le_of_ble_eq_true rfl) (fun v53 c52 h => ?_)
                      exact g_iret T (pc := 215) d_Mo_commit_215 rfl (Nat.le_refl _) (Nat.le_refl _) (poI h)
                    · replace h := h.2 b50
                      refine g_aload_n F (pc := 181) d_Mo_commit_181 0 rfl (g_bipush (v := 48) F (pc := 182) d_Mo_commit_182 (by decide) (g_iload_n F (pc := 184) d_Mo_commit_184 1 rfl (g_iload F (pc := 185) d_Mo_commit_185 2 rfl ?_)))
                      obtain ⟨o54, h⟩ := h
                      refine g_idiv F (pc := 187) d_Mo_commit_187 o54 (g_bipush (v := 10) F (pc := 188) d_Mo_commit_188 (by decide) (g_irem F (pc := 190) d_Mo_commit_190 (by decide) (g_iadd F (pc := 191) d_Mo_commit_191 ?_)))
                      refine gc_callVV (As := [.int (48 + (c_rem (x3 / y48) 10))]) (st := []) F (pc := 192) d_Mo_commit_192 cb_Mo_110 iv_Mo_add np_Mo_add o1 vc_7 (c_Mo_add h) rfl (by decide) (Nat.le_refl _) (Nat.le_refl _) (Nat.le_of_ble_eq_true rfl) (fun c55 h => ?_)
                      refine g_iload F (pc := 195) d_Mo_commit_195 2 rfl (g_bipush (v := 10) F (pc := 197) d_Mo_commit_197 (by decide) (g_idiv F (pc := 199) d_Mo_commit_199 (by decide) (g_istore (lv' := [(5, .int (y48 / 10)), (0, .ref x0), (3, .int x3)]) F (pc := 200) d_Mo_commit_200 (by decide) rfl (g_goto (tgt := 176) F (pc := 202) d_Mo_commit_202 (by decide) ?_))))
                      refine g_lv (lv' := [(0, .ref x0), (3, .int x3), (5, .int (y48 / 10))]) F [1, 2, 0] rfl ?_
                      obtain ⟨m, hm, h⟩ := h
                      exact ih46 m hm _ _ h
                exact lp47 n0 _ _ h
              · replace h := h.2 b43
                refine g_bipush (v := 10) F (pc := 162) d_Mo_commit_162 (by decide) (g_iload F (pc := 164) d_Mo_commit_164 2 rfl (g_imul F (pc := 166) d_Mo_commit_166 (g_istore (lv' := [(4, .int (10 * y41)), (0, .ref x0), (3, .int x3)]) F (pc := 167) d_Mo_commit_167 (by decide) rfl (g_goto (tgt := 153) F (pc := 169) d_Mo_commit_169 (by decide) ?_))))
                refine g_lv (lv' := [(0, .ref x0), (3, .int x3), (4, .int (10 * y41))]) F [1, 2, 0] rfl ?_
                obtain ⟨m, hm, h⟩ := h
                exact ih39 m hm _ h
          exact lp40 n0 _ h
        refine g_if_lt (tgt := 132) F (pc := 76) d_Mo_commit_76 (by decide) (fun b21 => ?_) (fun b21 => ?_)
        · replace h := h.1 b21
          refine g_lv (lv' := [(0, .ref x0), (3, .int x3)]) F [0, 3] rfl ?_
          exact jn33 _ h
        · replace h := h.2 b21
          refine g_aload_n F (pc := 79) d_Mo_commit_79 0 rfl (g_bipush (v := 112) F (pc := 80) d_Mo_commit_80 (by decide) ?_)
          refine gc_callVV (As := [.int 112]) (st := []) F (pc := 82) d_Mo_commit_82 cb_Mo_110 iv_Mo_add np_Mo_add o1 vc_7 (c_Mo_add h) rfl (by decide) (Nat.le_refl _) (Nat.le_refl _) (Nat.le_of_ble_eq_true rfl) (fun c56 h => ?_)
          refine g_aload_n F (pc := 85) d_Mo_commit_85 0 rfl (g_bipush (v := 97) F (pc := 86) d_Mo_commit_86 (by decide) ?_)
          refine gc_callVV (As := [.int 97]) (st := []) F (pc := 88) d_Mo_commit_88 cb_Mo_110 iv_Mo_add np_Mo_add o1 vc_7 (c_Mo_add h) rfl (by decide) (Nat.le_refl _) (Nat.le_refl _) (Nat.le_of_ble_eq_true rfl) (fun c57 h => ?_)
          refine g_aload_n F (pc := 91) d_Mo_commit_91 0 rfl (g_bipush (v := 114) F (pc := 92) d_Mo_commit_92 (by decide) ?_)
          refine gc_callVV (As := [.int 114]) (st := []) F (pc := 94) d_Mo_commit_94 cb_Mo_110 iv_Mo_add np_Mo_add o1 vc_7 (c_Mo_add h) rfl (by decide) (Nat.le_refl _) (Nat.le_refl _) (Nat.le_of_ble_eq_true rfl) (fun c58 h => ?_)
          refine g_aload_n F (pc := 97) d_Mo_commit_97 0 rfl (g_bipush (v := 101) F (pc := 98) d_Mo_commit_98 (by decide) ?_)
          refine gc_callVV (As := [.int 101]) (st := []) F (pc := 100) d_Mo_commit_100 cb_Mo_110 iv_Mo_add np_Mo_add o1 vc_7 (c_Mo_add h) rfl (by decide) (Nat.le_refl _) (Nat.le_refl _) (Nat.le_of_ble_eq_true rfl) (fun c59 h => ?_)
          refine g_aload_n F (pc := 103) d_Mo_commit_103 0 rfl (g_bipush (v := 110) F (pc := 104) d_Mo_commit_104 (by decide) ?_)
          refine gc_callVV (As := [.int 110]) (st := []) F (pc := 106) d_Mo_commit_106 cb_Mo_110 iv_Mo_add np_Mo_add o1 vc_7 (c_Mo_add h) rfl (by decide) (Nat.le_refl _) (Nat.le_refl _) (Nat.le_of_ble_eq_true rfl) (fun c60 h => ?_)
          refine g_aload_n F (pc := 109) d_Mo_commit_109 0 rfl (g_bipush (v := 116) F (pc := 110) d_Mo_commit_110 (by decide) ?_)
          refine gc_callVV (As := [.int 116]) (st := []) F (pc := 112) d_Mo_commit_112 cb_Mo_110 iv_Mo_add np_Mo_add o1 vc_7 (c_Mo_add h) rfl (by decide) (Nat.le_refl _) (Nat.le_refl _) (Nat.le_of_ble_eq_true rfl) (fun c61 h => ?_)
          refine g_aload_n F (pc := 115) d_Mo_commit_115 0 rfl (g_bipush (v := 32) F (pc := 116) d_Mo_commit_116 (by decide) ?_)
          refine gc_callVV (As := [.int 32]) (st := []) F (pc := 118) d_Mo_commit_118 cb_Mo_110 iv_Mo_add np_Mo_add o1 vc_7 (c_Mo_add h) rfl (by decide) (Nat.le_refl _) (Nat.le_refl _) (Nat.le_of_ble_eq_true rfl) (fun c62 h => ?_)
          refine g_aload_n F (pc := 121) d_Mo_commit_121 0 rfl (g_iload_n F (pc := 122) d_Mo_commit_122 2 rfl ?_)
          refine gc_callVV (As := [.int x2]) (st := []) F (pc := 123) d_Mo_commit_123 cb_Mo_136 iv_Mo_addName np_Mo_addName o1 vc_7 (c_Mo_addName h) rfl (by decide) (Nat.le_refl _) (Nat.le_refl _) (Nat.le_of_ble_eq_true rfl) (fun c63 h => ?_)
          refine g_aload_n F (pc := 126) d_Mo_commit_126 0 rfl (g_bipush (v := 10) F (pc := 127) d_Mo_commit_127 (by decide) ?_)
          refine gc_callVV (As := [.int 10]) (st := []) F (pc := 129) d_Mo_commit_129 cb_Mo_110 iv_Mo_add np_Mo_add o1 vc_7 (c_Mo_add h) rfl (by decide) (Nat.le_refl _) (Nat.le_refl _) (Nat.le_of_ble_eq_true rfl) (fun c64 h => ?_)
          refine g_lv (lv' := [(0, .ref x0), (3, .int x3)]) F [0, 3] rfl ?_
          exact jn33 _ h
      · replace h := h.2 b12
        refine g_iconst (v := (-1)) F (pc := 27) d_Mo_commit_27 (by decide) ?_
        exact g_iret T (pc := 28) d_Mo_commit_28 rfl (Nat.le_refl _) (Nat.le_refl _) (poI h)
    refine g_icmp_eq (tgt := 23) F (pc := 11) d_Mo_commit_11 (by decide) (fun b5 => ?_) (fun b5 => ?_)
    · replace h := h.1 b5
      exact jn11 _ h
    · replace h := h.2 b5
      refine g_aload_n F (pc := 14) d_Mo_commit_14 0 rfl (g_iload_n F (pc := 15) d_Mo_commit_15 2 rfl (g_iconst (v := 1) F (pc := 16) d_Mo_commit_16 (by decide) ?_))
      refine gc_callVI (As := [.int x2, .int 1]) (st := []) F (pc := 17) d_Mo_commit_17 cb_Mo_129 iv_Mo_isKind np_Mo_isKind o1 vc_7 (c_Mo_isKind h) rfl (by decide) (Nat.le_refl _) (Nat.le_refl _) (Nat.le_of_ble_eq_true rfl) (fun v66 c65 h => ?_)
      refine g_if_eq (tgt := 27) F (pc := 20) d_Mo_commit_20 (by decide) (fun b67 => ?_) (fun b67 => ?_)
      · replace h := h.1 b67
        refine g_iconst (v := (-1)) F (pc := 27) d_Mo_commit_27 (by decide) ?_
        exact g_iret T (pc := 28) d_Mo_commit_28 rfl (Nat.le_refl _) (Nat.le_refl _) (poI h)
      · replace h := h.2 b67
        exact jn11 _ h
theorem d_Mo_branch_0 : decode M_Mo_branch.2.1 0 = .ok (.iload_n 1, 1) := by decide +kernel
theorem d_Mo_branch_1 : decode M_Mo_branch.2.1 1 = .ok (.ifCond .lt 22, 3) := by decide +kernel
theorem d_Mo_branch_4 : decode M_Mo_branch.2.1 4 = .ok (.iload_n 1, 1) := by decide +kernel
theorem d_Mo_branch_5 : decode M_Mo_branch.2.1 5 = .ok (.iconst 3, 1) := by decide +kernel
theorem d_Mo_branch_6 : decode M_Mo_branch.2.1 6 = .ok (.if_icmp .gt 17, 3) := by decide +kernel
theorem d_Mo_branch_9 : decode M_Mo_branch.2.1 9 = .ok (.iload_n 2, 1) := by decide +kernel
theorem d_Mo_branch_10 : decode M_Mo_branch.2.1 10 = .ok (.iconst (-1), 1) := by decide +kernel
theorem d_Mo_branch_11 : decode M_Mo_branch.2.1 11 = .ok (.if_icmp .eq 14, 3) := by decide +kernel
theorem d_Mo_branch_14 : decode M_Mo_branch.2.1 14 = .ok (.aload_n 0, 1) := by decide +kernel
theorem d_Mo_branch_15 : decode M_Mo_branch.2.1 15 = .ok (.iload_n 2, 1) := by decide +kernel
theorem d_Mo_branch_16 : decode M_Mo_branch.2.1 16 = .ok (.iconst 1, 1) := by decide +kernel
theorem d_Mo_branch_17 : decode M_Mo_branch.2.1 17 = .ok (.invokevirtual 129, 3) := by decide +kernel
theorem d_Mo_branch_20 : decode M_Mo_branch.2.1 20 = .ok (.ifCond .ne 5, 3) := by decide +kernel
theorem d_Mo_branch_23 : decode M_Mo_branch.2.1 23 = .ok (.iconst 0, 1) := by decide +kernel
theorem d_Mo_branch_24 : decode M_Mo_branch.2.1 24 = .ok (.ireturn, 1) := by decide +kernel
theorem d_Mo_branch_25 : decode M_Mo_branch.2.1 25 = .ok (.aload_n 0, 1) := by decide +kernel
theorem d_Mo_branch_26 : decode M_Mo_branch.2.1 26 = .ok (.getfield 38, 3) := by decide +kernel
theorem d_Mo_branch_29 : decode M_Mo_branch.2.1 29 = .ok (.iload_n 1, 1) := by decide +kernel
theorem d_Mo_branch_30 : decode M_Mo_branch.2.1 30 = .ok (.iload_n 2, 1) := by decide +kernel
theorem d_Mo_branch_31 : decode M_Mo_branch.2.1 31 = .ok (.iastore, 1) := by decide +kernel
theorem d_Mo_branch_32 : decode M_Mo_branch.2.1 32 = .ok (.iconst 1, 1) := by decide +kernel
theorem d_Mo_branch_33 : decode M_Mo_branch.2.1 33 = .ok (.ireturn, 1) := by decide +kernel
def f_Mo_branch (x0 : Nat) (x1 : Int32) (x2 : Int32) (c : cM) (K : Int32 → cM → Prop) : Prop :=
  ((x1 < 0) → (K 0 c)) ∧ (¬ (x1 < 0) → (((3 < x1) → (K 0 c)) ∧ (¬ (3 < x1) → (∃ J9 : cM → Prop, (∀ (c8 : cM), J9 c8 → (kd x0 = 7 ∧ (kd (rf x0 12) = 100 ∧ (vp_in x1 (ln (rf x0 12)) ∧ (∀ c14 : cM, c14 = c_up c8 (rf x0 12) (Int32.toNatClampNeg x1) x2 → (K 1 c14)))))) ∧ (((x2 = (-1)) → (J9 c)) ∧ (¬ (x2 = (-1)) → (kd x0 = 7 ∧ (f_Mo_isKind x0 x2 1 c (fun v17 c16 => ((¬ v17 = 0) → (J9 c16)) ∧ (v17 = 0 → (K 0 c16)))))))))))
theorem c_Mo_branch {x0 : Nat} {x1 : Int32} {x2 : Int32} {c : cM} {K : Int32 → cM → Prop} (h : f_Mo_branch x0 x1 x2 c K) : Ct M_Mo_branch 2 0 0 (wd c) [.ref x0, .int x1, .int x2] (PoI K) := by
  refine Ct.of (by decide +kernel) (Nat.le_of_ble_eq_true rfl) (fun Z T => ?_)
  have F := T.F
  unfold f_Mo_branch at h
  show Z (wd c) 0 [(0, .ref x0), (1, .int x1), (2, .int x2)] [] 0 0
  refine g_iload_n F (pc := 0) d_Mo_branch_0 1 rfl ?_
  refine g_if_lt (tgt := 23) F (pc := 1) d_Mo_branch_1 (by decide) (fun b1 => ?_) (fun b1 => ?_)
  · replace h := h.1 b1
    refine g_iconst (v := 0) F (pc := 23) d_Mo_branch_23 (by decide) ?_
    exact g_zret T (pc := 24) d_Mo_branch_24 rfl (by decide) (Nat.le_refl _) (Nat.le_refl _) (poI h)
  · replace h := h.2 b1
    refine g_iload_n F (pc := 4) d_Mo_branch_4 1 rfl (g_iconst (v := 3) F (pc := 5) d_Mo_branch_5 (by decide) ?_)
    refine g_icmp_gt (tgt := 23) F (pc := 6) d_Mo_branch_6 (by decide) (fun b2 => ?_) (fun b2 => ?_)
    · replace h := h.1 b2
      refine g_iconst (v := 0) F (pc := 23) d_Mo_branch_23 (by decide) ?_
      exact g_zret T (pc := 24) d_Mo_branch_24 rfl (by decide) (Nat.le_refl _) (Nat.le_refl _) (poI h)
    · replace h := h.2 b2
      refine g_iload_n F (pc := 9) d_Mo_branch_9 2 rfl (g_iconst (v := (-1)) F (pc := 10) d_Mo_branch_10 (by decide) ?_)
      obtain ⟨J9, hJ9, h⟩ := h
      have jn10 : ∀ (c8 : cM), J9 c8 → Z (wd c8) 25 [(0, .ref x0), (1, .int x1), (2, .int x2)] [] 0 0 := by
        intro c8 h
        replace h := hJ9 c8 h
        refine g_aload_n F (pc := 25) d_Mo_branch_25 0 rfl ?_
        obtain ⟨o11, h⟩ := h
        refine gc_getR F (pc := 26) d_Mo_branch_26 fi_Mo_38 o11 (g_iload_n F (pc := 29) d_Mo_branch_29 1 rfl (g_iload_n F (pc := 30) d_Mo_branch_30 2 rfl ?_))
        obtain ⟨o12, h⟩ := h
        obtain ⟨o13, h⟩ := h
        refine gc_iast F (pc := 31) d_Mo_branch_31 o12 o13 ?_
        obtain ⟨c14, ec14⟩ : ∃ c14 : cM, c14 = c_up c8 (rf x0 12) (Int32.toNatClampNeg x1) x2 := ⟨_, rfl⟩
        rw [← ec14]
        replace h := h c14 ec14
        refine g_iconst (v := 1) F (pc := 32) d_Mo_branch_32 (by decide) ?_
        exact g_zret T (pc := 33) d_Mo_branch_33 rfl (by decide) (Nat.le_refl _) (Nat.le_refl _) (poI h)
      refine g_icmp_eq (tgt := 25) F (pc := 11) d_Mo_branch_11 (by decide) (fun b3 => ?_) (fun b3 => ?_)
      · replace h := h.1 b3
        exact jn10 _ h
      · replace h := h.2 b3
        refine g_aload_n F (pc := 14) d_Mo_branch_14 0 rfl (g_iload_n F (pc := 15) d_Mo_branch_15 2 rfl (g_iconst (v := 1) F (pc := 16) d_Mo_branch_16 (by decide) ?_))
        obtain ⟨o15, h⟩ := h
        refine gc_callVI (As := [.int x2, .int 1]) (st := []) F (pc := 17) d_Mo_branch_17 cb_Mo_129 iv_Mo_isKind np_Mo_isKind o15 vc_7 (c_Mo_isKind h) rfl (by decide) (Nat.le_refl _) (Nat.le_refl _) (Nat.le_of_ble_eq_true rfl) (fun v17 c16 h => ?_)
        refine g_if_ne (tgt := 25) F (pc := 20) d_Mo_branch_20 (by decide) (fun b18 => ?_) (fun b18 => ?_)
        · replace h := h.1 b18
          exact jn10 _ h
        · replace h := h.2 b18
          refine g_iconst (v := 0) F (pc := 23) d_Mo_branch_23 (by decide) ?_
          exact g_zret T (pc := 24) d_Mo_branch_24 rfl (by decide) (Nat.le_refl _) (Nat.le_refl _) (poI h)
theorem d_Mo_held_0 : decode M_Mo_held.2.1 0 = .ok (.iload_n 1, 1) := by decide +kernel
theorem d_Mo_held_1 : decode M_Mo_held.2.1 1 = .ok (.ifCond .lt 8, 3) := by decide +kernel
theorem d_Mo_held_4 : decode M_Mo_held.2.1 4 = .ok (.iload_n 1, 1) := by decide +kernel
theorem d_Mo_held_5 : decode M_Mo_held.2.1 5 = .ok (.iconst 3, 1) := by decide +kernel
theorem d_Mo_held_6 : decode M_Mo_held.2.1 6 = .ok (.if_icmp .le 7, 3) := by decide +kernel
theorem d_Mo_held_9 : decode M_Mo_held.2.1 9 = .ok (.iconst (-1), 1) := by decide +kernel
theorem d_Mo_held_10 : decode M_Mo_held.2.1 10 = .ok (.goto 9, 3) := by decide +kernel
theorem d_Mo_held_13 : decode M_Mo_held.2.1 13 = .ok (.aload_n 0, 1) := by decide +kernel
theorem d_Mo_held_14 : decode M_Mo_held.2.1 14 = .ok (.getfield 38, 3) := by decide +kernel
theorem d_Mo_held_17 : decode M_Mo_held.2.1 17 = .ok (.iload_n 1, 1) := by decide +kernel
theorem d_Mo_held_18 : decode M_Mo_held.2.1 18 = .ok (.iaload, 1) := by decide +kernel
theorem d_Mo_held_19 : decode M_Mo_held.2.1 19 = .ok (.ireturn, 1) := by decide +kernel
def f_Mo_held (x0 : Nat) (x1 : Int32) (c : cM) (K : Int32 → cM → Prop) : Prop :=
  ∃ J6 : Prop, (J6  → (K (-1) c)) ∧ (((x1 < 0) → (J6)) ∧ (¬ (x1 < 0) → (((x1 ≤ 3) → (kd x0 = 7 ∧ (kd (rf x0 12) = 100 ∧ (vp_in x1 (ln (rf x0 12)) ∧ (K (c (rf x0 12) (Int32.toNatClampNeg x1)) c))))) ∧ (¬ (x1 ≤ 3) → (J6)))))
theorem c_Mo_held {x0 : Nat} {x1 : Int32} {c : cM} {K : Int32 → cM → Prop} (h : f_Mo_held x0 x1 c K) : Ct M_Mo_held 0 0 0 (wd c) [.ref x0, .int x1] (PoI K) := by
  refine Ct.of (by decide +kernel) (Nat.le_of_ble_eq_true rfl) (fun Z T => ?_)
  have F := T.F
  unfold f_Mo_held at h
  show Z (wd c) 0 [(0, .ref x0), (1, .int x1)] [] 0 0
  refine g_iload_n F (pc := 0) d_Mo_held_0 1 rfl ?_
  obtain ⟨J6, hJ6, h⟩ := h
  have jn7 : J6  → Z (wd c) 9 [] [] 0 0 := by
    intro  h
    replace h := hJ6  h
    refine g_iconst (v := (-1)) F (pc := 9) d_Mo_held_9 (by decide) (g_goto (tgt := 19) F (pc := 10) d_Mo_held_10 (by decide) ?_)
    exact g_iret T (pc := 19) d_Mo_held_19 rfl (Nat.le_refl _) (Nat.le_refl _) (poI h)
  refine g_if_lt (tgt := 9) F (pc := 1) d_Mo_held_1 (by decide) (fun b1 => ?_) (fun b1 => ?_)
  · replace h := h.1 b1
    refine g_lv (lv' := []) F [] rfl ?_
    exact jn7  h
  · replace h := h.2 b1
    refine g_iload_n F (pc := 4) d_Mo_held_4 1 rfl (g_iconst (v := 3) F (pc := 5) d_Mo_held_5 (by decide) ?_)
    refine g_icmp_le (tgt := 13) F (pc := 6) d_Mo_held_6 (by decide) (fun b8 => ?_) (fun b8 => ?_)
    · replace h := h.1 b8
      refine g_aload_n F (pc := 13) d_Mo_held_13 0 rfl ?_
      obtain ⟨o9, h⟩ := h
      refine gc_getR F (pc := 14) d_Mo_held_14 fi_Mo_38 o9 (g_iload_n F (pc := 17) d_Mo_held_17 1 rfl ?_)
      obtain ⟨o10, h⟩ := h
      obtain ⟨o11, h⟩ := h
      refine gc_iald F (pc := 18) d_Mo_held_18 o10 o11 ?_
      exact g_iret T (pc := 19) d_Mo_held_19 rfl (Nat.le_refl _) (Nat.le_refl _) (poI h)
    · replace h := h.2 b8
      refine g_lv (lv' := []) F [] rfl ?_
      exact jn7  h
theorem d_Mo_refers_0 : decode M_Mo_refers.2.1 0 = .ok (.iconst 0, 1) := by decide +kernel
theorem d_Mo_refers_1 : decode M_Mo_refers.2.1 1 = .ok (.istore_n 3, 1) := by decide +kernel
theorem d_Mo_refers_2 : decode M_Mo_refers.2.1 2 = .ok (.iconst 0, 1) := by decide +kernel
theorem d_Mo_refers_3 : decode M_Mo_refers.2.1 3 = .ok (.istore 4, 2) := by decide +kernel
theorem d_Mo_refers_5 : decode M_Mo_refers.2.1 5 = .ok (.iload 4, 2) := by decide +kernel
theorem d_Mo_refers_7 : decode M_Mo_refers.2.1 7 = .ok (.bipush 20, 2) := by decide +kernel
theorem d_Mo_refers_9 : decode M_Mo_refers.2.1 9 = .ok (.iadd, 1) := by decide +kernel
theorem d_Mo_refers_10 : decode M_Mo_refers.2.1 10 = .ok (.aload_n 0, 1) := by decide +kernel
theorem d_Mo_refers_11 : decode M_Mo_refers.2.1 11 = .ok (.getfield 13, 3) := by decide +kernel
theorem d_Mo_refers_14 : decode M_Mo_refers.2.1 14 = .ok (.iload_n 1, 1) := by decide +kernel
theorem d_Mo_refers_15 : decode M_Mo_refers.2.1 15 = .ok (.iaload, 1) := by decide +kernel
theorem d_Mo_refers_16 : decode M_Mo_refers.2.1 16 = .ok (.if_icmp .gt 80, 3) := by decide +kernel
theorem d_Mo_refers_19 : decode M_Mo_refers.2.1 19 = .ok (.iconst 1, 1) := by decide +kernel
theorem d_Mo_refers_20 : decode M_Mo_refers.2.1 20 = .ok (.istore 5, 2) := by decide +kernel
theorem d_Mo_refers_22 : decode M_Mo_refers.2.1 22 = .ok (.iconst 0, 1) := by decide +kernel
theorem d_Mo_refers_23 : decode M_Mo_refers.2.1 23 = .ok (.istore 6, 2) := by decide +kernel
theorem d_Mo_refers_25 : decode M_Mo_refers.2.1 25 = .ok (.iload 6, 2) := by decide +kernel
theorem d_Mo_refers_27 : decode M_Mo_refers.2.1 27 = .ok (.bipush 20, 2) := by decide +kernel
theorem d_Mo_refers_29 : decode M_Mo_refers.2.1 29 = .ok (.if_icmp .ge 46, 3) := by decide +kernel
theorem d_Mo_refers_32 : decode M_Mo_refers.2.1 32 = .ok (.iload 5, 2) := by decide +kernel
theorem d_Mo_refers_34 : decode M_Mo_refers.2.1 34 = .ok (.ifCond .eq 32, 3) := by decide +kernel
theorem d_Mo_refers_37 : decode M_Mo_refers.2.1 37 = .ok (.aload_n 0, 1) := by decide +kernel
theorem d_Mo_refers_38 : decode M_Mo_refers.2.1 38 = .ok (.getfield 16, 3) := by decide +kernel
theorem d_Mo_refers_41 : decode M_Mo_refers.2.1 41 = .ok (.bipush 120, 2) := by decide +kernel
theorem d_Mo_refers_43 : decode M_Mo_refers.2.1 43 = .ok (.iload_n 1, 1) := by decide +kernel
theorem d_Mo_refers_44 : decode M_Mo_refers.2.1 44 = .ok (.imul, 1) := by decide +kernel
theorem d_Mo_refers_45 : decode M_Mo_refers.2.1 45 = .ok (.iload 4, 2) := by decide +kernel
theorem d_Mo_refers_47 : decode M_Mo_refers.2.1 47 = .ok (.iadd, 1) := by decide +kernel
theorem d_Mo_refers_48 : decode M_Mo_refers.2.1 48 = .ok (.iload 6, 2) := by decide +kernel
theorem d_Mo_refers_50 : decode M_Mo_refers.2.1 50 = .ok (.iadd, 1) := by decide +kernel
theorem d_Mo_refers_51 : decode M_Mo_refers.2.1 51 = .ok (.iaload, 1) := by decide +kernel
theorem d_Mo_refers_52 : decode M_Mo_refers.2.1 52 = .ok (.aload_n 0, 1) := by decide +kernel
theorem d_Mo_refers_53 : decode M_Mo_refers.2.1 53 = .ok (.iload_n 2, 1) := by decide +kernel
theorem d_Mo_refers_54 : decode M_Mo_refers.2.1 54 = .ok (.iload 6, 2) := by decide +kernel
theorem d_Mo_refers_56 : decode M_Mo_refers.2.1 56 = .ok (.invokevirtual 107, 3) := by decide +kernel
theorem d_Mo_refers_59 : decode M_Mo_refers.2.1 59 = .ok (.if_icmp .ne 7, 3) := by decide +kernel
theorem d_Mo_refers_62 : decode M_Mo_refers.2.1 62 = .ok (.iconst 1, 1) := by decide +kernel
theorem d_Mo_refers_63 : decode M_Mo_refers.2.1 63 = .ok (.goto 4, 3) := by decide +kernel
theorem d_Mo_refers_66 : decode M_Mo_refers.2.1 66 = .ok (.iconst 0, 1) := by decide +kernel
theorem d_Mo_refers_67 : decode M_Mo_refers.2.1 67 = .ok (.istore 5, 2) := by decide +kernel
theorem d_Mo_refers_69 : decode M_Mo_refers.2.1 69 = .ok (.iinc 6 1, 3) := by decide +kernel
theorem d_Mo_refers_72 : decode M_Mo_refers.2.1 72 = .ok (.goto (-47), 3) := by decide +kernel
theorem d_Mo_refers_75 : decode M_Mo_refers.2.1 75 = .ok (.iload_n 3, 1) := by decide +kernel
theorem d_Mo_refers_76 : decode M_Mo_refers.2.1 76 = .ok (.ifCond .ne 8, 3) := by decide +kernel
theorem d_Mo_refers_79 : decode M_Mo_refers.2.1 79 = .ok (.iload 5, 2) := by decide +kernel
theorem d_Mo_refers_81 : decode M_Mo_refers.2.1 81 = .ok (.ifCond .eq 7, 3) := by decide +kernel
theorem d_Mo_refers_84 : decode M_Mo_refers.2.1 84 = .ok (.iconst 1, 1) := by decide +kernel
theorem d_Mo_refers_85 : decode M_Mo_refers.2.1 85 = .ok (.goto 4, 3) := by decide +kernel
theorem d_Mo_refers_88 : decode M_Mo_refers.2.1 88 = .ok (.iconst 0, 1) := by decide +kernel
theorem d_Mo_refers_89 : decode M_Mo_refers.2.1 89 = .ok (.istore_n 3, 1) := by decide +kernel
theorem d_Mo_refers_90 : decode M_Mo_refers.2.1 90 = .ok (.iinc 4 1, 3) := by decide +kernel
theorem d_Mo_refers_93 : decode M_Mo_refers.2.1 93 = .ok (.goto (-88), 3) := by decide +kernel
theorem d_Mo_refers_96 : decode M_Mo_refers.2.1 96 = .ok (.iload_n 3, 1) := by decide +kernel
theorem d_Mo_refers_97 : decode M_Mo_refers.2.1 97 = .ok (.ifCond .eq 17, 3) := by decide +kernel
theorem d_Mo_refers_100 : decode M_Mo_refers.2.1 100 = .ok (.aload_n 0, 1) := by decide +kernel
theorem d_Mo_refers_101 : decode M_Mo_refers.2.1 101 = .ok (.getfield 7, 3) := by decide +kernel
theorem d_Mo_refers_104 : decode M_Mo_refers.2.1 104 = .ok (.iload_n 1, 1) := by decide +kernel
theorem d_Mo_refers_105 : decode M_Mo_refers.2.1 105 = .ok (.iaload, 1) := by decide +kernel
theorem d_Mo_refers_106 : decode M_Mo_refers.2.1 106 = .ok (.iconst 3, 1) := by decide +kernel
theorem d_Mo_refers_107 : decode M_Mo_refers.2.1 107 = .ok (.if_icmp .eq 7, 3) := by decide +kernel
theorem d_Mo_refers_110 : decode M_Mo_refers.2.1 110 = .ok (.iconst 1, 1) := by decide +kernel
theorem d_Mo_refers_111 : decode M_Mo_refers.2.1 111 = .ok (.goto 4, 3) := by decide +kernel
theorem d_Mo_refers_114 : decode M_Mo_refers.2.1 114 = .ok (.iconst 0, 1) := by decide +kernel
theorem d_Mo_refers_115 : decode M_Mo_refers.2.1 115 = .ok (.ireturn, 1) := by decide +kernel
def f_Mo_refers (x0 : Nat) (x1 : Int32) (x2 : Int32) (c : cM) (K : Int32 → cM → Prop) : Prop :=
  ∃ I1 : Nat → Int32 → Int32 → cM → Prop, (∃ n, I1 n 0 0 c) ∧ ∀ (n2 : Nat) (y5 : Int32) (y6 : Int32) (c7 : cM), I1 n2 y5 y6 c7 → (kd x0 = 7 ∧ (kd (rf x0 2) = 100 ∧ (vp_in x1 (ln (rf x0 2)) ∧ ((((c7 (rf x0 2) (Int32.toNatClampNeg x1)) < (y6 + 20)) → (((y5 = 0) → (K 0 c7)) ∧ (¬ (y5 = 0) → (kd (rf x0 1) = 100 ∧ (vp_in x1 (ln (rf x0 1)) ∧ ((((c7 (rf x0 1) (Int32.toNatClampNeg x1)) = 3) → (K 0 c7)) ∧ (¬ ((c7 (rf x0 1) (Int32.toNatClampNeg x1)) = 3) → (K 1 c7)))))))) ∧ (¬ ((c7 (rf x0 2) (Int32.toNatClampNeg x1)) < (y6 + 20)) → (∃ I16 : Nat → Int32 → Int32 → cM → Prop, (∃ n, I16 n 1 0 c7) ∧ ∀ (n17 : Nat) (y20 : Int32) (y21 : Int32) (c22 : cM), I16 n17 y20 y21 c22 → (((20 ≤ y21) → (∃ J27 : Int32 → Prop, (∀ (s26 : Int32), J27 s26 → (∃ m, m < n2 ∧ I1 m s26 (y6 + 1) c22)) ∧ (∃ J30 : Prop, (J30  → (J27 1)) ∧ (((¬ y5 = 0) → (J30)) ∧ (y5 = 0 → (((y20 = 0) → (J27 0)) ∧ (¬ (y20 = 0) → (J30)))))))) ∧ (¬ (20 ≤ y21) → (∃ J41 : Int32 → cM → Prop, (∀ (s39 : Int32) (c40 : cM), J41 s39 c40 → (∃ m, m < n17 ∧ I16 m s39 (y21 + 1) c40)) ∧ (∃ J49 : cM → Prop, (∀ (c48 : cM), J49 c48 → (J41 0 c48)) ∧ (((y20 = 0) → (J49 c22)) ∧ (¬ (y20 = 0) → (kd (rf x0 3) = 100 ∧ (vp_in (((120 * x1) + y6) + y21) (ln (rf x0 3)) ∧ (f_Mo_nameByte x0 x2 y21 c22 (fun v54 c53 => ((¬ (c22 (rf x0 3) (Int32.toNatClampNeg (((120 * x1) + y6) + y21))) = v54) → (J49 c53)) ∧ ((c22 (rf x0 3) (Int32.toNatClampNeg (((120 * x1) + y6) + y21))) = v54 → (J41 1 c53))))))))))))))))))
theorem c_Mo_refers {x0 : Nat} {x1 : Int32} {x2 : Int32} {c : cM} {K : Int32 → cM → Prop} (h : f_Mo_refers x0 x1 x2 c K) : Ct M_Mo_refers 1 0 0 (wd c) [.ref x0, .int x1, .int x2] (PoI K) := by
  refine Ct.of (by decide +kernel) (Nat.le_of_ble_eq_true rfl) (fun Z T => ?_)
  have F := T.F
  unfold f_Mo_refers at h
  show Z (wd c) 0 [(0, .ref x0), (1, .int x1), (2, .int x2)] [] 0 0
  refine g_iconst (v := 0) F (pc := 0) d_Mo_refers_0 (by decide) (g_istore_n (lv' := [(3, .int 0), (0, .ref x0), (1, .int x1), (2, .int x2)]) F (pc := 1) d_Mo_refers_1 (by decide) rfl (g_iconst (v := 0) F (pc := 2) d_Mo_refers_2 (by decide) (g_istore (lv' := [(4, .int 0), (3, .int 0), (0, .ref x0), (1, .int x1), (2, .int x2)]) F (pc := 3) d_Mo_refers_3 (by decide) rfl ?_)))
  refine g_lv (lv' := [(0, .ref x0), (1, .int x1), (2, .int x2), (3, .int 0), (4, .int 0)]) F [2, 3, 4, 1, 0] rfl ?_
  obtain ⟨I1, ⟨n0, h⟩, hI1⟩ := h
  have lp4 : ∀ (n2 : Nat) (y5 : Int32) (y6 : Int32) (c7 : cM), I1 n2 y5 y6 c7 → Z (wd c7) 5 [(0, .ref x0), (1, .int x1), (2, .int x2), (3, .int y5), (4, .int y6)] [] 0 0 := by
    intro n2
    induction n2 using Nat.strongRecOn with
    | _ n2 ih3 =>
      intro y5 y6 c7 h
      replace h := hI1 n2 y5 y6 c7 h
      refine g_iload F (pc := 5) d_Mo_refers_5 4 rfl (g_bipush (v := 20) F (pc := 7) d_Mo_refers_7 (by decide) (g_iadd F (pc := 9) d_Mo_refers_9 (g_aload_n F (pc := 10) d_Mo_refers_10 0 rfl ?_)))
      obtain ⟨o8, h⟩ := h
      refine gc_getR F (pc := 11) d_Mo_refers_11 fi_Mo_13 o8 (g_iload_n F (pc := 14) d_Mo_refers_14 1 rfl ?_)
      obtain ⟨o9, h⟩ := h
      obtain ⟨o10, h⟩ := h
      refine gc_iald F (pc := 15) d_Mo_refers_15 o9 o10 ?_
      refine g_icmp_gt (tgt := 96) F (pc := 16) d_Mo_refers_16 (by decide) (fun b11 => ?_) (fun b11 => ?_)
      · replace h := h.1 b11
        refine g_iload_n F (pc := 96) d_Mo_refers_96 3 rfl ?_
        refine g_if_eq (tgt := 114) F (pc := 97) d_Mo_refers_97 (by decide) (fun b12 => ?_) (fun b12 => ?_)
        · replace h := h.1 b12
          refine g_iconst (v := 0) F (pc := 114) d_Mo_refers_114 (by decide) ?_
          exact g_zret T (pc := 115) d_Mo_refers_115 rfl (by decide) (Nat.le_refl _) (Nat.le_refl _) (poI h)
        · replace h := h.2 b12
          refine g_aload_n F (pc := 100) d_Mo_refers_100 0 rfl (gc_getR F (pc := 101) d_Mo_refers_101 fi_Mo_7 o8 (g_iload_n F (pc := 104) d_Mo_refers_104 1 rfl ?_))
          obtain ⟨o13, h⟩ := h
          obtain ⟨o14, h⟩ := h
          refine gc_iald F (pc := 105) d_Mo_refers_105 o13 o14 (g_iconst (v := 3) F (pc := 106) d_Mo_refers_106 (by decide) ?_)
          refine g_icmp_eq (tgt := 114) F (pc := 107) d_Mo_refers_107 (by decide) (fun b15 => ?_) (fun b15 => ?_)
          · replace h := h.1 b15
            refine g_iconst (v := 0) F (pc := 114) d_Mo_refers_114 (by decide) ?_
            exact g_zret T (pc := 115) d_Mo_refers_115 rfl (by decide) (Nat.le_refl _) (Nat.le_refl _) (poI h)
          · replace h := h.2 b15
            refine g_iconst (v := 1) F (pc := 110) d_Mo_refers_110 (by decide) (g_goto (tgt := 115) F (pc := 111) d_Mo_refers_111 (by decide) ?_)
            exact g_zret T (pc := 115) d_Mo_refers_115 rfl (by decide) (Nat.le_refl _) (Nat.le_refl _) (poI h)
      · replace h := h.2 b11
        refine g_iconst (v := 1) F (pc := 19) d_Mo_refers_19 (by decide) (g_istore (lv' := [(5, .int 1), (0, .ref x0), (1, .int x1), (2, .int x2), (3, .int y5), (4, .int y6)]) F (pc := 20) d_Mo_refers_20 (by decide) rfl (g_iconst (v := 0) F (pc := 22) d_Mo_refers_22 (by decide) (g_istore (lv' := [(6, .int 0), (5, .int 1), (0, .ref x0), (1, .int x1), (2, .int x2), (3, .int y5), (4, .int y6)]) F (pc := 23) d_Mo_refers_23 (by decide) rfl ?_)))
        refine g_lv (lv' := [(0, .ref x0), (1, .int x1), (2, .int x2), (3, .int y5), (4, .int y6), (5, .int 1), (6, .int 0)]) F [2, 3, 4, 5, 6, 1, 0] rfl ?_
        obtain ⟨I16, ⟨n0, h⟩, hI16⟩ := h
        have lp19 : ∀ (n17 : Nat) (y20 : Int32) (y21 : Int32) (c22 : cM), I16 n17 y20 y21 c22 → Z (wd c22) 25 [(0, .ref x0), (1, .int x1), (2, .int x2), (3, .int y5), (4, .int y6), (5, .int y20), (6, .int y21)] [] 0 0 := by
          intro n17
          induction n17 using Nat.strongRecOn with
          | _ n17 ih18 =>
            intro y20 y21 c22 h
            replace h := hI16 n17 y20 y21 c22 h
            refine g_iload F (pc := 25) d_Mo_refers_25 6 rfl (g_bipush (v := 20) F (pc := 27) d_Mo_refers_27 (by decide) ?_)
            refine g_icmp_ge (tgt := 75) F (pc := 29) d_Mo_refers_29 (by decide) (fun b23 => ?_) (fun b23 => ?_)
            · replace h := h.1 b23
              refine g_iload_n F (pc := 75) d_Mo_refers_75 3 rfl ?_
              obtain ⟨J27, hJ27, h⟩ := h
              have jn28 : ∀ (s26 : Int32), J27 s26 → Z (wd c22) 89 [(0, .ref x0), (1, .int x1), (2, .int x2), (4, .int y6)] [.int s26] 0 0 := by
                intro s26 h
                replace h := hJ27 s26 h
                refine g_istore_n (lv' := [(3, .int s26), (0, .ref x0), (1, .int x1), (2, .int x2), (4, .int y6)]) F (pc := 89) d_Mo_refers_89 (by decide) rfl (g_iinc (v := (y6 + 1)) (lv' := [(4, .int (y6 + 1)), (3, .int s26), (0, .ref x0), (1, .int x1), (2, .int x2)]) F (pc := 90) d_Mo_refers_90 4 rfl (sk_inc (by decide)) (by decide) rfl (g_goto (tgt := 5) F (pc := 93) d_Mo_refers_93 (by decide) ?_))
                refine g_lv (lv' := [(0, .ref x0), (1, .int x1), (2, .int x2), (3, .int s26), (4, .int (y6 + 1))]) F [2, 3, 4, 1, 0] rfl ?_
                obtain ⟨m, hm, h⟩ := h
                exact ih3 m hm _ _ _ h
              obtain ⟨J30, hJ30, h⟩ := h
              have jn31 : J30  → Z (wd c22) 84 [(0, .ref x0), (1, .int x1), (2, .int x2), (4, .int y6)] [] 0 0 := by
                intro  h
                replace h := hJ30  h
                refine g_iconst (v := 1) F (pc := 84) d_Mo_refers_84 (by decide) (g_goto (tgt := 89) F (pc := 85) d_Mo_refers_85 (by decide) ?_)
                exact jn28 _ h
              refine g_if_ne (tgt := 84) F (pc := 76) d_Mo_refers_76 (by decide) (fun b24 => ?_) (fun b24 => ?_)
              · replace h := h.1 b24
                refine g_lv (lv' := [(0, .ref x0), (1, .int x1), (2, .int x2), (4, .int y6)]) F [0, 1, 2, 4] rfl ?_
                exact jn31  h
              · replace h := h.2 b24
                refine g_iload F (pc := 79) d_Mo_refers_79 5 rfl ?_
                refine g_if_eq (tgt := 88) F (pc := 81) d_Mo_refers_81 (by decide) (fun b32 => ?_) (fun b32 => ?_)
                · replace h := h.1 b32
                  refine g_iconst (v := 0) F (pc := 88) d_Mo_refers_88 (by decide) ?_
                  refine g_lv (lv' := [(0, .ref x0), (1, .int x1), (2, .int x2), (4, .int y6)]) F [0, 1, 2, 4] rfl ?_
                  exact jn28 _ h
                · replace h := h.2 b32
                  refine g_lv (lv' := [(0, .ref x0), (1, .int x1), (2, .int x2), (4, .int y6)]) F [0, 1, 2, 4] rfl ?_
                  exact jn31  h
            · replace h := h.2 b23
              refine g_iload F (pc := 32) d_Mo_refers_32 5 rfl ?_
              obtain ⟨J41, hJ41, h⟩ := h
              have jn42 : ∀ (s39 : Int32) (c40 : cM), J41 s39 c40 → Z (wd c40) 67 [(0, .ref x0), (1, .int x1), (2, .int x2), (3, .int y5), (4, .int y6), (6, .int y21)] [.int s39] 0 0 := by
                intro s39 c40 h
                replace h := hJ41 s39 c40 h
                refine g_istore (lv' := [(5, .int s39), (0, .ref x0), (1, .int x1), (2, .int x2), (3, .int y5), (4, .int y6), (6, .int y21)]) F (pc := 67) d_Mo_refers_67 (by decide) rfl (g_iinc (v := (y21 + 1)) (lv' := [(6, .int (y21 + 1)), (5, .int s39), (0, .ref x0), (1, .int x1), (2, .int x2), (3, .int y5), (4, .int y6)]) F (pc := 69) d_Mo_refers_69 6 rfl (sk_inc (by decide)) (by decide) rfl (g_goto (tgt := 25) F (pc := 72) d_Mo_refers_72 (by decide) ?_))
                refine g_lv (lv' := [(0, .ref x0), (1, .int x1), (2, .int x2), (3, .int y5), (4, .int y6), (5, .int s39), (6, .int (y21 + 1))]) F [2, 3, 4, 5, 6, 1, 0] rfl ?_
                obtain ⟨m, hm, h⟩ := h
                exact ih18 m hm _ _ _ h
              obtain ⟨J49, hJ49, h⟩ := h
              have jn50 : ∀ (c48 : cM), J49 c48 → Z (wd c48) 66 [(0, .ref x0), (1, .int x1), (2, .int x2), (3, .int y5), (4, .int y6), (6, .int y21)] [] 0 0 := by
                intro c48 h
                replace h := hJ49 c48 h
                refine g_iconst (v := 0) F (pc := 66) d_Mo_refers_66 (by decide) ?_
                exact jn42 _ _ h
              refine g_if_eq (tgt := 66) F (pc := 34) d_Mo_refers_34 (by decide) (fun b33 => ?_) (fun b33 => ?_)
              · replace h := h.1 b33
                refine g_lv (lv' := [(0, .ref x0), (1, .int x1), (2, .int x2), (3, .int y5), (4, .int y6), (6, .int y21)]) F [0, 1, 2, 3, 4, 6] rfl ?_
                exact jn50 _ h
              · replace h := h.2 b33
                refine g_aload_n F (pc := 37) d_Mo_refers_37 0 rfl (gc_getR F (pc := 38) d_Mo_refers_38 fi_Mo_16 o8 (g_bipush (v := 120) F (pc := 41) d_Mo_refers_41 (by decide) (g_iload_n F (pc := 43) d_Mo_refers_43 1 rfl (g_imul F (pc := 44) d_Mo_refers_44 (g_iload F (pc := 45) d_Mo_refers_45 4 rfl ?_)))))
                refine g_iadd F (pc := 47) d_Mo_refers_47 (g_iload F (pc := 48) d_Mo_refers_48 6 rfl (g_iadd F (pc := 50) d_Mo_refers_50 ?_))
                obtain ⟨o51, h⟩ := h
                obtain ⟨o52, h⟩ := h
                refine gc_iald F (pc := 51) d_Mo_refers_51 o51 o52 (g_aload_n F (pc := 52) d_Mo_refers_52 0 rfl (g_iload_n F (pc := 53) d_Mo_refers_53 2 rfl (g_iload F (pc := 54) d_Mo_refers_54 6 rfl ?_)))
                refine gc_callVI (As := [.int x2, .int y21]) (st := [.int (c22 (rf x0 3) (Int32.toNatClampNeg (((120 * x1) + y6) + y21)))]) F (pc := 56) d_Mo_refers_56 cb_Mo_107 iv_Mo_nameByte np_Mo_nameByte o8 vc_7 (c_Mo_nameByte h) rfl (by decide) (Nat.le_refl _) (Nat.le_refl _) (Nat.le_of_ble_eq_true rfl) (fun v54 c53 h => ?_)
                refine g_icmp_ne (tgt := 66) F (pc := 59) d_Mo_refers_59 (by decide) (fun b55 => ?_) (fun b55 => ?_)
                · replace h := h.1 b55
                  refine g_lv (lv' := [(0, .ref x0), (1, .int x1), (2, .int x2), (3, .int y5), (4, .int y6), (6, .int y21)]) F [0, 1, 2, 3, 4, 6] rfl ?_
                  exact jn50 _ h
                · replace h := h.2 b55
                  refine g_iconst (v := 1) F (pc := 62) d_Mo_refers_62 (by decide) (g_goto (tgt := 67) F (pc := 63) d_Mo_refers_63 (by decide) ?_)
                  refine g_lv (lv' := [(0, .ref x0), (1, .int x1), (2, .int x2), (3, .int y5), (4, .int y6), (6, .int y21)]) F [0, 1, 2, 3, 4, 6] rfl ?_
                  exact jn42 _ _ h
        exact lp19 n0 _ _ _ h
  exact lp4 n0 _ _ _ h
theorem d_Mo_spread_0 : decode M_Mo_spread.2.1 0 = .ok (.iconst 0, 1) := by decide +kernel
theorem d_Mo_spread_1 : decode M_Mo_spread.2.1 1 = .ok (.istore_n 1, 1) := by decide +kernel
theorem d_Mo_spread_2 : decode M_Mo_spread.2.1 2 = .ok (.iload_n 1, 1) := by decide +kernel
theorem d_Mo_spread_3 : decode M_Mo_spread.2.1 3 = .ok (.bipush 16, 2) := by decide +kernel
theorem d_Mo_spread_5 : decode M_Mo_spread.2.1 5 = .ok (.if_icmp .ge 16, 3) := by decide +kernel
theorem d_Mo_spread_8 : decode M_Mo_spread.2.1 8 = .ok (.aload_n 0, 1) := by decide +kernel
theorem d_Mo_spread_9 : decode M_Mo_spread.2.1 9 = .ok (.getfield 22, 3) := by decide +kernel
theorem d_Mo_spread_12 : decode M_Mo_spread.2.1 12 = .ok (.iload_n 1, 1) := by decide +kernel
theorem d_Mo_spread_13 : decode M_Mo_spread.2.1 13 = .ok (.iconst 0, 1) := by decide +kernel
theorem d_Mo_spread_14 : decode M_Mo_spread.2.1 14 = .ok (.bastore, 1) := by decide +kernel
theorem d_Mo_spread_15 : decode M_Mo_spread.2.1 15 = .ok (.iinc 1 1, 3) := by decide +kernel
theorem d_Mo_spread_18 : decode M_Mo_spread.2.1 18 = .ok (.goto (-16), 3) := by decide +kernel
theorem d_Mo_spread_21 : decode M_Mo_spread.2.1 21 = .ok (.iconst 0, 1) := by decide +kernel
theorem d_Mo_spread_22 : decode M_Mo_spread.2.1 22 = .ok (.istore_n 1, 1) := by decide +kernel
theorem d_Mo_spread_23 : decode M_Mo_spread.2.1 23 = .ok (.iload_n 1, 1) := by decide +kernel
theorem d_Mo_spread_24 : decode M_Mo_spread.2.1 24 = .ok (.iconst 4, 1) := by decide +kernel
theorem d_Mo_spread_25 : decode M_Mo_spread.2.1 25 = .ok (.if_icmp .ge 30, 3) := by decide +kernel
theorem d_Mo_spread_28 : decode M_Mo_spread.2.1 28 = .ok (.aload_n 0, 1) := by decide +kernel
theorem d_Mo_spread_29 : decode M_Mo_spread.2.1 29 = .ok (.getfield 38, 3) := by decide +kernel
theorem d_Mo_spread_32 : decode M_Mo_spread.2.1 32 = .ok (.iload_n 1, 1) := by decide +kernel
theorem d_Mo_spread_33 : decode M_Mo_spread.2.1 33 = .ok (.iaload, 1) := by decide +kernel
theorem d_Mo_spread_34 : decode M_Mo_spread.2.1 34 = .ok (.ifCond .lt 15, 3) := by decide +kernel
theorem d_Mo_spread_37 : decode M_Mo_spread.2.1 37 = .ok (.aload_n 0, 1) := by decide +kernel
theorem d_Mo_spread_38 : decode M_Mo_spread.2.1 38 = .ok (.getfield 22, 3) := by decide +kernel
theorem d_Mo_spread_41 : decode M_Mo_spread.2.1 41 = .ok (.aload_n 0, 1) := by decide +kernel
theorem d_Mo_spread_42 : decode M_Mo_spread.2.1 42 = .ok (.getfield 38, 3) := by decide +kernel
theorem d_Mo_spread_45 : decode M_Mo_spread.2.1 45 = .ok (.iload_n 1, 1) := by decide +kernel
theorem d_Mo_spread_46 : decode M_Mo_spread.2.1 46 = .ok (.iaload, 1) := by decide +kernel
theorem d_Mo_spread_47 : decode M_Mo_spread.2.1 47 = .ok (.iconst 1, 1) := by decide +kernel
theorem d_Mo_spread_48 : decode M_Mo_spread.2.1 48 = .ok (.bastore, 1) := by decide +kernel
theorem d_Mo_spread_49 : decode M_Mo_spread.2.1 49 = .ok (.iinc 1 1, 3) := by decide +kernel
theorem d_Mo_spread_52 : decode M_Mo_spread.2.1 52 = .ok (.goto (-29), 3) := by decide +kernel
theorem d_Mo_spread_55 : decode M_Mo_spread.2.1 55 = .ok (.iconst 1, 1) := by decide +kernel
theorem d_Mo_spread_56 : decode M_Mo_spread.2.1 56 = .ok (.istore_n 1, 1) := by decide +kernel
theorem d_Mo_spread_57 : decode M_Mo_spread.2.1 57 = .ok (.iload_n 1, 1) := by decide +kernel
theorem d_Mo_spread_58 : decode M_Mo_spread.2.1 58 = .ok (.ifCond .eq 76, 3) := by decide +kernel
theorem d_Mo_spread_61 : decode M_Mo_spread.2.1 61 = .ok (.iconst 0, 1) := by decide +kernel
theorem d_Mo_spread_62 : decode M_Mo_spread.2.1 62 = .ok (.istore_n 1, 1) := by decide +kernel
theorem d_Mo_spread_63 : decode M_Mo_spread.2.1 63 = .ok (.iconst 0, 1) := by decide +kernel
theorem d_Mo_spread_64 : decode M_Mo_spread.2.1 64 = .ok (.istore_n 2, 1) := by decide +kernel
theorem d_Mo_spread_65 : decode M_Mo_spread.2.1 65 = .ok (.iload_n 2, 1) := by decide +kernel
theorem d_Mo_spread_66 : decode M_Mo_spread.2.1 66 = .ok (.aload_n 0, 1) := by decide +kernel
theorem d_Mo_spread_67 : decode M_Mo_spread.2.1 67 = .ok (.getfield 93, 3) := by decide +kernel
theorem d_Mo_spread_70 : decode M_Mo_spread.2.1 70 = .ok (.if_icmp .ge 61, 3) := by decide +kernel
theorem d_Mo_spread_73 : decode M_Mo_spread.2.1 73 = .ok (.iconst 0, 1) := by decide +kernel
theorem d_Mo_spread_74 : decode M_Mo_spread.2.1 74 = .ok (.istore_n 3, 1) := by decide +kernel
theorem d_Mo_spread_75 : decode M_Mo_spread.2.1 75 = .ok (.iload_n 3, 1) := by decide +kernel
theorem d_Mo_spread_76 : decode M_Mo_spread.2.1 76 = .ok (.aload_n 0, 1) := by decide +kernel
theorem d_Mo_spread_77 : decode M_Mo_spread.2.1 77 = .ok (.getfield 93, 3) := by decide +kernel
theorem d_Mo_spread_80 : decode M_Mo_spread.2.1 80 = .ok (.if_icmp .ge 45, 3) := by decide +kernel
theorem d_Mo_spread_83 : decode M_Mo_spread.2.1 83 = .ok (.aload_n 0, 1) := by decide +kernel
theorem d_Mo_spread_84 : decode M_Mo_spread.2.1 84 = .ok (.getfield 22, 3) := by decide +kernel
theorem d_Mo_spread_87 : decode M_Mo_spread.2.1 87 = .ok (.iload_n 2, 1) := by decide +kernel
theorem d_Mo_spread_88 : decode M_Mo_spread.2.1 88 = .ok (.baload, 1) := by decide +kernel
theorem d_Mo_spread_89 : decode M_Mo_spread.2.1 89 = .ok (.ifCond .eq 36, 3) := by decide +kernel
theorem d_Mo_spread_92 : decode M_Mo_spread.2.1 92 = .ok (.aload_n 0, 1) := by decide +kernel
theorem d_Mo_spread_93 : decode M_Mo_spread.2.1 93 = .ok (.getfield 22, 3) := by decide +kernel
theorem d_Mo_spread_96 : decode M_Mo_spread.2.1 96 = .ok (.iload_n 3, 1) := by decide +kernel
theorem d_Mo_spread_97 : decode M_Mo_spread.2.1 97 = .ok (.baload, 1) := by decide +kernel
theorem d_Mo_spread_98 : decode M_Mo_spread.2.1 98 = .ok (.ifCond .ne 21, 3) := by decide +kernel
theorem d_Mo_spread_101 : decode M_Mo_spread.2.1 101 = .ok (.aload_n 0, 1) := by decide +kernel
theorem d_Mo_spread_102 : decode M_Mo_spread.2.1 102 = .ok (.iload_n 2, 1) := by decide +kernel
theorem d_Mo_spread_103 : decode M_Mo_spread.2.1 103 = .ok (.iload_n 3, 1) := by decide +kernel
theorem d_Mo_spread_104 : decode M_Mo_spread.2.1 104 = .ok (.invokevirtual 142, 3) := by decide +kernel
theorem d_Mo_spread_107 : decode M_Mo_spread.2.1 107 = .ok (.ifCond .eq 12, 3) := by decide +kernel
theorem d_Mo_spread_110 : decode M_Mo_spread.2.1 110 = .ok (.aload_n 0, 1) := by decide +kernel
theorem d_Mo_spread_111 : decode M_Mo_spread.2.1 111 = .ok (.getfield 22, 3) := by decide +kernel
theorem d_Mo_spread_114 : decode M_Mo_spread.2.1 114 = .ok (.iload_n 3, 1) := by decide +kernel
theorem d_Mo_spread_115 : decode M_Mo_spread.2.1 115 = .ok (.iconst 1, 1) := by decide +kernel
theorem d_Mo_spread_116 : decode M_Mo_spread.2.1 116 = .ok (.bastore, 1) := by decide +kernel
theorem d_Mo_spread_117 : decode M_Mo_spread.2.1 117 = .ok (.iconst 1, 1) := by decide +kernel
theorem d_Mo_spread_118 : decode M_Mo_spread.2.1 118 = .ok (.istore_n 1, 1) := by decide +kernel
theorem d_Mo_spread_119 : decode M_Mo_spread.2.1 119 = .ok (.iinc 3 1, 3) := by decide +kernel
theorem d_Mo_spread_122 : decode M_Mo_spread.2.1 122 = .ok (.goto (-47), 3) := by decide +kernel
theorem d_Mo_spread_125 : decode M_Mo_spread.2.1 125 = .ok (.iinc 2 1, 3) := by decide +kernel
theorem d_Mo_spread_128 : decode M_Mo_spread.2.1 128 = .ok (.goto (-63), 3) := by decide +kernel
theorem d_Mo_spread_131 : decode M_Mo_spread.2.1 131 = .ok (.goto (-74), 3) := by decide +kernel
theorem d_Mo_spread_134 : decode M_Mo_spread.2.1 134 = .ok (.return_, 1) := by decide +kernel
def f_Mo_spread (x0 : Nat) (c : cM) (K : cM → Prop) : Prop :=
  ∃ I1 : Nat → Int32 → cM → Prop, (∃ n, I1 n 0 c) ∧ ∀ (n2 : Nat) (y5 : Int32) (c6 : cM), I1 n2 y5 c6 → (((16 ≤ y5) → (∃ I8 : Nat → Int32 → cM → Prop, (∃ n, I8 n 0 c6) ∧ ∀ (n9 : Nat) (y12 : Int32) (c13 : cM), I8 n9 y12 c13 → (((4 ≤ y12) → (∃ I15 : Nat → Int32 → cM → Prop, (∃ n, I15 n 1 c13) ∧ ∀ (n16 : Nat) (y19 : Int32) (c20 : cM), I15 n16 y19 c20 → (((y19 = 0) → (K c20)) ∧ (¬ (y19 = 0) → (∃ I22 : Nat → Int32 → Int32 → cM → Prop, (∃ n, I22 n 0 0 c20) ∧ ∀ (n23 : Nat) (y26 : Int32) (y27 : Int32) (c28 : cM), I22 n23 y26 y27 c28 → (kd x0 = 7 ∧ ((((c28 x0 0) ≤ y27) → (∃ m, m < n16 ∧ I15 m y26 c28)) ∧ (¬ ((c28 x0 0) ≤ y27) → (∃ I31 : Nat → Int32 → Int32 → cM → Prop, (∃ n, I31 n y26 0 c28) ∧ ∀ (n32 : Nat) (y35 : Int32) (y36 : Int32) (c37 : cM), I31 n32 y35 y36 c37 → (∃ J48 : Prop, (J48  → (∃ m, m < n23 ∧ I22 m y35 (y27 + 1) c37)) ∧ ((((c37 x0 0) ≤ y36) → (J48)) ∧ (¬ ((c37 x0 0) ≤ y36) → (kd (rf x0 5) = 101 ∧ (vp_in y27 (ln (rf x0 5)) ∧ ((((c37 (rf x0 5) (Int32.toNatClampNeg y27)) = 0) → (J48)) ∧ (¬ ((c37 (rf x0 5) (Int32.toNatClampNeg y27)) = 0) → (vp_in y36 (ln (rf x0 5)) ∧ (∃ J61 : Int32 → cM → Prop, (∀ (y59 : Int32) (c60 : cM), J61 y59 c60 → (∃ m, m < n32 ∧ I31 m y59 (y36 + 1) c60)) ∧ (((¬ (c37 (rf x0 5) (Int32.toNatClampNeg y36)) = 0) → (J61 y35 c37)) ∧ ((c37 (rf x0 5) (Int32.toNatClampNeg y36)) = 0 → (f_Mo_refers x0 y27 y36 c37 (fun v64 c63 => ((v64 = 0) → (J61 y35 c63)) ∧ (¬ (v64 = 0) → (∀ c66 : cM, c66 = c_up c63 (rf x0 5) (Int32.toNatClampNeg y36) 1 → (J61 1 c66))))))))))))))))))))))))) ∧ (¬ (4 ≤ y12) → (kd x0 = 7 ∧ (kd (rf x0 12) = 100 ∧ (vp_in y12 (ln (rf x0 12)) ∧ (∃ J75 : cM → Prop, (∀ (c74 : cM), J75 c74 → (∃ m, m < n9 ∧ I8 m (y12 + 1) c74)) ∧ ((((c13 (rf x0 12) (Int32.toNatClampNeg y12)) < 0) → (J75 c13)) ∧ (¬ ((c13 (rf x0 12) (Int32.toNatClampNeg y12)) < 0) → (kd (rf x0 5) = 101 ∧ (vp_in (c13 (rf x0 12) (Int32.toNatClampNeg y12)) (ln (rf x0 5)) ∧ (∀ c79 : cM, c79 = c_up c13 (rf x0 5) (Int32.toNatClampNeg (c13 (rf x0 12) (Int32.toNatClampNeg y12))) 1 → (J75 c79)))))))))))))) ∧ (¬ (16 ≤ y5) → (kd x0 = 7 ∧ (kd (rf x0 5) = 101 ∧ (vp_in y5 (ln (rf x0 5)) ∧ (∀ c83 : cM, c83 = c_up c6 (rf x0 5) (Int32.toNatClampNeg y5) 0 → (∃ m, m < n2 ∧ I1 m (y5 + 1) c83)))))))
theorem c_Mo_spread {x0 : Nat} {c : cM} {K : cM → Prop} (h : f_Mo_spread x0 c K) : Ct M_Mo_spread 2 0 0 (wd c) [.ref x0] (PoV K) := by
  refine Ct.of (by decide +kernel) (Nat.le_of_ble_eq_true rfl) (fun Z T => ?_)
  have F := T.F
  unfold f_Mo_spread at h
  show Z (wd c) 0 [(0, .ref x0)] [] 0 0
  refine g_iconst (v := 0) F (pc := 0) d_Mo_spread_0 (by decide) (g_istore_n (lv' := [(1, .int 0), (0, .ref x0)]) F (pc := 1) d_Mo_spread_1 (by decide) rfl ?_)
  refine g_lv (lv' := [(0, .ref x0), (1, .int 0)]) F [1, 0] rfl ?_
  obtain ⟨I1, ⟨n0, h⟩, hI1⟩ := h
  have lp4 : ∀ (n2 : Nat) (y5 : Int32) (c6 : cM), I1 n2 y5 c6 → Z (wd c6) 2 [(0, .ref x0), (1, .int y5)] [] 0 0 := by
    intro n2
    induction n2 using Nat.strongRecOn with
    | _ n2 ih3 =>
      intro y5 c6 h
      replace h := hI1 n2 y5 c6 h
      refine g_iload_n F (pc := 2) d_Mo_spread_2 1 rfl (g_bipush (v := 16) F (pc := 3) d_Mo_spread_3 (by decide) ?_)
      refine g_icmp_ge (tgt := 21) F (pc := 5) d_Mo_spread_5 (by decide) (fun b7 => ?_) (fun b7 => ?_)
      · replace h := h.1 b7
        refine g_iconst (v := 0) F (pc := 21) d_Mo_spread_21 (by decide) (g_istore_n (lv' := [(1, .int 0), (0, .ref x0)]) F (pc := 22) d_Mo_spread_22 (by decide) rfl ?_)
        refine g_lv (lv' := [(0, .ref x0), (1, .int 0)]) F [1, 0] rfl ?_
        obtain ⟨I8, ⟨n0, h⟩, hI8⟩ := h
        have lp11 : ∀ (n9 : Nat) (y12 : Int32) (c13 : cM), I8 n9 y12 c13 → Z (wd c13) 23 [(0, .ref x0), (1, .int y12)] [] 0 0 := by
          intro n9
          induction n9 using Nat.strongRecOn with
          | _ n9 ih10 =>
            intro y12 c13 h
            replace h := hI8 n9 y12 c13 h
            refine g_iload_n F (pc := 23) d_Mo_spread_23 1 rfl (g_iconst (v := 4) F (pc := 24) d_Mo_spread_24 (by decide) ?_)
            refine g_icmp_ge (tgt := 55) F (pc := 25) d_Mo_spread_25 (by decide) (fun b14 => ?_) (fun b14 => ?_)
            · replace h := h.1 b14
              refine g_iconst (v := 1) F (pc := 55) d_Mo_spread_55 (by decide) (g_istore_n (lv' := [(1, .int 1), (0, .ref x0)]) F (pc := 56) d_Mo_spread_56 (by decide) rfl ?_)
              refine g_lv (lv' := [(0, .ref x0), (1, .int 1)]) F [1, 0] rfl ?_
              obtain ⟨I15, ⟨n0, h⟩, hI15⟩ := h
              have lp18 : ∀ (n16 : Nat) (y19 : Int32) (c20 : cM), I15 n16 y19 c20 → Z (wd c20) 57 [(0, .ref x0), (1, .int y19)] [] 0 0 := by
                intro n16
                induction n16 using Nat.strongRecOn with
                | _ n16 ih17 =>
                  intro y19 c20 h
                  replace h := hI15 n16 y19 c20 h
                  refine g_iload_n F (pc := 57) d_Mo_spread_57 1 rfl ?_
                  refine g_if_eq (tgt := 134) F (pc := 58) d_Mo_spread_58 (by decide) (fun b21 => ?_) (fun b21 => ?_)
                  · replace h := h.1 b21
                    exact g_vret T (pc := 134) d_Mo_spread_134 rfl (Nat.le_refl _) (Nat.le_refl _) (poV h)
                  · replace h := h.2 b21
                    refine g_iconst (v := 0) F (pc := 61) d_Mo_spread_61 (by decide) (g_istore_n (lv' := [(1, .int 0), (0, .ref x0)]) F (pc := 62) d_Mo_spread_62 (by decide) rfl (g_iconst (v := 0) F (pc := 63) d_Mo_spread_63 (by decide) (g_istore_n (lv' := [(2, .int 0), (1, .int 0), (0, .ref x0)]) F (pc := 64) d_Mo_spread_64 (by decide) rfl ?_)))
                    refine g_lv (lv' := [(0, .ref x0), (1, .int 0), (2, .int 0)]) F [2, 1, 0] rfl ?_
                    obtain ⟨I22, ⟨n0, h⟩, hI22⟩ := h
                    have lp25 : ∀ (n23 : Nat) (y26 : Int32) (y27 : Int32) (c28 : cM), I22 n23 y26 y27 c28 → Z (wd c28) 65 [(0, .ref x0), (1, .int y26), (2, .int y27)] [] 0 0 := by
                      intro n23
                      induction n23 using Nat.strongRecOn with
                      | _ n23 ih24 =>
                        intro y26 y27 c28 h
                        replace h := hI22 n23 y26 y27 c28 h
                        refine g_iload_n F (pc := 65) d_Mo_spread_65 2 rfl (g_aload_n F (pc := 66) d_Mo_spread_66 0 rfl ?_)
                        obtain ⟨o29, h⟩ := h
                        refine gc_getI F (pc := 67) d_Mo_spread_67 fi_Mo_93 o29 ?_
                        refine g_icmp_ge (tgt := 131) F (pc := 70) d_Mo_spread_70 (by decide) (fun b30 => ?_) (fun b30 => ?_)
                        · replace h := h.1 b30
                          refine g_goto (tgt := 57) F (pc := 131) d_Mo_spread_131 (by decide) ?_
                          refine g_lv (lv' := [(0, .ref x0), (1, .int y26)]) F [0, 1] rfl ?_
                          obtain ⟨m, hm, h⟩ := h
                          exact ih17 m hm _ _ h
                        · replace h := h.2 b30
                          refine g_iconst (v := 0) F (pc := 73) d_Mo_spread_73 (by decide) (g_istore_n (lv' := [(3, .int 0), (0, .ref x0), (1, .int y26), (2, .int y27)]) F (pc := 74) d_Mo_spread_74 (by decide) rfl ?_)
                          refine g_lv (lv' := [(0, .ref x0), (1, .int y26), (2, .int y27), (3, .int 0)]) F [1, 2, 3, 0] rfl ?_
                          obtain ⟨I31, ⟨n0, h⟩, hI31⟩ := h
                          have lp34 : ∀ (n32 : Nat) (y35 : Int32) (y36 : Int32) (c37 : cM), I31 n32 y35 y36 c37 → Z (wd c37) 75 [(0, .ref x0), (1, .int y35), (2, .int y27), (3, .int y36)] [] 0 0 := by
                            intro n32
                            induction n32 using Nat.strongRecOn with
                            | _ n32 ih33 =>
                              intro y35 y36 c37 h
                              replace h := hI31 n32 y35 y36 c37 h
                              refine g_iload_n F (pc := 75) d_Mo_spread_75 3 rfl (g_aload_n F (pc := 76) d_Mo_spread_76 0 rfl (gc_getI F (pc := 77) d_Mo_spread_77 fi_Mo_93 o29 ?_))
                              obtain ⟨J48, hJ48, h⟩ := h
                              have jn49 : J48  → Z (wd c37) 125 [(0, .ref x0), (1, .int y35), (2, .int y27)] [] 0 0 := by
                                intro  h
                                replace h := hJ48  h
                                refine g_iinc (v := (y27 + 1)) (lv' := [(2, .int (y27 + 1)), (0, .ref x0), (1, .int y35)]) F (pc := 125) d_Mo_spread_125 2 rfl (sk_inc (by decide)) (by decide) rfl (g_goto (tgt := 65) F (pc := 128) d_Mo_spread_128 (by decide) ?_)
                                refine g_lv (lv' := [(0, .ref x0), (1, .int y35), (2, .int (y27 + 1))]) F [1, 2, 0] rfl ?_
                                obtain ⟨m, hm, h⟩ := h
                                exact ih24 m hm _ _ _ h
                              refine g_icmp_ge (tgt := 125) F (pc := 80) d_Mo_spread_80 (by decide) (fun b38 => ?_) (fun b38 => ?_)
                              · replace h := h.1 b38
                                refine g_lv (lv' := [(0, .ref x0), (1, .int y35), (2, .int y27)]) F [0, 1, 2] rfl ?_
                                exact jn49  h
                              · replace h := h.2 b38
                                refine g_aload_n F (pc := 83) d_Mo_spread_83 0 rfl (gc_getR F (pc := 84) d_Mo_spread_84 fi_Mo_22 o29 (g_iload_n F (pc := 87) d_Mo_spread_87 2 rfl ?_))
                                obtain ⟨o50, h⟩ := h
                                obtain ⟨o51, h⟩ := h
                                refine gc_zald F (pc := 88) d_Mo_spread_88 o50 o51 ?_
                                refine g_if_eq (tgt := 125) F (pc := 89) d_Mo_spread_89 (by decide) (fun b52 => ?_) (fun b52 => ?_)
                                · replace h := h.1 b52
                                  refine g_lv (lv' := [(0, .ref x0), (1, .int y35), (2, .int y27)]) F [0, 1, 2] rfl ?_
                                  exact jn49  h
                                · replace h := h.2 b52
                                  refine g_aload_n F (pc := 92) d_Mo_spread_92 0 rfl (gc_getR F (pc := 93) d_Mo_spread_93 fi_Mo_22 o29 (g_iload_n F (pc := 96) d_Mo_spread_96 3 rfl ?_))
                                  obtain ⟨o53, h⟩ := h
                                  refine gc_zald F (pc := 97) d_Mo_spread_97 o50 o53 ?_
                                  obtain ⟨J61, hJ61, h⟩ := h
                                  have jn62 : ∀ (y59 : Int32) (c60 : cM), J61 y59 c60 → Z (wd c60) 119 [(0, .ref x0), (1, .int y59), (2, .int y27), (3, .int y36)] [] 0 0 := by
                                    intro y59 c60 h
                                    replace h := hJ61 y59 c60 h
                                    refine g_iinc (v := (y36 + 1)) (lv' := [(3, .int (y36 + 1)), (0, .ref x0), (1, .int y59), (2, .int y27)]) F (pc := 119) d_Mo_spread_119 3 rfl (sk_inc (by decide)) (by decide) rfl (g_goto (tgt := 75) F (pc := 122) d_Mo_spread_122 (by decide) ?_)
                                    refine g_lv (lv' := [(0, .ref x0), (1, .int y59), (2, .int y27), (3, .int (y36 + 1))]) F [1, 2, 3, 0] rfl ?_
                                    obtain ⟨m, hm, h⟩ := h
                                    exact ih33 m hm _ _ _ h
                                  refine g_if_ne (tgt := 119) F (pc := 98) d_Mo_spread_98 (by decide) (fun b54 => ?_) (fun b54 => ?_)
                                  · replace h := h.1 b54
                                    exact jn62 _ _ h
                                  · replace h := h.2 b54
                                    refine g_aload_n F (pc := 101) d_Mo_spread_101 0 rfl (g_iload_n F (pc := 102) d_Mo_spread_102 2 rfl (g_iload_n F (pc := 103) d_Mo_spread_103 3 rfl ?_))
                                    refine gc_callVI (As := [.int y27, .int y36]) (st := []) F (pc := 104) d_Mo_spread_104 cb_Mo_142 iv_Mo_refers np_Mo_refers o29 vc_7 (c_Mo_refers h) rfl (by decide) (Nat.le_refl _) (Nat.le_refl _) (Nat.le_of_ble_eq_true rfl) (fun v64 c63 h => ?_)
                                    refine g_if_eq (tgt := 119) F (pc := 107) d_Mo_spread_107 (by decide) (fun b65 => ?_) (fun b65 => ?_)
                                    · replace h := h.1 b65
                                      exact jn62 _ _ h
                                    · replace h := h.2 b65
                                      refine g_aload_n F (pc := 110) d_Mo_spread_110 0 rfl (gc_getR F (pc := 111) d_Mo_spread_111 fi_Mo_22 o29 (g_iload_n F (pc := 114) d_Mo_spread_114 3 rfl (g_iconst (v := 1) F (pc := 115) d_Mo_spread_115 (by decide) (gc_zast F (pc := 116) d_Mo_spread_116 o50 o53 (Or.inr rfl) ?_))))
                                      obtain ⟨c66, ec66⟩ : ∃ c66 : cM, c66 = c_up c63 (rf x0 5) (Int32.toNatClampNeg y36) 1 := ⟨_, rfl⟩
                                      rw [← ec66]
                                      replace h := h c66 ec66
                                      refine g_iconst (v := 1) F (pc := 117) d_Mo_spread_117 (by decide) (g_istore_n (lv' := [(1, .int 1), (0, .ref x0), (2, .int y27), (3, .int y36)]) F (pc := 118) d_Mo_spread_118 (by decide) rfl ?_)
                                      refine g_lv (lv' := [(0, .ref x0), (1, .int 1), (2, .int y27), (3, .int y36)]) F [1, 0, 2, 3] rfl ?_
                                      exact jn62 _ _ h
                          exact lp34 n0 _ _ _ h
                    exact lp25 n0 _ _ _ h
              exact lp18 n0 _ _ h
            · replace h := h.2 b14
              refine g_aload_n F (pc := 28) d_Mo_spread_28 0 rfl ?_
              obtain ⟨o67, h⟩ := h
              refine gc_getR F (pc := 29) d_Mo_spread_29 fi_Mo_38 o67 (g_iload_n F (pc := 32) d_Mo_spread_32 1 rfl ?_)
              obtain ⟨o68, h⟩ := h
              obtain ⟨o69, h⟩ := h
              refine gc_iald F (pc := 33) d_Mo_spread_33 o68 o69 ?_
              obtain ⟨J75, hJ75, h⟩ := h
              have jn76 : ∀ (c74 : cM), J75 c74 → Z (wd c74) 49 [(0, .ref x0), (1, .int y12)] [] 0 0 := by
                intro c74 h
                replace h := hJ75 c74 h
                refine g_iinc (v := (y12 + 1)) (lv' := [(1, .int (y12 + 1)), (0, .ref x0)]) F (pc := 49) d_Mo_spread_49 1 rfl (sk_inc (by decide)) (by decide) rfl (g_goto (tgt := 23) F (pc := 52) d_Mo_spread_52 (by decide) ?_)
                refine g_lv (lv' := [(0, .ref x0), (1, .int (y12 + 1))]) F [1, 0] rfl ?_
                obtain ⟨m, hm, h⟩ := h
                exact ih10 m hm _ _ h
              refine g_if_lt (tgt := 49) F (pc := 34) d_Mo_spread_34 (by decide) (fun b70 => ?_) (fun b70 => ?_)
              · replace h := h.1 b70
                exact jn76 _ h
              · replace h := h.2 b70
                refine g_aload_n F (pc := 37) d_Mo_spread_37 0 rfl (gc_getR F (pc := 38) d_Mo_spread_38 fi_Mo_22 o67 (g_aload_n F (pc := 41) d_Mo_spread_41 0 rfl (gc_getR F (pc := 42) d_Mo_spread_42 fi_Mo_38 o67 (g_iload_n F (pc := 45) d_Mo_spread_45 1 rfl (gc_iald F (pc := 46) d_Mo_spread_46 o68 o69 ?_)))))
                refine g_iconst (v := 1) F (pc := 47) d_Mo_spread_47 (by decide) ?_
                obtain ⟨o77, h⟩ := h
                obtain ⟨o78, h⟩ := h
                refine gc_zast F (pc := 48) d_Mo_spread_48 o77 o78 (Or.inr rfl) ?_
                obtain ⟨c79, ec79⟩ : ∃ c79 : cM, c79 = c_up c13 (rf x0 5) (Int32.toNatClampNeg (c13 (rf x0 12) (Int32.toNatClampNeg y12))) 1 := ⟨_, rfl⟩
                rw [← ec79]
                replace h := h c79 ec79
                exact jn76 _ h
        exact lp11 n0 _ _ h
      · replace h := h.2 b7
        refine g_aload_n F (pc := 8) d_Mo_spread_8 0 rfl ?_
        obtain ⟨o80, h⟩ := h
        refine gc_getR F (pc := 9) d_Mo_spread_9 fi_Mo_22 o80 (g_iload_n F (pc := 12) d_Mo_spread_12 1 rfl (g_iconst (v := 0) F (pc := 13) d_Mo_spread_13 (by decide) ?_))
        obtain ⟨o81, h⟩ := h
        obtain ⟨o82, h⟩ := h
        refine gc_zast F (pc := 14) d_Mo_spread_14 o81 o82 (Or.inl rfl) ?_
        obtain ⟨c83, ec83⟩ : ∃ c83 : cM, c83 = c_up c6 (rf x0 5) (Int32.toNatClampNeg y5) 0 := ⟨_, rfl⟩
        rw [← ec83]
        replace h := h c83 ec83
        refine g_iinc (v := (y5 + 1)) (lv' := [(1, .int (y5 + 1)), (0, .ref x0)]) F (pc := 15) d_Mo_spread_15 1 rfl (sk_inc (by decide)) (by decide) rfl (g_goto (tgt := 2) F (pc := 18) d_Mo_spread_18 (by decide) ?_)
        refine g_lv (lv' := [(0, .ref x0), (1, .int (y5 + 1))]) F [1, 0] rfl ?_
        obtain ⟨m, hm, h⟩ := h
        exact ih3 m hm _ _ h
  exact lp4 n0 _ _ h
theorem d_Mo_sweep_0 : decode M_Mo_sweep.2.1 0 = .ok (.aload_n 0, 1) := by decide +kernel
theorem d_Mo_sweep_1 : decode M_Mo_sweep.2.1 1 = .ok (.invokevirtual 145, 3) := by decide +kernel
theorem d_Mo_sweep_4 : decode M_Mo_sweep.2.1 4 = .ok (.iconst 0, 1) := by decide +kernel
theorem d_Mo_sweep_5 : decode M_Mo_sweep.2.1 5 = .ok (.istore_n 1, 1) := by decide +kernel
theorem d_Mo_sweep_6 : decode M_Mo_sweep.2.1 6 = .ok (.iconst 0, 1) := by decide +kernel
theorem d_Mo_sweep_7 : decode M_Mo_sweep.2.1 7 = .ok (.istore_n 2, 1) := by decide +kernel
theorem d_Mo_sweep_8 : decode M_Mo_sweep.2.1 8 = .ok (.iload_n 2, 1) := by decide +kernel
theorem d_Mo_sweep_9 : decode M_Mo_sweep.2.1 9 = .ok (.aload_n 0, 1) := by decide +kernel
theorem d_Mo_sweep_10 : decode M_Mo_sweep.2.1 10 = .ok (.getfield 93, 3) := by decide +kernel
theorem d_Mo_sweep_13 : decode M_Mo_sweep.2.1 13 = .ok (.if_icmp .ge 34, 3) := by decide +kernel
theorem d_Mo_sweep_16 : decode M_Mo_sweep.2.1 16 = .ok (.aload_n 0, 1) := by decide +kernel
theorem d_Mo_sweep_17 : decode M_Mo_sweep.2.1 17 = .ok (.getfield 22, 3) := by decide +kernel
theorem d_Mo_sweep_20 : decode M_Mo_sweep.2.1 20 = .ok (.iload_n 2, 1) := by decide +kernel
theorem d_Mo_sweep_21 : decode M_Mo_sweep.2.1 21 = .ok (.baload, 1) := by decide +kernel
theorem d_Mo_sweep_22 : decode M_Mo_sweep.2.1 22 = .ok (.ifCond .eq 19, 3) := by decide +kernel
theorem d_Mo_sweep_25 : decode M_Mo_sweep.2.1 25 = .ok (.aload_n 0, 1) := by decide +kernel
theorem d_Mo_sweep_26 : decode M_Mo_sweep.2.1 26 = .ok (.getfield 26, 3) := by decide +kernel
theorem d_Mo_sweep_29 : decode M_Mo_sweep.2.1 29 = .ok (.iload_n 2, 1) := by decide +kernel
theorem d_Mo_sweep_30 : decode M_Mo_sweep.2.1 30 = .ok (.iload_n 1, 1) := by decide +kernel
theorem d_Mo_sweep_31 : decode M_Mo_sweep.2.1 31 = .ok (.iastore, 1) := by decide +kernel
theorem d_Mo_sweep_32 : decode M_Mo_sweep.2.1 32 = .ok (.aload_n 0, 1) := by decide +kernel
theorem d_Mo_sweep_33 : decode M_Mo_sweep.2.1 33 = .ok (.iload_n 2, 1) := by decide +kernel
theorem d_Mo_sweep_34 : decode M_Mo_sweep.2.1 34 = .ok (.iload_n 1, 1) := by decide +kernel
theorem d_Mo_sweep_35 : decode M_Mo_sweep.2.1 35 = .ok (.invokevirtual 103, 3) := by decide +kernel
theorem d_Mo_sweep_38 : decode M_Mo_sweep.2.1 38 = .ok (.iinc 1 1, 3) := by decide +kernel
theorem d_Mo_sweep_41 : decode M_Mo_sweep.2.1 41 = .ok (.iinc 2 1, 3) := by decide +kernel
theorem d_Mo_sweep_44 : decode M_Mo_sweep.2.1 44 = .ok (.goto (-36), 3) := by decide +kernel
theorem d_Mo_sweep_47 : decode M_Mo_sweep.2.1 47 = .ok (.iconst 0, 1) := by decide +kernel
theorem d_Mo_sweep_48 : decode M_Mo_sweep.2.1 48 = .ok (.istore_n 2, 1) := by decide +kernel
theorem d_Mo_sweep_49 : decode M_Mo_sweep.2.1 49 = .ok (.iload_n 2, 1) := by decide +kernel
theorem d_Mo_sweep_50 : decode M_Mo_sweep.2.1 50 = .ok (.iconst 4, 1) := by decide +kernel
theorem d_Mo_sweep_51 : decode M_Mo_sweep.2.1 51 = .ok (.if_icmp .ge 39, 3) := by decide +kernel
theorem d_Mo_sweep_54 : decode M_Mo_sweep.2.1 54 = .ok (.aload_n 0, 1) := by decide +kernel
theorem d_Mo_sweep_55 : decode M_Mo_sweep.2.1 55 = .ok (.getfield 38, 3) := by decide +kernel
theorem d_Mo_sweep_58 : decode M_Mo_sweep.2.1 58 = .ok (.iload_n 2, 1) := by decide +kernel
theorem d_Mo_sweep_59 : decode M_Mo_sweep.2.1 59 = .ok (.aload_n 0, 1) := by decide +kernel
theorem d_Mo_sweep_60 : decode M_Mo_sweep.2.1 60 = .ok (.getfield 38, 3) := by decide +kernel
theorem d_Mo_sweep_63 : decode M_Mo_sweep.2.1 63 = .ok (.iload_n 2, 1) := by decide +kernel
theorem d_Mo_sweep_64 : decode M_Mo_sweep.2.1 64 = .ok (.iaload, 1) := by decide +kernel
theorem d_Mo_sweep_65 : decode M_Mo_sweep.2.1 65 = .ok (.ifCond .ge 7, 3) := by decide +kernel
theorem d_Mo_sweep_68 : decode M_Mo_sweep.2.1 68 = .ok (.iconst (-1), 1) := by decide +kernel
theorem d_Mo_sweep_69 : decode M_Mo_sweep.2.1 69 = .ok (.goto 14, 3) := by decide +kernel
theorem d_Mo_sweep_72 : decode M_Mo_sweep.2.1 72 = .ok (.aload_n 0, 1) := by decide +kernel
theorem d_Mo_sweep_73 : decode M_Mo_sweep.2.1 73 = .ok (.getfield 26, 3) := by decide +kernel
theorem d_Mo_sweep_76 : decode M_Mo_sweep.2.1 76 = .ok (.aload_n 0, 1) := by decide +kernel
theorem d_Mo_sweep_77 : decode M_Mo_sweep.2.1 77 = .ok (.getfield 38, 3) := by decide +kernel
theorem d_Mo_sweep_80 : decode M_Mo_sweep.2.1 80 = .ok (.iload_n 2, 1) := by decide +kernel
theorem d_Mo_sweep_81 : decode M_Mo_sweep.2.1 81 = .ok (.iaload, 1) := by decide +kernel
theorem d_Mo_sweep_82 : decode M_Mo_sweep.2.1 82 = .ok (.iaload, 1) := by decide +kernel
theorem d_Mo_sweep_83 : decode M_Mo_sweep.2.1 83 = .ok (.iastore, 1) := by decide +kernel
theorem d_Mo_sweep_84 : decode M_Mo_sweep.2.1 84 = .ok (.iinc 2 1, 3) := by decide +kernel
theorem d_Mo_sweep_87 : decode M_Mo_sweep.2.1 87 = .ok (.goto (-38), 3) := by decide +kernel
theorem d_Mo_sweep_90 : decode M_Mo_sweep.2.1 90 = .ok (.aload_n 0, 1) := by decide +kernel
theorem d_Mo_sweep_91 : decode M_Mo_sweep.2.1 91 = .ok (.getfield 93, 3) := by decide +kernel
theorem d_Mo_sweep_94 : decode M_Mo_sweep.2.1 94 = .ok (.iload_n 1, 1) := by decide +kernel
theorem d_Mo_sweep_95 : decode M_Mo_sweep.2.1 95 = .ok (.isub, 1) := by decide +kernel
theorem d_Mo_sweep_96 : decode M_Mo_sweep.2.1 96 = .ok (.istore_n 2, 1) := by decide +kernel
theorem d_Mo_sweep_97 : decode M_Mo_sweep.2.1 97 = .ok (.aload_n 0, 1) := by decide +kernel
theorem d_Mo_sweep_98 : decode M_Mo_sweep.2.1 98 = .ok (.iload_n 1, 1) := by decide +kernel
theorem d_Mo_sweep_99 : decode M_Mo_sweep.2.1 99 = .ok (.putfield 93, 3) := by decide +kernel
theorem d_Mo_sweep_102 : decode M_Mo_sweep.2.1 102 = .ok (.aload_n 0, 1) := by decide +kernel
theorem d_Mo_sweep_103 : decode M_Mo_sweep.2.1 103 = .ok (.iconst 0, 1) := by decide +kernel
theorem d_Mo_sweep_104 : decode M_Mo_sweep.2.1 104 = .ok (.putfield 133, 3) := by decide +kernel
theorem d_Mo_sweep_107 : decode M_Mo_sweep.2.1 107 = .ok (.iload_n 2, 1) := by decide +kernel
theorem d_Mo_sweep_108 : decode M_Mo_sweep.2.1 108 = .ok (.ireturn, 1) := by decide +kernel
def f_Mo_sweep (x0 : Nat) (c : cM) (K : Int32 → cM → Prop) : Prop :=
  kd x0 = 7 ∧ (f_Mo_spread x0 c (fun c2 => ∃ I3 : Nat → Int32 → Int32 → cM → Prop, (∃ n, I3 n 0 0 c2) ∧ ∀ (n4 : Nat) (y7 : Int32) (y8 : Int32) (c9 : cM), I3 n4 y7 y8 c9 → ((((c9 x0 0) ≤ y8) → (∃ I11 : Nat → Int32 → cM → Prop, (∃ n, I11 n 0 c9) ∧ ∀ (n12 : Nat) (y15 : Int32) (c16 : cM), I11 n12 y15 c16 → (((4 ≤ y15) → (∀ c18 : cM, c18 = c_up c16 x0 0 y7 → (∀ c19 : cM, c19 = c_up c18 x0 9 0 → (K ((c16 x0 0) - y7) c19)))) ∧ (¬ (4 ≤ y15) → (kd (rf x0 12) = 100 ∧ (vp_in y15 (ln (rf x0 12)) ∧ (∃ J26 : Int32 → Prop, (∀ (s25 : Int32), J26 s25 → (∀ c28 : cM, c28 = c_up c16 (rf x0 12) (Int32.toNatClampNeg y15) s25 → (∃ m, m < n12 ∧ I11 m (y15 + 1) c28))) ∧ (((0 ≤ (c16 (rf x0 12) (Int32.toNatClampNeg y15))) → (kd (rf x0 6) = 100 ∧ (vp_in (c16 (rf x0 12) (Int32.toNatClampNeg y15)) (ln (rf x0 6)) ∧ (J26 (c16 (rf x0 6) (Int32.toNatClampNeg (c16 (rf x0 12) (Int32.toNatClampNeg y15)))))))) ∧ (¬ (0 ≤ (c16 (rf x0 12) (Int32.toNatClampNeg y15))) → (J26 (-1))))))))))) ∧ (¬ ((c9 x0 0) ≤ y8) → (kd (rf x0 5) = 101 ∧ (vp_in y8 (ln (rf x0 5)) ∧ (∃ J40 : Int32 → cM → Prop, (∀ (y38 : Int32) (c39 : cM), J40 y38 c39 → (∃ m, m < n4 ∧ I3 m y38 (y8 + 1) c39)) ∧ ((((c9 (rf x0 5) (Int32.toNatClampNeg y8)) = 0) → (J40 y7 c9)) ∧ (¬ ((c9 (rf x0 5) (Int32.toNatClampNeg y8)) = 0) → (kd (rf x0 6) = 100 ∧ (vp_in y8 (ln (rf x0 6)) ∧ (∀ c44 : cM, c44 = c_up c9 (rf x0 6) (Int32.toNatClampNeg y8) y7 → (f_Mo_copy x0 y8 y7 c44 (fun c45 => J40 (y7 + 1) c45))))))))))))))
theorem c_Mo_sweep {x0 : Nat} {c : cM} {K : Int32 → cM → Prop} (h : f_Mo_sweep x0 c K) : Ct M_Mo_sweep 3 0 0 (wd c) [.ref x0] (PoI K) := by
  refine Ct.of (by decide +kernel) (Nat.le_of_ble_eq_true rfl) (fun Z T => ?_)
  have F := T.F
  unfold f_Mo_sweep at h
  show Z (wd c) 0 [(0, .ref x0)] [] 0 0
  refine g_aload_n F (pc := 0) d_Mo_sweep_0 0 rfl ?_
  obtain ⟨o1, h⟩ := h
  refine gc_callVV (As := []) (st := []) F (pc := 1) d_Mo_sweep_1 cb_Mo_145 iv_Mo_spread np_Mo_spread o1 vc_7 (c_Mo_spread h) rfl (by decide) (Nat.le_refl _) (Nat.le_refl _) (Nat.le_of_ble_eq_true rfl) (fun c2 h => ?_)
  refine g_iconst (v := 0) F (pc := 4) d_Mo_sweep_4 (by decide) (g_istore_n (lv' := [(1, .int 0), (0, .ref x0)]) F (pc := 5) d_Mo_sweep_5 (by decide) rfl (g_iconst (v := 0) F (pc := 6) d_Mo_sweep_6 (by decide) (g_istore_n (lv' := [(2, .int 0), (1, .int 0), (0, .ref x0)]) F (pc := 7) d_Mo_sweep_7 (by decide) rfl ?_)))
  refine g_lv (lv' := [(0, .ref x0), (1, .int 0), (2, .int 0)]) F [2, 1, 0] rfl ?_
  obtain ⟨I3, ⟨n0, h⟩, hI3⟩ := h
  have lp6 : ∀ (n4 : Nat) (y7 : Int32) (y8 : Int32) (c9 : cM), I3 n4 y7 y8 c9 → Z (wd c9) 8 [(0, .ref x0), (1, .int y7), (2, .int y8)] [] 0 0 := by
    intro n4
    induction n4 using Nat.strongRecOn with
    | _ n4 ih5 =>
      intro y7 y8 c9 h
      replace h := hI3 n4 y7 y8 c9 h
      refine g_iload_n F (pc := 8) d_Mo_sweep_8 2 rfl (g_aload_n F (pc := 9) d_Mo_sweep_9 0 rfl (gc_getI F (pc := 10) d_Mo_sweep_10 fi_Mo_93 o1 ?_))
      refine g_icmp_ge (tgt := 47) F (pc := 13) d_Mo_sweep_13 (by decide) (fun b10 => ?_) (fun b10 => ?_)
      · replace h := h.1 b10
        refine g_iconst (v := 0) F (pc := 47) d_Mo_sweep_47 (by decide) (g_istore_n (lv' := [(2, .int 0), (0, .ref x0), (1, .int y7)]) F (pc := 48) d_Mo_sweep_48 (by decide) rfl ?_)
        refine g_lv (lv' := [(0, .ref x0), (1, .int y7), (2, .int 0)]) F [1, 2, 0] rfl ?_
        obtain ⟨I11, ⟨n0, h⟩, hI11⟩ := h
        have lp14 : ∀ (n12 : Nat) (y15 : Int32) (c16 : cM), I11 n12 y15 c16 → Z (wd c16) 49 [(0, .ref x0), (1, .int y7), (2, .int y15)] [] 0 0 := by
          intro n12
          induction n12 using Nat.strongRecOn with
          | _ n12 ih13 =>
            intro y15 c16 h
            replace h := hI11 n12 y15 c16 h
            refine g_iload_n F (pc := 49) d_Mo_sweep_49 2 rfl (g_iconst (v := 4) F (pc := 50) d_Mo_sweep_50 (by decide) ?_)
            refine g_icmp_ge (tgt := 90) F (pc := 51) d_Mo_sweep_51 (by decide) (fun b17 => ?_) (fun b17 => ?_)
            · replace h := h.1 b17
              refine g_aload_n F (pc := 90) d_Mo_sweep_90 0 rfl (gc_getI F (pc := 91) d_Mo_sweep_91 fi_Mo_93 o1 (g_iload_n F (pc := 94) d_Mo_sweep_94 1 rfl (g_isub F (pc := 95) d_Mo_sweep_95 (g_istore_n (lv' := [(2, .int ((c16 x0 0) - y7)), (0, .ref x0), (1, .int y7)]) F (pc := 96) d_Mo_sweep_96 (by decide) rfl (g_aload_n F (pc := 97) d_Mo_sweep_97 1 rfl ?_)))))
              refine g_iload_n F (pc := 98) d_Mo_sweep_98 2 rfl (gc_putI F (pc := 99) d_Mo_sweep_99 pi_Mo_93 o1 ?_)
              obtain ⟨c18, ec18⟩ : ∃ c18 : cM, c18 = c_up c16 x0 0 y7 := ⟨_, rfl⟩
              rw [← ec18]
              replace h := h c18 ec18
              refine g_aload_n F (pc := 102) d_Mo_sweep_102 1 rfl (g_iconst (v := 0) F (pc := 103) d_Mo_sweep_103 (by decide) (gc_putI F (pc := 104) d_Mo_sweep_104 pi_Mo_133 o1 ?_))
              obtain ⟨c19, ec19⟩ : ∃ c19 : cM, c19 = c_up c18 x0 9 0 := ⟨_, rfl⟩
              rw [← ec19]
              replace h := h c19 ec19
              refine g_iload_n F (pc := 107) d_Mo_sweep_107 0 rfl ?_
              exact g_iret T (pc := 108) d_Mo_sweep_108 rfl (Nat.le_refl _) (Nat.le_refl _) (poI h)
            · replace h := h.2 b17
              refine g_aload_n F (pc := 54) d_Mo_sweep_54 0 rfl (gc_getR F (pc := 55) d_Mo_sweep_55 fi_Mo_38 o1 (g_iload_n F (pc := 58) d_Mo_sweep_58 2 rfl (g_aload_n F (pc := 59) d_Mo_sweep_59 0 rfl (gc_getR F (pc := 60) d_Mo_sweep_60 fi_Mo_38 o1 (g_iload_n F (pc := 63) d_Mo_sweep_63 2 rfl ?_)))))
              obtain ⟨o20, h⟩ := h
              obtain ⟨o21, h⟩ := h
              refine gc_iald F (pc := 64) d_Mo_sweep_64 o20 o21 ?_
              obtain ⟨J26, hJ26, h⟩ := h
              have jn27 : ∀ (s25 : Int32), J26 s25 → Z (wd c16) 83 [(0, .ref x0), (1, .int y7), (2, .int y15)] [.int s25, .int y15, .ref (rf x0 12)] 0 0 := by
                intro s25 h
                replace h := hJ26 s25 h
                refine gc_iast F (pc := 83) d_Mo_sweep_83 o20 o21 ?_
                obtain ⟨c28, ec28⟩ : ∃ c28 : cM, c28 = c_up c16 (rf x0 12) (Int32.toNatClampNeg y15) s25 := ⟨_, rfl⟩
                rw [← ec28]
                replace h := h c28 ec28
                refine g_iinc (v := (y15 + 1)) (lv' := [(2, .int (y15 + 1)), (0, .ref x0), (1, .int y7)]) F (pc := 84) d_Mo_sweep_84 2 rfl (sk_inc (by decide)) (by decide) rfl (g_goto (tgt := 49) F (pc := 87) d_Mo_sweep_87 (by decide) ?_)
                refine g_lv (lv' := [(0, .ref x0), (1, .int y7), (2, .int (y15 + 1))]) F [1, 2, 0] rfl ?_
                obtain ⟨m, hm, h⟩ := h
                exact ih13 m hm _ _ h
              refine g_if_ge (tgt := 72) F (pc := 65) d_Mo_sweep_65 (by decide) (fun b22 => ?_) (fun b22 => ?_)
              · replace h := h.1 b22
                refine g_aload_n F (pc := 72) d_Mo_sweep_72 0 rfl (gc_getR F (pc := 73) d_Mo_sweep_73 fi_Mo_26 o1 (g_aload_n F (pc := 76) d_Mo_sweep_76 0 rfl (gc_getR F (pc := 77) d_Mo_sweep_77 fi_Mo_38 o1 (g_iload_n F (pc := 80) d_Mo_sweep_80 2 rfl (gc_iald F (pc := 81) d_Mo_sweep_81 o20 o21 ?_)))))
                obtain ⟨o29, h⟩ := h
                obtain ⟨o30, h⟩ := h
                refine gc_iald F (pc := 82) d_Mo_sweep_82 o29 o30 ?_
                exact jn27 _ h
              · replace h := h.2 b22
                refine g_iconst (v := (-1)) F (pc := 68) d_Mo_sweep_68 (by decide) (g_goto (tgt := 83) F (pc := 69) d_Mo_sweep_69 (by decide) ?_)
                exact jn27 _ h
        exact lp14 n0 _ _ h
      · replace h := h.2 b10
        refine g_aload_n F (pc := 16) d_Mo_sweep_16 0 rfl (gc_getR F (pc := 17) d_Mo_sweep_17 fi_Mo_22 o1 (g_iload_n F (pc := 20) d_Mo_sweep_20 2 rfl ?_))
        obtain ⟨o31, h⟩ := h
        obtain ⟨o32, h⟩ := h
        refine gc_zald F (pc := 21) d_Mo_sweep_21 o31 o32 ?_
        obtain ⟨J40, hJ40, h⟩ := h
        have jn41 : ∀ (y38 : Int32) (c39 : cM), J40 y38 c39 → Z (wd c39) 41 [(0, .ref x0), (1, .int y38), (2, .int y8)] [] 0 0 := by
          intro y38 c39 h
          replace h := hJ40 y38 c39 h
          refine g_iinc (v := (y8 + 1)) (lv' := [(2, .int (y8 + 1)), (0, .ref x0), (1, .int y38)]) F (pc := 41) d_Mo_sweep_41 2 rfl (sk_inc (by decide)) (by decide) rfl (g_goto (tgt := 8) F (pc := 44) d_Mo_sweep_44 (by decide) ?_)
          refine g_lv (lv' := [(0, .ref x0), (1, .int y38), (2, .int (y8 + 1))]) F [1, 2, 0] rfl ?_
          obtain ⟨m, hm, h⟩ := h
          exact ih5 m hm _ _ _ h
        refine g_if_eq (tgt := 41) F (pc := 22) d_Mo_sweep_22 (by decide) (fun b33 => ?_) (fun b33 => ?_)
        · replace h := h.1 b33
          exact jn41 _ _ h
        · replace h := h.2 b33
          refine g_aload_n F (pc := 25) d_Mo_sweep_25 0 rfl (gc_getR F (pc := 26) d_Mo_sweep_26 fi_Mo_26 o1 (g_iload_n F (pc := 29) d_Mo_sweep_29 2 rfl (g_iload_n F (pc := 30) d_Mo_sweep_30 1 rfl ?_)))
          obtain ⟨o42, h⟩ := h
          obtain ⟨o43, h⟩ := h
          refine gc_iast F (pc := 31) d_Mo_sweep_31 o42 o43 ?_
          obtain ⟨c44, ec44⟩ : ∃ c44 : cM, c44 = c_up c9 (rf x0 6) (Int32.toNatClampNeg y8) y7 := ⟨_, rfl⟩
          rw [← ec44]
          replace h := h c44 ec44
          refine g_aload_n F (pc := 32) d_Mo_sweep_32 0 rfl (g_iload_n F (pc := 33) d_Mo_sweep_33 2 rfl (g_iload_n F (pc := 34) d_Mo_sweep_34 1 rfl ?_))
          refine gc_callVV (As := [.int y8, .int y7]) (st := []) F (pc := 35) d_Mo_sweep_35 cb_Mo_103 iv_Mo_copy np_Mo_copy o1 vc_7 (c_Mo_copy h) rfl (by decide) (Nat.le_refl _) (Nat.le_refl _) (Nat.le_of_ble_eq_true rfl) (fun c45 h => ?_)
          refine g_iinc (v := (y7 + 1)) (lv' := [(1, .int (y7 + 1)), (0, .ref x0), (2, .int y8)]) F (pc := 38) d_Mo_sweep_38 1 rfl (sk_inc (by decide)) (by decide) rfl ?_
          refine g_lv (lv' := [(0, .ref x0), (1, .int (y7 + 1)), (2, .int y8)]) F [1, 0, 2] rfl ?_
          exact jn41 _ _ h
  exact lp6 n0 _ _ _ h
theorem d_Mo_things_0 : decode M_Mo_things.2.1 0 = .ok (.aload_n 0, 1) := by decide +kernel
theorem d_Mo_things_1 : decode M_Mo_things.2.1 1 = .ok (.getfield 93, 3) := by decide +kernel
theorem d_Mo_things_4 : decode M_Mo_things.2.1 4 = .ok (.ireturn, 1) := by decide +kernel
def f_Mo_things (x0 : Nat) (c : cM) (K : Int32 → cM → Prop) : Prop :=
  kd x0 = 7 ∧ (K (c x0 0) c)
theorem c_Mo_things {x0 : Nat} {c : cM} {K : Int32 → cM → Prop} (h : f_Mo_things x0 c K) : Ct M_Mo_things 0 0 0 (wd c) [.ref x0] (PoI K) := by
  refine Ct.of (by decide +kernel) (Nat.le_of_ble_eq_true rfl) (fun Z T => ?_)
  have F := T.F
  unfold f_Mo_things at h
  show Z (wd c) 0 [(0, .ref x0)] [] 0 0
  refine g_aload_n F (pc := 0) d_Mo_things_0 0 rfl ?_
  obtain ⟨o1, h⟩ := h
  refine gc_getI F (pc := 1) d_Mo_things_1 fi_Mo_93 o1 ?_
  exact g_iret T (pc := 4) d_Mo_things_4 rfl (Nat.le_refl _) (Nat.le_refl _) (poI h)
