theorem d_Mo_kind_0 : decode M_Mo_kind.2.1 0 = .ok (.aload_n 0, 1) := by decide +kernel
theorem d_Mo_kind_1 : decode M_Mo_kind.2.1 1 = .ok (.iload_n 1, 1) := by decide +kernel
theorem d_Mo_kind_2 : decode M_Mo_kind.2.1 2 = .ok (.invokevirtual 113, 3) := by decide +kernel
theorem d_Mo_kind_5 : decode M_Mo_kind.2.1 5 = .ok (.ifCond .eq 12, 3) := by decide +kernel
theorem d_Mo_kind_8 : decode M_Mo_kind.2.1 8 = .ok (.aload_n 0, 1) := by decide +kernel
theorem d_Mo_kind_9 : decode M_Mo_kind.2.1 9 = .ok (.getfield 7, 3) := by decide +kernel
theorem d_Mo_kind_12 : decode M_Mo_kind.2.1 12 = .ok (.iload_n 1, 1) := by decide +kernel
theorem d_Mo_kind_13 : decode M_Mo_kind.2.1 13 = .ok (.iaload, 1) := by decide +kernel
theorem d_Mo_kind_14 : decode M_Mo_kind.2.1 14 = .ok (.goto 4, 3) := by decide +kernel
theorem d_Mo_kind_17 : decode M_Mo_kind.2.1 17 = .ok (.iconst (-1), 1) := by decide +kernel
theorem d_Mo_kind_18 : decode M_Mo_kind.2.1 18 = .ok (.ireturn, 1) := by decide +kernel
def f_Mo_kind (x0 : Nat) (x1 : Int32) (c : cM) (K : Int32 → cM → Prop) : Prop :=
  kd x0 = 7 ∧ (f_Mo_isThing x0 x1 c (fun v3 c2 => ((v3 = 0) → (K (-1) c2)) ∧ (¬ (v3 = 0) → (kd (rf x0 1) = 100 ∧ (vp_in x1 (ln (rf x0 1)) ∧ (K (c2 (rf x0 1) (Int32.toNatClampNeg x1)) c2))))))
theorem c_Mo_kind {x0 : Nat} {x1 : Int32} {c : cM} {K : Int32 → cM → Prop} (h : f_Mo_kind x0 x1 c K) : Ct M_Mo_kind 1 0 0 (wd c) [.ref x0, .int x1] (PoI K) := by
  refine Ct.of (by decide +kernel) (Nat.le_of_ble_eq_true rfl) (fun Z T => ?_)
  have F := T.F
  unfold f_Mo_kind at h
  show Z (wd c) 0 [(0, .ref x0), (1, .int x1)] [] 0 0
  refine g_aload_n F (pc := 0) d_Mo_kind_0 0 rfl (g_iload_n F (pc := 1) d_Mo_kind_1 1 rfl ?_)
  obtain ⟨o1, h⟩ := h
  refine gc_callVI (As := [.int x1]) (st := []) F (pc := 2) d_Mo_kind_2 cb_Mo_113 iv_Mo_isThing np_Mo_isThing o1 vc_7 (c_Mo_isThing h) rfl (by decide) (Nat.le_refl _) (Nat.le_refl _) (Nat.le_of_ble_eq_true rfl) (fun v3 c2 h => ?_)
  refine g_if_eq (tgt := 17) F (pc := 5) d_Mo_kind_5 (by decide) (fun b4 => ?_) (fun b4 => ?_)
  · replace h := h.1 b4
    refine g_iconst (v := (-1)) F (pc := 17) d_Mo_kind_17 (by decide) ?_
    exact g_iret T (pc := 18) d_Mo_kind_18 rfl (Nat.le_refl _) (Nat.le_refl _) (poI h)
  · replace h := h.2 b4
    refine g_aload_n F (pc := 8) d_Mo_kind_8 0 rfl (gc_getR F (pc := 9) d_Mo_kind_9 fi_Mo_7 o1 (g_iload_n F (pc := 12) d_Mo_kind_12 1 rfl ?_))
    obtain ⟨o5, h⟩ := h
    obtain ⟨o6, h⟩ := h
    refine gc_iald F (pc := 13) d_Mo_kind_13 o5 o6 (g_goto (tgt := 18) F (pc := 14) d_Mo_kind_14 (by decide) ?_)
    exact g_iret T (pc := 18) d_Mo_kind_18 rfl (Nat.le_refl _) (Nat.le_refl _) (poI h)
theorem d_Mo_size_0 : decode M_Mo_size.2.1 0 = .ok (.aload_n 0, 1) := by decide +kernel
theorem d_Mo_size_1 : decode M_Mo_size.2.1 1 = .ok (.iload_n 1, 1) := by decide +kernel
theorem d_Mo_size_2 : decode M_Mo_size.2.1 2 = .ok (.invokevirtual 113, 3) := by decide +kernel
theorem d_Mo_size_5 : decode M_Mo_size.2.1 5 = .ok (.ifCond .eq 12, 3) := by decide +kernel
theorem d_Mo_size_8 : decode M_Mo_size.2.1 8 = .ok (.aload_n 0, 1) := by decide +kernel
theorem d_Mo_size_9 : decode M_Mo_size.2.1 9 = .ok (.getfield 13, 3) := by decide +kernel
theorem d_Mo_size_12 : decode M_Mo_size.2.1 12 = .ok (.iload_n 1, 1) := by decide +kernel
theorem d_Mo_size_13 : decode M_Mo_size.2.1 13 = .ok (.iaload, 1) := by decide +kernel
theorem d_Mo_size_14 : decode M_Mo_size.2.1 14 = .ok (.goto 4, 3) := by decide +kernel
theorem d_Mo_size_17 : decode M_Mo_size.2.1 17 = .ok (.iconst (-1), 1) := by decide +kernel
theorem d_Mo_size_18 : decode M_Mo_size.2.1 18 = .ok (.ireturn, 1) := by decide +kernel
def f_Mo_size (x0 : Nat) (x1 : Int32) (c : cM) (K : Int32 → cM → Prop) : Prop :=
  kd x0 = 7 ∧ (f_Mo_isThing x0 x1 c (fun v3 c2 => ((v3 = 0) → (K (-1) c2)) ∧ (¬ (v3 = 0) → (kd (rf x0 2) = 100 ∧ (vp_in x1 (ln (rf x0 2)) ∧ (K (c2 (rf x0 2) (Int32.toNatClampNeg x1)) c2))))))
theorem c_Mo_size {x0 : Nat} {x1 : Int32} {c : cM} {K : Int32 → cM → Prop} (h : f_Mo_size x0 x1 c K) : Ct M_Mo_size 1 0 0 (wd c) [.ref x0, .int x1] (PoI K) := by
  refine Ct.of (by decide +kernel) (Nat.le_of_ble_eq_true rfl) (fun Z T => ?_)
  have F := T.F
  unfold f_Mo_size at h
  show Z (wd c) 0 [(0, .ref x0), (1, .int x1)] [] 0 0
  refine g_aload_n F (pc := 0) d_Mo_size_0 0 rfl (g_iload_n F (pc := 1) d_Mo_size_1 1 rfl ?_)
  obtain ⟨o1, h⟩ := h
  refine gc_callVI (As := [.int x1]) (st := []) F (pc := 2) d_Mo_size_2 cb_Mo_113 iv_Mo_isThing np_Mo_isThing o1 vc_7 (c_Mo_isThing h) rfl (by decide) (Nat.le_refl _) (Nat.le_refl _) (Nat.le_of_ble_eq_true rfl) (fun v3 c2 h => ?_)
  refine g_if_eq (tgt := 17) F (pc := 5) d_Mo_size_5 (by decide) (fun b4 => ?_) (fun b4 => ?_)
  · replace h := h.1 b4
    refine g_iconst (v := (-1)) F (pc := 17) d_Mo_size_17 (by decide) ?_
    exact g_iret T (pc := 18) d_Mo_size_18 rfl (Nat.le_refl _) (Nat.le_refl _) (poI h)
  · replace h := h.2 b4
    refine g_aload_n F (pc := 8) d_Mo_size_8 0 rfl (gc_getR F (pc := 9) d_Mo_size_9 fi_Mo_13 o1 (g_iload_n F (pc := 12) d_Mo_size_12 1 rfl ?_))
    obtain ⟨o5, h⟩ := h
    obtain ⟨o6, h⟩ := h
    refine gc_iald F (pc := 13) d_Mo_size_13 o5 o6 (g_goto (tgt := 18) F (pc := 14) d_Mo_size_14 (by decide) ?_)
    exact g_iret T (pc := 18) d_Mo_size_18 rfl (Nat.le_refl _) (Nat.le_refl _) (poI h)
theorem d_Mo_byteOf_0 : decode M_Mo_byteOf.2.1 0 = .ok (.aload_n 0, 1) := by decide +kernel
theorem d_Mo_byteOf_1 : decode M_Mo_byteOf.2.1 1 = .ok (.iload_n 1, 1) := by decide +kernel
theorem d_Mo_byteOf_2 : decode M_Mo_byteOf.2.1 2 = .ok (.invokevirtual 113, 3) := by decide +kernel
theorem d_Mo_byteOf_5 : decode M_Mo_byteOf.2.1 5 = .ok (.ifCond .eq 31, 3) := by decide +kernel
theorem d_Mo_byteOf_8 : decode M_Mo_byteOf.2.1 8 = .ok (.iload_n 2, 1) := by decide +kernel
theorem d_Mo_byteOf_9 : decode M_Mo_byteOf.2.1 9 = .ok (.ifCond .lt 27, 3) := by decide +kernel
theorem d_Mo_byteOf_12 : decode M_Mo_byteOf.2.1 12 = .ok (.iload_n 2, 1) := by decide +kernel
theorem d_Mo_byteOf_13 : decode M_Mo_byteOf.2.1 13 = .ok (.aload_n 0, 1) := by decide +kernel
theorem d_Mo_byteOf_14 : decode M_Mo_byteOf.2.1 14 = .ok (.getfield 13, 3) := by decide +kernel
theorem d_Mo_byteOf_17 : decode M_Mo_byteOf.2.1 17 = .ok (.iload_n 1, 1) := by decide +kernel
theorem d_Mo_byteOf_18 : decode M_Mo_byteOf.2.1 18 = .ok (.iaload, 1) := by decide +kernel
theorem d_Mo_byteOf_19 : decode M_Mo_byteOf.2.1 19 = .ok (.if_icmp .ge 17, 3) := by decide +kernel
theorem d_Mo_byteOf_22 : decode M_Mo_byteOf.2.1 22 = .ok (.aload_n 0, 1) := by decide +kernel
theorem d_Mo_byteOf_23 : decode M_Mo_byteOf.2.1 23 = .ok (.getfield 16, 3) := by decide +kernel
theorem d_Mo_byteOf_26 : decode M_Mo_byteOf.2.1 26 = .ok (.bipush 120, 2) := by decide +kernel
theorem d_Mo_byteOf_28 : decode M_Mo_byteOf.2.1 28 = .ok (.iload_n 1, 1) := by decide +kernel
theorem d_Mo_byteOf_29 : decode M_Mo_byteOf.2.1 29 = .ok (.imul, 1) := by decide +kernel
theorem d_Mo_byteOf_30 : decode M_Mo_byteOf.2.1 30 = .ok (.iload_n 2, 1) := by decide +kernel
theorem d_Mo_byteOf_31 : decode M_Mo_byteOf.2.1 31 = .ok (.iadd, 1) := by decide +kernel
theorem d_Mo_byteOf_32 : decode M_Mo_byteOf.2.1 32 = .ok (.iaload, 1) := by decide +kernel
theorem d_Mo_byteOf_33 : decode M_Mo_byteOf.2.1 33 = .ok (.goto 4, 3) := by decide +kernel
theorem d_Mo_byteOf_36 : decode M_Mo_byteOf.2.1 36 = .ok (.iconst (-1), 1) := by decide +kernel
theorem d_Mo_byteOf_37 : decode M_Mo_byteOf.2.1 37 = .ok (.ireturn, 1) := by decide +kernel
def f_Mo_byteOf (x0 : Nat) (x1 : Int32) (x2 : Int32) (c : cM) (K : Int32 → cM → Prop) : Prop :=
  kd x0 = 7 ∧ (f_Mo_isThing x0 x1 c (fun v3 c2 => ((v3 = 0) → (K (-1) c2)) ∧ (¬ (v3 = 0) → (((x2 < 0) → (K (-1) c2)) ∧ (¬ (x2 < 0) → (kd (rf x0 2) = 100 ∧ (vp_in x1 (ln (rf x0 2)) ∧ ((((c2 (rf x0 2) (Int32.toNatClampNeg x1)) ≤ x2) → (K (-1) c2)) ∧ (¬ ((c2 (rf x0 2) (Int32.toNatClampNeg x1)) ≤ x2) → (kd (rf x0 3) = 100 ∧ (vp_in ((120 * x1) + x2) (ln (rf x0 3)) ∧ (K (c2 (rf x0 3) (Int32.toNatClampNeg ((120 * x1) + x2))) c2))))))))))))
theorem c_Mo_byteOf {x0 : Nat} {x1 : Int32} {x2 : Int32} {c : cM} {K : Int32 → cM → Prop} (h : f_Mo_byteOf x0 x1 x2 c K) : Ct M_Mo_byteOf 1 0 0 (wd c) [.ref x0, .int x1, .int x2] (PoI K) := by
  refine Ct.of (by decide +kernel) (Nat.le_of_ble_eq_true rfl) (fun Z T => ?_)
  have F := T.F
  unfold f_Mo_byteOf at h
  show Z (wd c) 0 [(0, .ref x0), (1, .int x1), (2, .int x2)] [] 0 0
  refine g_aload_n F (pc := 0) d_Mo_byteOf_0 0 rfl (g_iload_n F (pc := 1) d_Mo_byteOf_1 1 rfl ?_)
  obtain ⟨o1, h⟩ := h
  refine gc_callVI (As := [.int x1]) (st := []) F (pc := 2) d_Mo_byteOf_2 cb_Mo_113 iv_Mo_isThing np_Mo_isThing o1 vc_7 (c_Mo_isThing h) rfl (by decide) (Nat.le_refl _) (Nat.le_refl _) (Nat.le_of_ble_eq_true rfl) (fun v3 c2 h => ?_)
  refine g_if_eq (tgt := 36) F (pc := 5) d_Mo_byteOf_5 (by decide) (fun b4 => ?_) (fun b4 => ?_)
  · replace h := h.1 b4
    refine g_iconst (v := (-1)) F (pc := 36) d_Mo_byteOf_36 (by decide) ?_
    exact g_iret T (pc := 37) d_Mo_byteOf_37 rfl (Nat.le_refl _) (Nat.le_refl _) (poI h)
  · replace h := h.2 b4
    refine g_iload_n F (pc := 8) d_Mo_byteOf_8 2 rfl ?_
    refine g_if_lt (tgt := 36) F (pc := 9) d_Mo_byteOf_9 (by decide) (fun b5 => ?_) (fun b5 => ?_)
    · replace h := h.1 b5
      refine g_iconst (v := (-1)) F (pc := 36) d_Mo_byteOf_36 (by decide) ?_
      exact g_iret T (pc := 37) d_Mo_byteOf_37 rfl (Nat.le_refl _) (Nat.le_refl _) (poI h)
    · replace h := h.2 b5
      refine g_iload_n F (pc := 12) d_Mo_byteOf_12 2 rfl (g_aload_n F (pc := 13) d_Mo_byteOf_13 0 rfl (gc_getR F (pc := 14) d_Mo_byteOf_14 fi_Mo_13 o1 (g_iload_n F (pc := 17) d_Mo_byteOf_17 1 rfl ?_)))
      obtain ⟨o6, h⟩ := h
      obtain ⟨o7, h⟩ := h
      refine gc_iald F (pc := 18) d_Mo_byteOf_18 o6 o7 ?_
      refine g_icmp_ge (tgt := 36) F (pc := 19) d_Mo_byteOf_19 (by decide) (fun b8 => ?_) (fun b8 => ?_)
      · replace h := h.1 b8
        refine g_iconst (v := (-1)) F (pc := 36) d_Mo_byteOf_36 (by decide) ?_
        exact g_iret T (pc := 37) d_Mo_byteOf_37 rfl (Nat.le_refl _) (Nat.le_refl _) (poI h)
      · replace h := h.2 b8
        refine g_aload_n F (pc := 22) d_Mo_byteOf_22 0 rfl (gc_getR F (pc := 23) d_Mo_byteOf_23 fi_Mo_16 o1 (g_bipush (v := 120) F (pc := 26) d_Mo_byteOf_26 (by decide) (g_iload_n F (pc := 28) d_Mo_byteOf_28 1 rfl (g_imul F (pc := 29) d_Mo_byteOf_29 (g_iload_n F (pc := 30) d_Mo_byteOf_30 2 rfl ?_)))))
        refine g_iadd F (pc := 31) d_Mo_byteOf_31 ?_
        obtain ⟨o9, h⟩ := h
        obtain ⟨o10, h⟩ := h
        refine gc_iald F (pc := 32) d_Mo_byteOf_32 o9 o10 (g_goto (tgt := 37) F (pc := 33) d_Mo_byteOf_33 (by decide) ?_)
        exact g_iret T (pc := 37) d_Mo_byteOf_37 rfl (Nat.le_refl _) (Nat.le_refl _) (poI h)
theorem d_Mo_name_0 : decode M_Mo_name.2.1 0 = .ok (.aload_n 0, 1) := by decide +kernel
theorem d_Mo_name_1 : decode M_Mo_name.2.1 1 = .ok (.iload_n 1, 1) := by decide +kernel
theorem d_Mo_name_2 : decode M_Mo_name.2.1 2 = .ok (.invokevirtual 113, 3) := by decide +kernel
theorem d_Mo_name_5 : decode M_Mo_name.2.1 5 = .ok (.ifCond .eq 25, 3) := by decide +kernel
theorem d_Mo_name_8 : decode M_Mo_name.2.1 8 = .ok (.iload_n 2, 1) := by decide +kernel
theorem d_Mo_name_9 : decode M_Mo_name.2.1 9 = .ok (.ifCond .lt 21, 3) := by decide +kernel
theorem d_Mo_name_12 : decode M_Mo_name.2.1 12 = .ok (.iload_n 2, 1) := by decide +kernel
theorem d_Mo_name_13 : decode M_Mo_name.2.1 13 = .ok (.iconst 5, 1) := by decide +kernel
theorem d_Mo_name_14 : decode M_Mo_name.2.1 14 = .ok (.if_icmp .ge 16, 3) := by decide +kernel
theorem d_Mo_name_17 : decode M_Mo_name.2.1 17 = .ok (.aload_n 0, 1) := by decide +kernel
theorem d_Mo_name_18 : decode M_Mo_name.2.1 18 = .ok (.getfield 19, 3) := by decide +kernel
theorem d_Mo_name_21 : decode M_Mo_name.2.1 21 = .ok (.iconst 5, 1) := by decide +kernel
theorem d_Mo_name_22 : decode M_Mo_name.2.1 22 = .ok (.iload_n 1, 1) := by decide +kernel
theorem d_Mo_name_23 : decode M_Mo_name.2.1 23 = .ok (.imul, 1) := by decide +kernel
theorem d_Mo_name_24 : decode M_Mo_name.2.1 24 = .ok (.iload_n 2, 1) := by decide +kernel
theorem d_Mo_name_25 : decode M_Mo_name.2.1 25 = .ok (.iadd, 1) := by decide +kernel
theorem d_Mo_name_26 : decode M_Mo_name.2.1 26 = .ok (.iaload, 1) := by decide +kernel
theorem d_Mo_name_27 : decode M_Mo_name.2.1 27 = .ok (.goto 4, 3) := by decide +kernel
theorem d_Mo_name_30 : decode M_Mo_name.2.1 30 = .ok (.iconst 0, 1) := by decide +kernel
theorem d_Mo_name_31 : decode M_Mo_name.2.1 31 = .ok (.ireturn, 1) := by decide +kernel
def f_Mo_name (x0 : Nat) (x1 : Int32) (x2 : Int32) (c : cM) (K : Int32 → cM → Prop) : Prop :=
  kd x0 = 7 ∧ (f_Mo_isThing x0 x1 c (fun v3 c2 => ((v3 = 0) → (K 0 c2)) ∧ (¬ (v3 = 0) → (((x2 < 0) → (K 0 c2)) ∧ (¬ (x2 < 0) → (((5 ≤ x2) → (K 0 c2)) ∧ (¬ (5 ≤ x2) → (kd (rf x0 4) = 100 ∧ (vp_in ((5 * x1) + x2) (ln (rf x0 4)) ∧ (K (c2 (rf x0 4) (Int32.toNatClampNeg ((5 * x1) + x2))) c2))))))))))
theorem c_Mo_name {x0 : Nat} {x1 : Int32} {x2 : Int32} {c : cM} {K : Int32 → cM → Prop} (h : f_Mo_name x0 x1 x2 c K) : Ct M_Mo_name 1 0 0 (wd c) [.ref x0, .int x1, .int x2] (PoI K) := by
  refine Ct.of (by decide +kernel) (Nat.le_of_ble_eq_true rfl) (fun Z T => ?_)
  have F := T.F
  unfold f_Mo_name at h
  show Z (wd c) 0 [(0, .ref x0), (1, .int x1), (2, .int x2)] [] 0 0
  refine g_aload_n F (pc := 0) d_Mo_name_0 0 rfl (g_iload_n F (pc := 1) d_Mo_name_1 1 rfl ?_)
  obtain ⟨o1, h⟩ := h
  refine gc_callVI (As := [.int x1]) (st := []) F (pc := 2) d_Mo_name_2 cb_Mo_113 iv_Mo_isThing np_Mo_isThing o1 vc_7 (c_Mo_isThing h) rfl (by decide) (Nat.le_refl _) (Nat.le_refl _) (Nat.le_of_ble_eq_true rfl) (fun v3 c2 h => ?_)
  refine g_if_eq (tgt := 30) F (pc := 5) d_Mo_name_5 (by decide) (fun b4 => ?_) (fun b4 => ?_)
  · replace h := h.1 b4
    refine g_iconst (v := 0) F (pc := 30) d_Mo_name_30 (by decide) ?_
    exact g_iret T (pc := 31) d_Mo_name_31 rfl (Nat.le_refl _) (Nat.le_refl _) (poI h)
  · replace h := h.2 b4
    refine g_iload_n F (pc := 8) d_Mo_name_8 2 rfl ?_
    refine g_if_lt (tgt := 30) F (pc := 9) d_Mo_name_9 (by decide) (fun b5 => ?_) (fun b5 => ?_)
    · replace h := h.1 b5
      refine g_iconst (v := 0) F (pc := 30) d_Mo_name_30 (by decide) ?_
      exact g_iret T (pc := 31) d_Mo_name_31 rfl (Nat.le_refl _) (Nat.le_refl _) (poI h)
    · replace h := h.2 b5
      refine g_iload_n F (pc := 12) d_Mo_name_12 2 rfl (g_iconst (v := 5) F (pc := 13) d_Mo_name_13 (by decide) ?_)
      refine g_icmp_ge (tgt := 30) F (pc := 14) d_Mo_name_14 (by decide) (fun b6 => ?_) (fun b6 => ?_)
      · replace h := h.1 b6
        refine g_iconst (v := 0) F (pc := 30) d_Mo_name_30 (by decide) ?_
        exact g_iret T (pc := 31) d_Mo_name_31 rfl (Nat.le_refl _) (Nat.le_refl _) (poI h)
      · replace h := h.2 b6
        refine g_aload_n F (pc := 17) d_Mo_name_17 0 rfl (gc_getR F (pc := 18) d_Mo_name_18 fi_Mo_19 o1 (g_iconst (v := 5) F (pc := 21) d_Mo_name_21 (by decide) (g_iload_n F (pc := 22) d_Mo_name_22 1 rfl (g_imul F (pc := 23) d_Mo_name_23 (g_iload_n F (pc := 24) d_Mo_name_24 2 rfl ?_)))))
        refine g_iadd F (pc := 25) d_Mo_name_25 ?_
        obtain ⟨o7, h⟩ := h
        obtain ⟨o8, h⟩ := h
        refine gc_iald F (pc := 26) d_Mo_name_26 o7 o8 (g_goto (tgt := 31) F (pc := 27) d_Mo_name_27 (by decide) ?_)
        exact g_iret T (pc := 31) d_Mo_name_31 rfl (Nat.le_refl _) (Nat.le_refl _) (poI h)
theorem d_Mo_reached_0 : decode M_Mo_reached.2.1 0 = .ok (.aload_n 0, 1) := by decide +kernel
theorem d_Mo_reached_1 : decode M_Mo_reached.2.1 1 = .ok (.iload_n 1, 1) := by decide +kernel
theorem d_Mo_reached_2 : decode M_Mo_reached.2.1 2 = .ok (.invokevirtual 113, 3) := by decide +kernel
theorem d_Mo_reached_5 : decode M_Mo_reached.2.1 5 = .ok (.ifCond .ne 5, 3) := by decide +kernel
theorem d_Mo_reached_8 : decode M_Mo_reached.2.1 8 = .ok (.iconst 0, 1) := by decide +kernel
theorem d_Mo_reached_9 : decode M_Mo_reached.2.1 9 = .ok (.ireturn, 1) := by decide +kernel
theorem d_Mo_reached_10 : decode M_Mo_reached.2.1 10 = .ok (.aload_n 0, 1) := by decide +kernel
theorem d_Mo_reached_11 : decode M_Mo_reached.2.1 11 = .ok (.invokevirtual 145, 3) := by decide +kernel
theorem d_Mo_reached_14 : decode M_Mo_reached.2.1 14 = .ok (.aload_n 0, 1) := by decide +kernel
theorem d_Mo_reached_15 : decode M_Mo_reached.2.1 15 = .ok (.getfield 22, 3) := by decide +kernel
theorem d_Mo_reached_18 : decode M_Mo_reached.2.1 18 = .ok (.iload_n 1, 1) := by decide +kernel
theorem d_Mo_reached_19 : decode M_Mo_reached.2.1 19 = .ok (.baload, 1) := by decide +kernel
theorem d_Mo_reached_20 : decode M_Mo_reached.2.1 20 = .ok (.ireturn, 1) := by decide +kernel
def f_Mo_reached (x0 : Nat) (x1 : Int32) (c : cM) (K : Int32 → cM → Prop) : Prop :=
  kd x0 = 7 ∧ (f_Mo_isThing x0 x1 c (fun v3 c2 => ((¬ v3 = 0) → (f_Mo_spread x0 c2 (fun c5 => kd (rf x0 5) = 101 ∧ (vp_in x1 (ln (rf x0 5)) ∧ (bz (c5 (rf x0 5) (Int32.toNatClampNeg x1)) ∧ (K (c5 (rf x0 5) (Int32.toNatClampNeg x1)) c5)))))) ∧ (v3 = 0 → (K 0 c2))))
theorem c_Mo_reached {x0 : Nat} {x1 : Int32} {c : cM} {K : Int32 → cM → Prop} (h : f_Mo_reached x0 x1 c K) : Ct M_Mo_reached 3 0 0 (wd c) [.ref x0, .int x1] (PoI K) := by
  refine Ct.of (by decide +kernel) (Nat.le_of_ble_eq_true rfl) (fun Z T => ?_)
  have F := T.F
  unfold f_Mo_reached at h
  show Z (wd c) 0 [(0, .ref x0), (1, .int x1)] [] 0 0
  refine g_aload_n F (pc := 0) d_Mo_reached_0 0 rfl (g_iload_n F (pc := 1) d_Mo_reached_1 1 rfl ?_)
  obtain ⟨o1, h⟩ := h
  refine gc_callVI (As := [.int x1]) (st := []) F (pc := 2) d_Mo_reached_2 cb_Mo_113 iv_Mo_isThing np_Mo_isThing o1 vc_7 (c_Mo_isThing h) rfl (by decide) (Nat.le_refl _) (Nat.le_refl _) (Nat.le_of_ble_eq_true rfl) (fun v3 c2 h => ?_)
  refine g_if_ne (tgt := 10) F (pc := 5) d_Mo_reached_5 (by decide) (fun b4 => ?_) (fun b4 => ?_)
  · replace h := h.1 b4
    refine g_aload_n F (pc := 10) d_Mo_reached_10 0 rfl ?_
    refine gc_callVV (As := []) (st := []) F (pc := 11) d_Mo_reached_11 cb_Mo_145 iv_Mo_spread np_Mo_spread o1 vc_7 (c_Mo_spread h) rfl (by decide) (Nat.le_refl _) (Nat.le_refl _) (Nat.le_of_ble_eq_true rfl) (fun c5 h => ?_)
    refine g_aload_n F (pc := 14) d_Mo_reached_14 0 rfl (gc_getR F (pc := 15) d_Mo_reached_15 fi_Mo_22 o1 (g_iload_n F (pc := 18) d_Mo_reached_18 1 rfl ?_))
    obtain ⟨o6, h⟩ := h
    obtain ⟨o7, h⟩ := h
    refine gc_zald F (pc := 19) d_Mo_reached_19 o6 o7 ?_
    obtain ⟨o8, h⟩ := h
    exact g_zret T (pc := 20) d_Mo_reached_20 rfl (bz_n o8) (Nat.le_refl _) (Nat.le_refl _) (poI h)
  · replace h := h.2 b4
    refine g_iconst (v := 0) F (pc := 8) d_Mo_reached_8 (by decide) ?_
    exact g_zret T (pc := 9) d_Mo_reached_9 rfl (by decide) (Nat.le_refl _) (Nat.le_refl _) (poI h)
theorem d_Mo_write_0 : decode M_Mo_write.2.1 0 = .ok (.aload_n 0, 1) := by decide +kernel
theorem d_Mo_write_1 : decode M_Mo_write.2.1 1 = .ok (.getfield 50, 3) := by decide +kernel
theorem d_Mo_write_4 : decode M_Mo_write.2.1 4 = .ok (.aload_n 0, 1) := by decide +kernel
theorem d_Mo_write_5 : decode M_Mo_write.2.1 5 = .ok (.getfield 148, 3) := by decide +kernel
theorem d_Mo_write_8 : decode M_Mo_write.2.1 8 = .ok (.iload_n 1, 1) := by decide +kernel
theorem d_Mo_write_9 : decode M_Mo_write.2.1 9 = .ok (.sipush 255, 3) := by decide +kernel
theorem d_Mo_write_12 : decode M_Mo_write.2.1 12 = .ok (.iand, 1) := by decide +kernel
theorem d_Mo_write_13 : decode M_Mo_write.2.1 13 = .ok (.iastore, 1) := by decide +kernel
theorem d_Mo_write_14 : decode M_Mo_write.2.1 14 = .ok (.aload_n 0, 1) := by decide +kernel
theorem d_Mo_write_15 : decode M_Mo_write.2.1 15 = .ok (.dup, 1) := by decide +kernel
theorem d_Mo_write_16 : decode M_Mo_write.2.1 16 = .ok (.getfield 148, 3) := by decide +kernel
theorem d_Mo_write_19 : decode M_Mo_write.2.1 19 = .ok (.iconst 1, 1) := by decide +kernel
theorem d_Mo_write_20 : decode M_Mo_write.2.1 20 = .ok (.iadd, 1) := by decide +kernel
theorem d_Mo_write_21 : decode M_Mo_write.2.1 21 = .ok (.putfield 148, 3) := by decide +kernel
theorem d_Mo_write_24 : decode M_Mo_write.2.1 24 = .ok (.return_, 1) := by decide +kernel
def f_Mo_write (x0 : Nat) (x1 : Int32) (c : cM) (K : cM → Prop) : Prop :=
  kd x0 = 7 ∧ (kd (rf x0 18) = 100 ∧ (vp_in (c x0 17) (ln (rf x0 18)) ∧ (∀ c4 : cM, c4 = c_up c (rf x0 18) (Int32.toNatClampNeg (c x0 17)) (x1 &&& 255) → (∀ c5 : cM, c5 = c_up c4 x0 17 ((c4 x0 17) + 1) → (K c5)))))
theorem c_Mo_write {x0 : Nat} {x1 : Int32} {c : cM} {K : cM → Prop} (h : f_Mo_write x0 x1 c K) : Ct M_Mo_write 0 0 0 (wd c) [.ref x0, .int x1] (PoV K) := by
  refine Ct.of (by decide +kernel) (Nat.le_of_ble_eq_true rfl) (fun Z T => ?_)
  have F := T.F
  unfold f_Mo_write at h
  show Z (wd c) 0 [(0, .ref x0), (1, .int x1)] [] 0 0
  refine g_aload_n F (pc := 0) d_Mo_write_0 0 rfl ?_
  obtain ⟨o1, h⟩ := h
  refine gc_getR F (pc := 1) d_Mo_write_1 fi_Mo_50 o1 (g_aload_n F (pc := 4) d_Mo_write_4 0 rfl (gc_getI F (pc := 5) d_Mo_write_5 fi_Mo_148 o1 (g_iload_n F (pc := 8) d_Mo_write_8 1 rfl (g_sipush (v := 255) F (pc := 9) d_Mo_write_9 (by decide) (g_iand F (pc := 12) d_Mo_write_12 ?_)))))
  obtain ⟨o2, h⟩ := h
  obtain ⟨o3, h⟩ := h
  refine gc_iast F (pc := 13) d_Mo_write_13 o2 o3 ?_
  obtain ⟨c4, ec4⟩ : ∃ c4 : cM, c4 = c_up c (rf x0 18) (Int32.toNatClampNeg (c x0 17)) (x1 &&& 255) := ⟨_, rfl⟩
  rw [← ec4]
  replace h := h c4 ec4
  refine g_aload_n F (pc := 14) d_Mo_write_14 0 rfl (g_dup F (pc := 15) d_Mo_write_15 rfl (gc_getI F (pc := 16) d_Mo_write_16 fi_Mo_148 o1 (g_iconst (v := 1) F (pc := 19) d_Mo_write_19 (by decide) (g_iadd F (pc := 20) d_Mo_write_20 (gc_putI F (pc := 21) d_Mo_write_21 pi_Mo_148 o1 ?_)))))
  obtain ⟨c5, ec5⟩ : ∃ c5 : cM, c5 = c_up c4 x0 17 ((c4 x0 17) + 1) := ⟨_, rfl⟩
  rw [← ec5]
  replace h := h c5 ec5
  exact g_vret T (pc := 24) d_Mo_write_24 rfl (Nat.le_refl _) (Nat.le_refl _) (poV h)
theorem d_Mo_alike_0 : decode M_Mo_alike.2.1 0 = .ok (.iconst 0, 1) := by decide +kernel
theorem d_Mo_alike_1 : decode M_Mo_alike.2.1 1 = .ok (.istore 5, 2) := by decide +kernel
theorem d_Mo_alike_3 : decode M_Mo_alike.2.1 3 = .ok (.iload_n 2, 1) := by decide +kernel
theorem d_Mo_alike_4 : decode M_Mo_alike.2.1 4 = .ok (.iload 5, 2) := by decide +kernel
theorem d_Mo_alike_6 : decode M_Mo_alike.2.1 6 = .ok (.iadd, 1) := by decide +kernel
theorem d_Mo_alike_7 : decode M_Mo_alike.2.1 7 = .ok (.aload_n 0, 1) := by decide +kernel
theorem d_Mo_alike_8 : decode M_Mo_alike.2.1 8 = .ok (.getfield 13, 3) := by decide +kernel
theorem d_Mo_alike_11 : decode M_Mo_alike.2.1 11 = .ok (.iload_n 1, 1) := by decide +kernel
theorem d_Mo_alike_12 : decode M_Mo_alike.2.1 12 = .ok (.iaload, 1) := by decide +kernel
theorem d_Mo_alike_13 : decode M_Mo_alike.2.1 13 = .ok (.if_icmp .ge 55, 3) := by decide +kernel
theorem d_Mo_alike_16 : decode M_Mo_alike.2.1 16 = .ok (.iload 4, 2) := by decide +kernel
theorem d_Mo_alike_18 : decode M_Mo_alike.2.1 18 = .ok (.iload 5, 2) := by decide +kernel
theorem d_Mo_alike_20 : decode M_Mo_alike.2.1 20 = .ok (.iadd, 1) := by decide +kernel
theorem d_Mo_alike_21 : decode M_Mo_alike.2.1 21 = .ok (.aload_n 0, 1) := by decide +kernel
theorem d_Mo_alike_22 : decode M_Mo_alike.2.1 22 = .ok (.getfield 13, 3) := by decide +kernel
theorem d_Mo_alike_25 : decode M_Mo_alike.2.1 25 = .ok (.iload_n 3, 1) := by decide +kernel
theorem d_Mo_alike_26 : decode M_Mo_alike.2.1 26 = .ok (.iaload, 1) := by decide +kernel
theorem d_Mo_alike_27 : decode M_Mo_alike.2.1 27 = .ok (.if_icmp .ge 41, 3) := by decide +kernel
theorem d_Mo_alike_30 : decode M_Mo_alike.2.1 30 = .ok (.aload_n 0, 1) := by decide +kernel
theorem d_Mo_alike_31 : decode M_Mo_alike.2.1 31 = .ok (.getfield 16, 3) := by decide +kernel
theorem d_Mo_alike_34 : decode M_Mo_alike.2.1 34 = .ok (.bipush 120, 2) := by decide +kernel
theorem d_Mo_alike_36 : decode M_Mo_alike.2.1 36 = .ok (.iload_n 1, 1) := by decide +kernel
theorem d_Mo_alike_37 : decode M_Mo_alike.2.1 37 = .ok (.imul, 1) := by decide +kernel
theorem d_Mo_alike_38 : decode M_Mo_alike.2.1 38 = .ok (.iload_n 2, 1) := by decide +kernel
theorem d_Mo_alike_39 : decode M_Mo_alike.2.1 39 = .ok (.iadd, 1) := by decide +kernel
theorem d_Mo_alike_40 : decode M_Mo_alike.2.1 40 = .ok (.iload 5, 2) := by decide +kernel
theorem d_Mo_alike_42 : decode M_Mo_alike.2.1 42 = .ok (.iadd, 1) := by decide +kernel
theorem d_Mo_alike_43 : decode M_Mo_alike.2.1 43 = .ok (.iaload, 1) := by decide +kernel
theorem d_Mo_alike_44 : decode M_Mo_alike.2.1 44 = .ok (.aload_n 0, 1) := by decide +kernel
theorem d_Mo_alike_45 : decode M_Mo_alike.2.1 45 = .ok (.getfield 16, 3) := by decide +kernel
theorem d_Mo_alike_48 : decode M_Mo_alike.2.1 48 = .ok (.bipush 120, 2) := by decide +kernel
theorem d_Mo_alike_50 : decode M_Mo_alike.2.1 50 = .ok (.iload_n 3, 1) := by decide +kernel
theorem d_Mo_alike_51 : decode M_Mo_alike.2.1 51 = .ok (.imul, 1) := by decide +kernel
theorem d_Mo_alike_52 : decode M_Mo_alike.2.1 52 = .ok (.iload 4, 2) := by decide +kernel
theorem d_Mo_alike_54 : decode M_Mo_alike.2.1 54 = .ok (.iadd, 1) := by decide +kernel
theorem d_Mo_alike_55 : decode M_Mo_alike.2.1 55 = .ok (.iload 5, 2) := by decide +kernel
theorem d_Mo_alike_57 : decode M_Mo_alike.2.1 57 = .ok (.iadd, 1) := by decide +kernel
theorem d_Mo_alike_58 : decode M_Mo_alike.2.1 58 = .ok (.iaload, 1) := by decide +kernel
theorem d_Mo_alike_59 : decode M_Mo_alike.2.1 59 = .ok (.if_icmp .ne 9, 3) := by decide +kernel
theorem d_Mo_alike_62 : decode M_Mo_alike.2.1 62 = .ok (.iinc 5 1, 3) := by decide +kernel
theorem d_Mo_alike_65 : decode M_Mo_alike.2.1 65 = .ok (.goto (-62), 3) := by decide +kernel
theorem d_Mo_alike_68 : decode M_Mo_alike.2.1 68 = .ok (.iload 5, 2) := by decide +kernel
theorem d_Mo_alike_70 : decode M_Mo_alike.2.1 70 = .ok (.ireturn, 1) := by decide +kernel
def f_Mo_alike (x0 : Nat) (x1 : Int32) (x2 : Int32) (x3 : Int32) (x4 : Int32) (c : cM) (K : Int32 → cM → Prop) : Prop :=
  ∃ I1 : Nat → Int32 → Prop, (∃ n, I1 n 0) ∧ ∀ (n2 : Nat) (y5 : Int32), I1 n2 y5 → (kd x0 = 7 ∧ (kd (rf x0 2) = 100 ∧ (vp_in x1 (ln (rf x0 2)) ∧ ((((c (rf x0 2) (Int32.toNatClampNeg x1)) ≤ (x2 + y5)) → (K y5 c)) ∧ (¬ ((c (rf x0 2) (Int32.toNatClampNeg x1)) ≤ (x2 + y5)) → (vp_in x3 (ln (rf x0 2)) ∧ ((((c (rf x0 2) (Int32.toNatClampNeg x3)) ≤ (x4 + y5)) → (K y5 c)) ∧ (¬ ((c (rf x0 2) (Int32.toNatClampNeg x3)) ≤ (x4 + y5)) → (kd (rf x0 3) = 100 ∧ (vp_in (((120 * x1) + x2) + y5) (ln (rf x0 3)) ∧ (vp_in (((120 * x3) + x4) + y5) (ln (rf x0 3)) ∧ (((¬ (c (rf x0 3) (Int32.toNatClampNeg (((120 * x1) + x2) + y5))) = (c (rf x0 3) (Int32.toNatClampNeg (((120 * x3) + x4) + y5)))) → (K y5 c)) ∧ ((c (rf x0 3) (Int32.toNatClampNeg (((120 * x1) + x2) + y5))) = (c (rf x0 3) (Int32.toNatClampNeg (((120 * x3) + x4) + y5))) → (∃ m, m < n2 ∧ I1 m (y5 + 1)))))))))))))))
theorem c_Mo_alike {x0 : Nat} {x1 : Int32} {x2 : Int32} {x3 : Int32} {x4 : Int32} {c : cM} {K : Int32 → cM → Prop} (h : f_Mo_alike x0 x1 x2 x3 x4 c K) : Ct M_Mo_alike 0 0 0 (wd c) [.ref x0, .int x1, .int x2, .int x3, .int x4] (PoI K) := by
  refine Ct.of (by decide +kernel) (Nat.le_of_ble_eq_true rfl) (fun Z T => ?_)
  have F := T.F
  unfold f_Mo_alike at h
  show Z (wd c) 0 [(0, .ref x0), (1, .int x1), (2, .int x2), (3, .int x3), (4, .int x4)] [] 0 0
  refine g_iconst (v := 0) F (pc := 0) d_Mo_alike_0 (by decide) (g_istore (lv' := [(5, .int 0), (0, .ref x0), (1, .int x1), (2, .int x2), (3, .int x3), (4, .int x4)]) F (pc := 1) d_Mo_alike_1 (by decide) rfl ?_)
  refine g_lv (lv' := [(0, .ref x0), (1, .int x1), (2, .int x2), (3, .int x3), (4, .int x4), (5, .int 0)]) F [1, 2, 3, 4, 5, 0] rfl ?_
  obtain ⟨I1, ⟨n0, h⟩, hI1⟩ := h
  have lp4 : ∀ (n2 : Nat) (y5 : Int32), I1 n2 y5 → Z (wd c) 3 [(0, .ref x0), (1, .int x1), (2, .int x2), (3, .int x3), (4, .int x4), (5, .int y5)] [] 0 0 := by
    intro n2
    induction n2 using Nat.strongRecOn with
    | _ n2 ih3 =>
      intro y5 h
      replace h := hI1 n2 y5 h
      refine g_iload_n F (pc := 3) d_Mo_alike_3 2 rfl (g_iload F (pc := 4) d_Mo_alike_4 5 rfl (g_iadd F (pc := 6) d_Mo_alike_6 (g_aload_n F (pc := 7) d_Mo_alike_7 0 rfl ?_)))
      obtain ⟨o6, h⟩ := h
      refine gc_getR F (pc := 8) d_Mo_alike_8 fi_Mo_13 o6 (g_iload_n F (pc := 11) d_Mo_alike_11 1 rfl ?_)
      obtain ⟨o7, h⟩ := h
      obtain ⟨o8, h⟩ := h
      refine gc_iald F (pc := 12) d_Mo_alike_12 o7 o8 ?_
      refine g_icmp_ge (tgt := 68) F (pc := 13) d_Mo_alike_13 (by decide) (fun b9 => ?_) (fun b9 => ?_)
      · replace h := h.1 b9
        refine g_iload F (pc := 68) d_Mo_alike_68 5 rfl ?_
        exact g_iret T (pc := 70) d_Mo_alike_70 rfl (Nat.le_refl _) (Nat.le_refl _) (poI h)
      · replace h := h.2 b9
        refine g_iload F (pc := 16) d_Mo_alike_16 4 rfl (g_iload F (pc := 18) d_Mo_alike_18 5 rfl (g_iadd F (pc := 20) d_Mo_alike_20 (g_aload_n F (pc := 21) d_Mo_alike_21 0 rfl (gc_getR F (pc := 22) d_Mo_alike_22 fi_Mo_13 o6 (g_iload_n F (pc := 25) d_Mo_alike_25 3 rfl ?_)))))
        obtain ⟨o10, h⟩ := h
        refine gc_iald F (pc := 26) d_Mo_alike_26 o7 o10 ?_
        refine g_icmp_ge (tgt := 68) F (pc := 27) d_Mo_alike_27 (by decide) (fun b11 => ?_) (fun b11 => ?_)
        · replace h := h.1 b11
          refine g_iload F (pc := 68) d_Mo_alike_68 5 rfl ?_
          exact g_iret T (pc := 70) d_Mo_alike_70 rfl (Nat.le_refl _) (Nat.le_refl _) (poI h)
        · replace h := h.2 b11
          refine g_aload_n F (pc := 30) d_Mo_alike_30 0 rfl (gc_getR F (pc := 31) d_Mo_alike_31 fi_Mo_16 o6 (g_bipush (v := 120) F (pc := 34) d_Mo_alike_34 (by decide) (g_iload_n F (pc := 36) d_Mo_alike_36 1 rfl (g_imul F (pc := 37) d_Mo_alike_37 (g_iload_n F (pc := 38) d_Mo_alike_38 2 rfl ?_)))))
          refine g_iadd F (pc := 39) d_Mo_alike_39 (g_iload F (pc := 40) d_Mo_alike_40 5 rfl (g_iadd F (pc := 42) d_Mo_alike_42 ?_))
          obtain ⟨o12, h⟩ := h
          obtain ⟨o13, h⟩ := h
          refine gc_iald F (pc := 43) d_Mo_alike_43 o12 o13 (g_aload_n F (pc := 44) d_Mo_alike_44 0 rfl (gc_getR F (pc := 45) d_Mo_alike_45 fi_Mo_16 o6 (g_bipush (v := 120) F (pc := 48) d_Mo_alike_48 (by decide) (g_iload_n F (pc := 50) d_Mo_alike_50 3 rfl (g_imul F (pc := 51) d_Mo_alike_51 ?_)))))
          refine g_iload F (pc := 52) d_Mo_alike_52 4 rfl (g_iadd F (pc := 54) d_Mo_alike_54 (g_iload F (pc := 55) d_Mo_alike_55 5 rfl (g_iadd F (pc := 57) d_Mo_alike_57 ?_)))
          obtain ⟨o14, h⟩ := h
          refine gc_iald F (pc := 58) d_Mo_alike_58 o12 o14 ?_
          refine g_icmp_ne (tgt := 68) F (pc := 59) d_Mo_alike_59 (by decide) (fun b15 => ?_) (fun b15 => ?_)
          · replace h := h.1 b15
            refine g_iload F (pc := 68) d_Mo_alike_68 5 rfl ?_
            exact g_iret T (pc := 70) d_Mo_alike_70 rfl (Nat.le_refl _) (Nat.le_refl _) (poI h)
          · replace h := h.2 b15
            refine g_iinc (v := (y5 + 1)) (lv' := [(5, .int (y5 + 1)), (0, .ref x0), (1, .int x1), (2, .int x2), (3, .int x3), (4, .int x4)]) F (pc := 62) d_Mo_alike_62 5 rfl (sk_inc (by decide)) (by decide) rfl (g_goto (tgt := 3) F (pc := 65) d_Mo_alike_65 (by decide) ?_)
            refine g_lv (lv' := [(0, .ref x0), (1, .int x1), (2, .int x2), (3, .int x3), (4, .int x4), (5, .int (y5 + 1))]) F [1, 2, 3, 4, 5, 0] rfl ?_
            obtain ⟨m, hm, h⟩ := h
            exact ih3 m hm _ h
  exact lp4 n0 _ h
theorem d_Mo_differ_0 : decode M_Mo_differ.2.1 0 = .ok (.aload_n 0, 1) := by decide +kernel
theorem d_Mo_differ_1 : decode M_Mo_differ.2.1 1 = .ok (.getfield 56, 3) := by decide +kernel
theorem d_Mo_differ_4 : decode M_Mo_differ.2.1 4 = .ok (.iconst 0, 1) := by decide +kernel
theorem d_Mo_differ_5 : decode M_Mo_differ.2.1 5 = .ok (.aload_n 0, 1) := by decide +kernel
theorem d_Mo_differ_6 : decode M_Mo_differ.2.1 6 = .ok (.getfield 13, 3) := by decide +kernel
theorem d_Mo_differ_9 : decode M_Mo_differ.2.1 9 = .ok (.iload_n 1, 1) := by decide +kernel
theorem d_Mo_differ_10 : decode M_Mo_differ.2.1 10 = .ok (.iaload, 1) := by decide +kernel
theorem d_Mo_differ_11 : decode M_Mo_differ.2.1 11 = .ok (.iastore, 1) := by decide +kernel
theorem d_Mo_differ_12 : decode M_Mo_differ.2.1 12 = .ok (.aload_n 0, 1) := by decide +kernel
theorem d_Mo_differ_13 : decode M_Mo_differ.2.1 13 = .ok (.getfield 56, 3) := by decide +kernel
theorem d_Mo_differ_16 : decode M_Mo_differ.2.1 16 = .ok (.iconst 1, 1) := by decide +kernel
theorem d_Mo_differ_17 : decode M_Mo_differ.2.1 17 = .ok (.aload_n 0, 1) := by decide +kernel
theorem d_Mo_differ_18 : decode M_Mo_differ.2.1 18 = .ok (.getfield 13, 3) := by decide +kernel
theorem d_Mo_differ_21 : decode M_Mo_differ.2.1 21 = .ok (.iload_n 2, 1) := by decide +kernel
theorem d_Mo_differ_22 : decode M_Mo_differ.2.1 22 = .ok (.iaload, 1) := by decide +kernel
theorem d_Mo_differ_23 : decode M_Mo_differ.2.1 23 = .ok (.iastore, 1) := by decide +kernel
theorem d_Mo_differ_24 : decode M_Mo_differ.2.1 24 = .ok (.iconst 2, 1) := by decide +kernel
theorem d_Mo_differ_25 : decode M_Mo_differ.2.1 25 = .ok (.istore_n 3, 1) := by decide +kernel
theorem d_Mo_differ_26 : decode M_Mo_differ.2.1 26 = .ok (.iconst 0, 1) := by decide +kernel
theorem d_Mo_differ_27 : decode M_Mo_differ.2.1 27 = .ok (.istore 4, 2) := by decide +kernel
theorem d_Mo_differ_29 : decode M_Mo_differ.2.1 29 = .ok (.iconst 0, 1) := by decide +kernel
theorem d_Mo_differ_30 : decode M_Mo_differ.2.1 30 = .ok (.istore 5, 2) := by decide +kernel
theorem d_Mo_differ_32 : decode M_Mo_differ.2.1 32 = .ok (.iload 5, 2) := by decide +kernel
theorem d_Mo_differ_34 : decode M_Mo_differ.2.1 34 = .ok (.aload_n 0, 1) := by decide +kernel
theorem d_Mo_differ_35 : decode M_Mo_differ.2.1 35 = .ok (.getfield 13, 3) := by decide +kernel
theorem d_Mo_differ_38 : decode M_Mo_differ.2.1 38 = .ok (.iload_n 2, 1) := by decide +kernel
theorem d_Mo_differ_39 : decode M_Mo_differ.2.1 39 = .ok (.iaload, 1) := by decide +kernel
theorem d_Mo_differ_40 : decode M_Mo_differ.2.1 40 = .ok (.if_icmp .ge 179, 3) := by decide +kernel
theorem d_Mo_differ_43 : decode M_Mo_differ.2.1 43 = .ok (.iconst 0, 1) := by decide +kernel
theorem d_Mo_differ_44 : decode M_Mo_differ.2.1 44 = .ok (.istore 6, 2) := by decide +kernel
theorem d_Mo_differ_46 : decode M_Mo_differ.2.1 46 = .ok (.iconst 0, 1) := by decide +kernel
theorem d_Mo_differ_47 : decode M_Mo_differ.2.1 47 = .ok (.istore 7, 2) := by decide +kernel
theorem d_Mo_differ_49 : decode M_Mo_differ.2.1 49 = .ok (.aload_n 0, 1) := by decide +kernel
theorem d_Mo_differ_50 : decode M_Mo_differ.2.1 50 = .ok (.getfield 13, 3) := by decide +kernel
theorem d_Mo_differ_53 : decode M_Mo_differ.2.1 53 = .ok (.iload_n 1, 1) := by decide +kernel
theorem d_Mo_differ_54 : decode M_Mo_differ.2.1 54 = .ok (.iaload, 1) := by decide +kernel
theorem d_Mo_differ_55 : decode M_Mo_differ.2.1 55 = .ok (.iconst 1, 1) := by decide +kernel
theorem d_Mo_differ_56 : decode M_Mo_differ.2.1 56 = .ok (.isub, 1) := by decide +kernel
theorem d_Mo_differ_57 : decode M_Mo_differ.2.1 57 = .ok (.istore 8, 2) := by decide +kernel
theorem d_Mo_differ_59 : decode M_Mo_differ.2.1 59 = .ok (.iload 8, 2) := by decide +kernel
theorem d_Mo_differ_61 : decode M_Mo_differ.2.1 61 = .ok (.ifCond .lt 53, 3) := by decide +kernel
theorem d_Mo_differ_64 : decode M_Mo_differ.2.1 64 = .ok (.aload_n 0, 1) := by decide +kernel
theorem d_Mo_differ_65 : decode M_Mo_differ.2.1 65 = .ok (.iload_n 1, 1) := by decide +kernel
theorem d_Mo_differ_66 : decode M_Mo_differ.2.1 66 = .ok (.iload 8, 2) := by decide +kernel
theorem d_Mo_differ_68 : decode M_Mo_differ.2.1 68 = .ok (.iload_n 2, 1) := by decide +kernel
theorem d_Mo_differ_69 : decode M_Mo_differ.2.1 69 = .ok (.iload 5, 2) := by decide +kernel
theorem d_Mo_differ_71 : decode M_Mo_differ.2.1 71 = .ok (.invokevirtual 151, 3) := by decide +kernel
theorem d_Mo_differ_74 : decode M_Mo_differ.2.1 74 = .ok (.istore 9, 2) := by decide +kernel
theorem d_Mo_differ_76 : decode M_Mo_differ.2.1 76 = .ok (.iload 9, 2) := by decide +kernel
theorem d_Mo_differ_78 : decode M_Mo_differ.2.1 78 = .ok (.iload 6, 2) := by decide +kernel
theorem d_Mo_differ_80 : decode M_Mo_differ.2.1 80 = .ok (.if_icmp .lt 8, 3) := by decide +kernel
theorem d_Mo_differ_83 : decode M_Mo_differ.2.1 83 = .ok (.iload 8, 2) := by decide +kernel
theorem d_Mo_differ_85 : decode M_Mo_differ.2.1 85 = .ok (.goto 5, 3) := by decide +kernel
theorem d_Mo_differ_88 : decode M_Mo_differ.2.1 88 = .ok (.iload 7, 2) := by decide +kernel
theorem d_Mo_differ_90 : decode M_Mo_differ.2.1 90 = .ok (.istore 7, 2) := by decide +kernel
theorem d_Mo_differ_92 : decode M_Mo_differ.2.1 92 = .ok (.iload 9, 2) := by decide +kernel
theorem d_Mo_differ_94 : decode M_Mo_differ.2.1 94 = .ok (.iload 6, 2) := by decide +kernel
theorem d_Mo_differ_96 : decode M_Mo_differ.2.1 96 = .ok (.if_icmp .lt 8, 3) := by decide +kernel
theorem d_Mo_differ_99 : decode M_Mo_differ.2.1 99 = .ok (.iload 9, 2) := by decide +kernel
theorem d_Mo_differ_101 : decode M_Mo_differ.2.1 101 = .ok (.goto 5, 3) := by decide +kernel
theorem d_Mo_differ_104 : decode M_Mo_differ.2.1 104 = .ok (.iload 6, 2) := by decide +kernel
theorem d_Mo_differ_106 : decode M_Mo_differ.2.1 106 = .ok (.istore 6, 2) := by decide +kernel
theorem d_Mo_differ_108 : decode M_Mo_differ.2.1 108 = .ok (.iinc 8 (-1), 3) := by decide +kernel
theorem d_Mo_differ_111 : decode M_Mo_differ.2.1 111 = .ok (.goto (-52), 3) := by decide +kernel
theorem d_Mo_differ_114 : decode M_Mo_differ.2.1 114 = .ok (.iload 6, 2) := by decide +kernel
theorem d_Mo_differ_116 : decode M_Mo_differ.2.1 116 = .ok (.iconst 4, 1) := by decide +kernel
theorem d_Mo_differ_117 : decode M_Mo_differ.2.1 117 = .ok (.if_icmp .lt 48, 3) := by decide +kernel
theorem d_Mo_differ_120 : decode M_Mo_differ.2.1 120 = .ok (.iconst 0, 1) := by decide +kernel
theorem d_Mo_differ_121 : decode M_Mo_differ.2.1 121 = .ok (.istore 4, 2) := by decide +kernel
theorem d_Mo_differ_123 : decode M_Mo_differ.2.1 123 = .ok (.aload_n 0, 1) := by decide +kernel
theorem d_Mo_differ_124 : decode M_Mo_differ.2.1 124 = .ok (.getfield 56, 3) := by decide +kernel
theorem d_Mo_differ_127 : decode M_Mo_differ.2.1 127 = .ok (.iload_n 3, 1) := by decide +kernel
theorem d_Mo_differ_128 : decode M_Mo_differ.2.1 128 = .ok (.sipush 145, 3) := by decide +kernel
theorem d_Mo_differ_131 : decode M_Mo_differ.2.1 131 = .ok (.iastore, 1) := by decide +kernel
theorem d_Mo_differ_132 : decode M_Mo_differ.2.1 132 = .ok (.aload_n 0, 1) := by decide +kernel
theorem d_Mo_differ_133 : decode M_Mo_differ.2.1 133 = .ok (.getfield 56, 3) := by decide +kernel
theorem d_Mo_differ_136 : decode M_Mo_differ.2.1 136 = .ok (.iload_n 3, 1) := by decide +kernel
theorem d_Mo_differ_137 : decode M_Mo_differ.2.1 137 = .ok (.iconst 1, 1) := by decide +kernel
theorem d_Mo_differ_138 : decode M_Mo_differ.2.1 138 = .ok (.iadd, 1) := by decide +kernel
theorem d_Mo_differ_139 : decode M_Mo_differ.2.1 139 = .ok (.iload 7, 2) := by decide +kernel
theorem d_Mo_differ_141 : decode M_Mo_differ.2.1 141 = .ok (.iastore, 1) := by decide +kernel
theorem d_Mo_differ_142 : decode M_Mo_differ.2.1 142 = .ok (.aload_n 0, 1) := by decide +kernel
theorem d_Mo_differ_143 : decode M_Mo_differ.2.1 143 = .ok (.getfield 56, 3) := by decide +kernel
theorem d_Mo_differ_146 : decode M_Mo_differ.2.1 146 = .ok (.iload_n 3, 1) := by decide +kernel
theorem d_Mo_differ_147 : decode M_Mo_differ.2.1 147 = .ok (.iconst 2, 1) := by decide +kernel
theorem d_Mo_differ_148 : decode M_Mo_differ.2.1 148 = .ok (.iadd, 1) := by decide +kernel
theorem d_Mo_differ_149 : decode M_Mo_differ.2.1 149 = .ok (.iload 6, 2) := by decide +kernel
theorem d_Mo_differ_151 : decode M_Mo_differ.2.1 151 = .ok (.iastore, 1) := by decide +kernel
theorem d_Mo_differ_152 : decode M_Mo_differ.2.1 152 = .ok (.iinc 3 3, 3) := by decide +kernel
theorem d_Mo_differ_155 : decode M_Mo_differ.2.1 155 = .ok (.iload 5, 2) := by decide +kernel
theorem d_Mo_differ_157 : decode M_Mo_differ.2.1 157 = .ok (.iload 6, 2) := by decide +kernel
theorem d_Mo_differ_159 : decode M_Mo_differ.2.1 159 = .ok (.iadd, 1) := by decide +kernel
theorem d_Mo_differ_160 : decode M_Mo_differ.2.1 160 = .ok (.istore 5, 2) := by decide +kernel
theorem d_Mo_differ_162 : decode M_Mo_differ.2.1 162 = .ok (.goto 54, 3) := by decide +kernel
theorem d_Mo_differ_165 : decode M_Mo_differ.2.1 165 = .ok (.iload 4, 2) := by decide +kernel
theorem d_Mo_differ_167 : decode M_Mo_differ.2.1 167 = .ok (.ifCond .ne 9, 3) := by decide +kernel
theorem d_Mo_differ_170 : decode M_Mo_differ.2.1 170 = .ok (.iload_n 3, 1) := by decide +kernel
theorem d_Mo_differ_171 : decode M_Mo_differ.2.1 171 = .ok (.iconst 1, 1) := by decide +kernel
theorem d_Mo_differ_172 : decode M_Mo_differ.2.1 172 = .ok (.iadd, 1) := by decide +kernel
theorem d_Mo_differ_173 : decode M_Mo_differ.2.1 173 = .ok (.goto 4, 3) := by decide +kernel
theorem d_Mo_differ_176 : decode M_Mo_differ.2.1 176 = .ok (.iload_n 3, 1) := by decide +kernel
theorem d_Mo_differ_177 : decode M_Mo_differ.2.1 177 = .ok (.istore_n 3, 1) := by decide +kernel
theorem d_Mo_differ_178 : decode M_Mo_differ.2.1 178 = .ok (.iinc 4 1, 3) := by decide +kernel
theorem d_Mo_differ_181 : decode M_Mo_differ.2.1 181 = .ok (.aload_n 0, 1) := by decide +kernel
theorem d_Mo_differ_182 : decode M_Mo_differ.2.1 182 = .ok (.getfield 56, 3) := by decide +kernel
theorem d_Mo_differ_185 : decode M_Mo_differ.2.1 185 = .ok (.iload_n 3, 1) := by decide +kernel
theorem d_Mo_differ_186 : decode M_Mo_differ.2.1 186 = .ok (.iload 4, 2) := by decide +kernel
theorem d_Mo_differ_188 : decode M_Mo_differ.2.1 188 = .ok (.isub, 1) := by decide +kernel
theorem d_Mo_differ_189 : decode M_Mo_differ.2.1 189 = .ok (.iload 4, 2) := by decide +kernel
theorem d_Mo_differ_191 : decode M_Mo_differ.2.1 191 = .ok (.iastore, 1) := by decide +kernel
theorem d_Mo_differ_192 : decode M_Mo_differ.2.1 192 = .ok (.aload_n 0, 1) := by decide +kernel
theorem d_Mo_differ_193 : decode M_Mo_differ.2.1 193 = .ok (.getfield 56, 3) := by decide +kernel
theorem d_Mo_differ_196 : decode M_Mo_differ.2.1 196 = .ok (.iload_n 3, 1) := by decide +kernel
theorem d_Mo_differ_197 : decode M_Mo_differ.2.1 197 = .ok (.aload_n 0, 1) := by decide +kernel
theorem d_Mo_differ_198 : decode M_Mo_differ.2.1 198 = .ok (.getfield 16, 3) := by decide +kernel
theorem d_Mo_differ_201 : decode M_Mo_differ.2.1 201 = .ok (.bipush 120, 2) := by decide +kernel
theorem d_Mo_differ_203 : decode M_Mo_differ.2.1 203 = .ok (.iload_n 2, 1) := by decide +kernel
theorem d_Mo_differ_204 : decode M_Mo_differ.2.1 204 = .ok (.imul, 1) := by decide +kernel
theorem d_Mo_differ_205 : decode M_Mo_differ.2.1 205 = .ok (.iload 5, 2) := by decide +kernel
theorem d_Mo_differ_207 : decode M_Mo_differ.2.1 207 = .ok (.iadd, 1) := by decide +kernel
theorem d_Mo_differ_208 : decode M_Mo_differ.2.1 208 = .ok (.iaload, 1) := by decide +kernel
theorem d_Mo_differ_209 : decode M_Mo_differ.2.1 209 = .ok (.iastore, 1) := by decide +kernel
theorem d_Mo_differ_210 : decode M_Mo_differ.2.1 210 = .ok (.iinc 3 1, 3) := by decide +kernel
theorem d_Mo_differ_213 : decode M_Mo_differ.2.1 213 = .ok (.iinc 5 1, 3) := by decide +kernel
theorem d_Mo_differ_216 : decode M_Mo_differ.2.1 216 = .ok (.goto (-184), 3) := by decide +kernel
theorem d_Mo_differ_219 : decode M_Mo_differ.2.1 219 = .ok (.iload_n 3, 1) := by decide +kernel
theorem d_Mo_differ_220 : decode M_Mo_differ.2.1 220 = .ok (.ireturn, 1) := by decide +kernel
def f_Mo_differ (x0 : Nat) (x1 : Int32) (x2 : Int32) (c : cM) (K : Int32 → cM → Prop) : Prop :=
  kd x0 = 7 ∧ (kd (rf x0 2) = 100 ∧ (vp_in x1 (ln (rf x0 2)) ∧ (kd (rf x0 24) = 100 ∧ (vp_in 0 (ln (rf x0 24)) ∧ (∀ c6 : cM, c6 = c_up c (rf x0 24) (Int32.toNatClampNeg 0) (c (rf x0 2) (Int32.toNatClampNeg x1)) → (vp_in x2 (ln (rf x0 2)) ∧ (vp_in 1 (ln (rf x0 24)) ∧ (∀ c9 : cM, c9 = c_up c6 (rf x0 24) (Int32.toNatClampNeg 1) (c6 (rf x0 2) (Int32.toNatClampNeg x2)) → (∃ I10 : Nat → Int32 → Int32 → Int32 → cM → Prop, (∃ n, I10 n 2 0 0 c9) ∧ ∀ (n11 : Nat) (y14 : Int32) (y15 : Int32) (y16 : Int32) (c17 : cM), I10 n11 y14 y15 y16 c17 → ((((c17 (rf x0 2) (Int32.toNatClampNeg x2)) ≤ y16) → (K y14 c17)) ∧ (¬ ((c17 (rf x0 2) (Int32.toNatClampNeg x2)) ≤ y16) → (∃ I19 : Nat → Int32 → Int32 → Int32 → cM → Prop, (∃ n, I19 n 0 0 ((c17 (rf x0 2) (Int32.toNatClampNeg x1)) - 1) c17) ∧ ∀ (n20 : Nat) (y23 : Int32) (y24 : Int32) (y25 : Int32) (c26 : cM), I19 n20 y23 y24 y25 c26 → (((y25 < 0) → (∃ J52 : Int32 → Int32 → Int32 → cM → Prop, (∀ (y48 : Int32) (y49 : Int32) (y50 : Int32) (c51 : cM), J52 y48 y49 y50 c51 → (∃ m, m < n11 ∧ I10 m y48 y49 y50 c51)) ∧ (((y23 < 4) → (∃ J56 : Int32 → Prop, (∀ (s55 : Int32), J56 s55 → (vp_in (s55 - (y15 + 1)) (ln (rf x0 24)) ∧ (∀ c59 : cM, c59 = c_up c26 (rf x0 24) (Int32.toNatClampNeg (s55 - (y15 + 1))) (y15 + 1) → (kd (rf x0 3) = 100 ∧ (vp_in ((120 * x2) + y16) (ln (rf x0 3)) ∧ (vp_in s55 (ln (rf x0 24)) ∧ (∀ c63 : cM, c63 = c_up c59 (rf x0 24) (Int32.toNatClampNeg s55) (c59 (rf x0 3) (Int32.toNatClampNeg ((120 * x2) + y16))) → (J52 (s55 + 1) (y15 + 1) (y16 + 1) c63)))))))) ∧ (((¬ y15 = 0) → (J56 y14)) ∧ (y15 = 0 → (J56 (y14 + 1)))))) ∧ (¬ (y23 < 4) → (vp_in y14 (ln (rf x0 24)) ∧ (∀ c65 : cM, c65 = c_up c26 (rf x0 24) (Int32.toNatClampNeg y14) 145 → (vp_in (y14 + 1) (ln (rf x0 24)) ∧ (∀ c67 : cM, c67 = c_up c65 (rf x0 24) (Int32.toNatClampNeg (y14 + 1)) y24 → (vp_in (y14 + 2) (ln (rf x0 24)) ∧ (∀ c69 : cM, c69 = c_up c67 (rf x0 24) (Int32.toNatClampNeg (y14 + 2)) y23 → (J52 (y14 + 3) 0 (y16 + y23) c69))))))))))) ∧ (¬ (y25 < 0) → (f_Mo_alike x0 x1 y25 x2 y16 c26 (fun v71 c70 => ∃ J74 : Int32 → Prop, (∀ (s73 : Int32), J74 s73 → (∃ J78 : Int32 → Prop, (∀ (s77 : Int32), J78 s77 → (∃ m, m < n20 ∧ I19 m s77 s73 (y25 + (-1)) c70)) ∧ (((v71 < y23) → (J78 y23)) ∧ (¬ (v71 < y23) → (J78 v71))))) ∧ (((v71 < y23) → (J74 y24)) ∧ (¬ (v71 < y23) → (J74 y25)))))))))))))))))))
theorem c_Mo_differ {x0 : Nat} {x1 : Int32} {x2 : Int32} {c : cM} {K : Int32 → cM → Prop} (h : f_Mo_differ x0 x1 x2 c K) : Ct M_Mo_differ 1 0 0 (wd c) [.ref x0, .int x1, .int x2] (PoI K) := by
  refine Ct.of (by decide +kernel) (Nat.le_of_ble_eq_true rfl) (fun Z T => ?_)
  have F := T.F
  unfold f_Mo_differ at h
  show Z (wd c) 0 [(0, .ref x0), (1, .int x1), (2, .int x2)] [] 0 0
  refine g_aload_n F (pc := 0) d_Mo_differ_0 0 rfl ?_
  obtain ⟨o1, h⟩ := h
  refine gc_getR F (pc := 1) d_Mo_differ_1 fi_Mo_56 o1 (g_iconst (v := 0) F (pc := 4) d_Mo_differ_4 (by decide) (g_aload_n F (pc := 5) d_Mo_differ_5 0 rfl (gc_getR F (pc := 6) d_Mo_differ_6 fi_Mo_13 o1 (g_iload_n F (pc := 9) d_Mo_differ_9 1 rfl ?_))))
  obtain ⟨o2, h⟩ := h
  obtain ⟨o3, h⟩ := h
  refine gc_iald F (pc := 10) d_Mo_differ_10 o2 o3 ?_
  obtain ⟨o4, h⟩ := h
  obtain ⟨o5, h⟩ := h
  refine gc_iast F (pc := 11) d_Mo_differ_11 o4 o5 ?_
  obtain ⟨c6, ec6⟩ : ∃ c6 : cM, c6 = c_up c (rf x0 24) (Int32.toNatClampNeg 0) (c (rf x0 2) (Int32.toNatClampNeg x1)) := ⟨_, rfl⟩
  rw [← ec6]
  replace h := h c6 ec6
  refine g_aload_n F (pc := 12) d_Mo_differ_12 0 rfl (gc_getR F (pc := 13) d_Mo_differ_13 fi_Mo_56 o1 (g_iconst (v := 1) F (pc := 16) d_Mo_differ_16 (by decide) (g_aload_n F (pc := 17) d_Mo_differ_17 0 rfl (gc_getR F (pc := 18) d_Mo_differ_18 fi_Mo_13 o1 (g_iload_n F (pc := 21) d_Mo_differ_21 2 rfl ?_)))))
  obtain ⟨o7, h⟩ := h
  refine gc_iald F (pc := 22) d_Mo_differ_22 o2 o7 ?_
  obtain ⟨o8, h⟩ := h
  refine gc_iast F (pc := 23) d_Mo_differ_23 o4 o8 ?_
  obtain ⟨c9, ec9⟩ : ∃ c9 : cM, c9 = c_up c6 (rf x0 24) (Int32.toNatClampNeg 1) (c6 (rf x0 2) (Int32.toNatClampNeg x2)) := ⟨_, rfl⟩
  rw [← ec9]
  replace h := h c9 ec9
  refine g_iconst (v := 2) F (pc := 24) d_Mo_differ_24 (by decide) (g_istore_n (lv' := [(3, .int 2), (0, .ref x0), (1, .int x1), (2, .int x2)]) F (pc := 25) d_Mo_differ_25 (by decide) rfl (g_iconst (v := 0) F (pc := 26) d_Mo_differ_26 (by decide) (g_istore (lv' := [(4, .int 0), (3, .int 2), (0, .ref x0), (1, .int x1), (2, .int x2)]) F (pc := 27) d_Mo_differ_27 (by decide) rfl (g_iconst (v := 0) F (pc := 29) d_Mo_differ_29 (by decide) (g_istore (lv' := [(5, .int 0), (4, .int 0), (3, .int 2), (0, .ref x0), (1, .int x1), (2, .int x2)]) F (pc := 30) d_Mo_differ_30 (by decide) rfl ?_)))))
  refine g_lv (lv' := [(0, .ref x0), (1, .int x1), (2, .int x2), (3, .int 2), (4, .int 0), (5, .int 0)]) F [3, 4, 5, 2, 1, 0] rfl ?_
  obtain ⟨I10, ⟨n0, h⟩, hI10⟩ := h
  have lp13 : ∀ (n11 : Nat) (y14 : Int32) (y15 : Int32) (y16 : Int32) (c17 : cM), I10 n11 y14 y15 y16 c17 → Z (wd c17) 32 [(0, .ref x0), (1, .int x1), (2, .int x2), (3, .int y14), (4, .int y15), (5, .int y16)] [] 0 0 := by
    intro n11
    induction n11 using Nat.strongRecOn with
    | _ n11 ih12 =>
      intro y14 y15 y16 c17 h
      replace h := hI10 n11 y14 y15 y16 c17 h
      refine g_iload F (pc := 32) d_Mo_differ_32 5 rfl (g_aload_n F (pc := 34) d_Mo_differ_34 0 rfl (gc_getR F (pc := 35) d_Mo_differ_35 fi_Mo_13 o1 (g_iload_n F (pc := 38) d_Mo_differ_38 2 rfl (gc_iald F (pc := 39) d_Mo_differ_39 o2 o7 ?_))))
      refine g_icmp_ge (tgt := 219) F (pc := 40) d_Mo_differ_40 (by decide) (fun b18 => ?_) (fun b18 => ?_)
      · replace h := h.1 b18
        refine g_iload_n F (pc := 219) d_Mo_differ_219 3 rfl ?_
        exact g_iret T (pc := 220) d_Mo_differ_220 rfl (Nat.le_refl _) (Nat.le_refl _) (poI h)
      · replace h := h.2 b18
        refine g_iconst (v := 0) F (pc := 43) d_Mo_differ_43 (by decide) (g_istore (lv' := [(6, .int 0), (0, .ref x0), (1, .int x1), (2, .int x2), (3, .int y14), (4, .int y15), (5, .int y16)]) F (pc := 44) d_Mo_differ_44 (by decide) rfl (g_iconst (v := 0) F (pc := 46) d_Mo_differ_46 (by decide) (g_istore (lv' := [(7, .int 0), (6, .int 0), (0, .ref x0), (1, .int x1), (2, .int x2), (3, .int y14), (4, .int y15), (5, .int y16)]) F (pc := 47) d_Mo_differ_47 (by decide) rfl (g_aload_n F (pc := 49) d_Mo_differ_49 2 rfl (gc_getR F (pc := 50) d_Mo_differ_50 fi_Mo_13 o1 ?_)))))
        refine g_iload_n F (pc := 53) d_Mo_differ_53 3 rfl (gc_iald F (pc := 54) d_Mo_differ_54 o2 o3 (g_iconst (v := 1) F (pc := 55) d_Mo_differ_55 (by decide) (g_isub F (pc := 56) d_Mo_differ_56 (g_istore (lv' := [(8, .int ((c17 (rf x0 2) (Int32.toNatClampNeg x1)) - 1)), (7, .int 0), (6, .int 0), (0, .ref x0), (1, .int x1), (2, .int x2), (3, .int y14), (4, .int y15), (5, .int y16)]) F (pc := 57) d_Mo_differ_57 (by decide) rfl ?_))))
        refine g_lv (lv' := [(0, .ref x0), (1, .int x1), (2, .int x2), (3, .int y14), (4, .int y15), (5, .int y16), (6, .int 0), (7, .int 0), (8, .int ((c17 (rf x0 2) (Int32.toNatClampNeg x1)) - 1))]) F [3, 4, 5, 6, 7, 8, 2, 1, 0] rfl ?_
        obtain ⟨I19, ⟨n0, h⟩, hI19⟩ := h
        have lp22 : ∀ (n20 : Nat) (y23 : Int32) (y24 : Int32) (y25 : Int32) (c26 : cM), I19 n20 y23 y24 y25 c26 → Z (wd c26) 59 [(0, .ref x0), (1, .int x1), (2, .int x2), (3, .int y14), (4, .int y15), (5, .int y16), (6, .int y23), (7, .int y24), (8, .int y25)] [] 0 0 := by
          intro n20
          induction n20 using Nat.strongRecOn with
          | _ n20 ih21 =>
            intro y23 y24 y25 c26 h
            replace h := hI19 n20 y23 y24 y25 c26 h
            refine g_iload F (pc := 59) d_Mo_differ_59 8 rfl ?_
            refine g_if_lt (tgt := 114) F (pc := 61) d_Mo_differ_61 (by decide) (fun b27 => ?_) (fun b27 => ?_)
            · replace h := h.1 b27
              refine g_iload F (pc := 114) d_Mo_differ_114 6 rfl (g_iconst (v := 4) F (pc := 116) d_Mo_differ_116 (by decide) ?_)
              obtain ⟨J52, hJ52, h⟩ := h
              have jn53 : ∀ (y48 : Int32) (y49 : Int32) (y50 : Int32) (c51 : cM), J52 y48 y49 y50 c51 → Z (wd c51) 216 [(0, .ref x0), (1, .int x1), (2, .int x2), (3, .int y48), (4, .int y49), (5, .int y50)] [] 0 0 := by
                intro y48 y49 y50 c51 h
                replace h := hJ52 y48 y49 y50 c51 h
                refine g_goto (tgt := 32) F (pc := 216) d_Mo_differ_216 (by decide) ?_
                obtain ⟨m, hm, h⟩ := h
                exact ih12 m hm _ _ _ _ h
              refine g_icmp_lt (tgt := 165) F (pc := 117) d_Mo_differ_117 (by decide) (fun b28 => ?_) (fun b28 => ?_)
              · replace h := h.1 b28
                refine g_iload F (pc := 165) d_Mo_differ_165 4 rfl ?_
                obtain ⟨J56, hJ56, h⟩ := h
                have jn57 : ∀ (s55 : Int32), J56 s55 → Z (wd c26) 177 [(0, .ref x0), (1, .int x1), (2, .int x2), (4, .int y15), (5, .int y16)] [.int s55] 0 0 := by
                  intro s55 h
                  replace h := hJ56 s55 h
                  refine g_istore_n (lv' := [(3, .int s55), (0, .ref x0), (1, .int x1), (2, .int x2), (4, .int y15), (5, .int y16)]) F (pc := 177) d_Mo_differ_177 (by decide) rfl (g_iinc (v := (y15 + 1)) (lv' := [(4, .int (y15 + 1)), (3, .int s55), (0, .ref x0), (1, .int x1), (2, .int x2), (5, .int y16)]) F (pc := 178) d_Mo_differ_178 4 rfl (sk_inc (by decide)) (by decide) rfl (g_aload_n F (pc := 181) d_Mo_differ_181 2 rfl (gc_getR F (pc := 182) d_Mo_differ_182 fi_Mo_56 o1 (g_iload_n F (pc := 185) d_Mo_differ_185 1 rfl (g_iload F (pc := 186) d_Mo_differ_186 0 rfl ?_)))))
                  refine g_isub F (pc := 188) d_Mo_differ_188 (g_iload F (pc := 189) d_Mo_differ_189 0 rfl ?_)
                  obtain ⟨o58, h⟩ := h
                  refine gc_iast F (pc := 191) d_Mo_differ_191 o4 o58 ?_
                  obtain ⟨c59, ec59⟩ : ∃ c59 : cM, c59 = c_up c26 (rf x0 24) (Int32.toNatClampNeg (s55 - (y15 + 1))) (y15 + 1) := ⟨_, rfl⟩
                  rw [← ec59]
                  replace h := h c59 ec59
                  refine g_aload_n F (pc := 192) d_Mo_differ_192 2 rfl (gc_getR F (pc := 193) d_Mo_differ_193 fi_Mo_56 o1 (g_iload_n F (pc := 196) d_Mo_differ_196 1 rfl (g_aload_n F (pc := 197) d_Mo_differ_197 2 rfl (gc_getR F (pc := 198) d_Mo_differ_198 fi_Mo_16 o1 (g_bipush (v := 120) F (pc := 201) d_Mo_differ_201 (by decide) ?_)))))
                  refine g_iload_n F (pc := 203) d_Mo_differ_203 4 rfl (g_imul F (pc := 204) d_Mo_differ_204 (g_iload F (pc := 205) d_Mo_differ_205 5 rfl (g_iadd F (pc := 207) d_Mo_differ_207 ?_)))
                  obtain ⟨o60, h⟩ := h
                  obtain ⟨o61, h⟩ := h
                  refine gc_iald F (pc := 208) d_Mo_differ_208 o60 o61 ?_
                  obtain ⟨o62, h⟩ := h
                  refine gc_iast F (pc := 209) d_Mo_differ_209 o4 o62 ?_
                  obtain ⟨c63, ec63⟩ : ∃ c63 : cM, c63 = c_up c59 (rf x0 24) (Int32.toNatClampNeg s55) (c59 (rf x0 3) (Int32.toNatClampNeg ((120 * x2) + y16))) := ⟨_, rfl⟩
                  rw [← ec63]
                  replace h := h c63 ec63
                  refine g_iinc (v := (s55 + 1)) (lv' := [(3, .int (s55 + 1)), (4, .int (y15 + 1)), (0, .ref x0), (1, .int x1), (2, .int x2), (5, .int y16)]) F (pc := 210) d_Mo_differ_210 1 rfl (sk_inc (by decide)) (by decide) rfl (g_iinc (v := (y16 + 1)) (lv' := [(5, .int (y16 + 1)), (3, .int (s55 + 1)), (4, .int (y15 + 1)), (0, .ref x0), (1, .int x1), (2, .int x2)]) F (pc := 213) d_Mo_differ_213 5 rfl (sk_inc (by decide)) (by decide) rfl ?_)
                  refine g_lv (lv' := [(0, .ref x0), (1, .int x1), (2, .int x2), (3, .int (s55 + 1)), (4, .int (y15 + 1)), (5, .int (y16 + 1))]) F [3, 4, 5, 1, 2, 0] rfl ?_
                  exact jn53 _ _ _ _ h
                refine g_if_ne (tgt := 176) F (pc := 167) d_Mo_differ_167 (by decide) (fun b54 => ?_) (fun b54 => ?_)
                · replace h := h.1 b54
                  refine g_iload_n F (pc := 176) d_Mo_differ_176 3 rfl ?_
                  refine g_lv (lv' := [(0, .ref x0), (1, .int x1), (2, .int x2), (4, .int y15), (5, .int y16)]) F [0, 1, 2, 4, 5] rfl ?_
                  exact jn57 _ h
                · replace h := h.2 b54
                  refine g_iload_n F (pc := 170) d_Mo_differ_170 3 rfl (g_iconst (v := 1) F (pc := 171) d_Mo_differ_171 (by decide) (g_iadd F (pc := 172) d_Mo_differ_172 (g_goto (tgt := 177) F (pc := 173) d_Mo_differ_173 (by decide) ?_)))
                  refine g_lv (lv' := [(0, .ref x0), (1, .int x1), (2, .int x2), (4, .int y15), (5, .int y16)]) F [0, 1, 2, 4, 5] rfl ?_
                  exact jn57 _ h
              · replace h := h.2 b28
                refine g_iconst (v := 0) F (pc := 120) d_Mo_differ_120 (by decide) (g_istore (lv' := [(4, .int 0), (0, .ref x0), (1, .int x1), (2, .int x2), (3, .int y14), (5, .int y16), (6, .int y23), (7, .int y24), (8, .int y25)]) F (pc := 121) d_Mo_differ_121 (by decide) rfl (g_aload_n F (pc := 123) d_Mo_differ_123 1 rfl (gc_getR F (pc := 124) d_Mo_differ_124 fi_Mo_56 o1 (g_iload_n F (pc := 127) d_Mo_differ_127 4 rfl (g_sipush (v := 145) F (pc := 128) d_Mo_differ_128 (by decide) ?_)))))
                obtain ⟨o64, h⟩ := h
                refine gc_iast F (pc := 131) d_Mo_differ_131 o4 o64 ?_
                obtain ⟨c65, ec65⟩ : ∃ c65 : cM, c65 = c_up c26 (rf x0 24) (Int32.toNatClampNeg y14) 145 := ⟨_, rfl⟩
                rw [← ec65]
                replace h := h c65 ec65
                refine g_aload_n F (pc := 132) d_Mo_differ_132 1 rfl (gc_getR F (pc := 133) d_Mo_differ_133 fi_Mo_56 o1 (g_iload_n F (pc := 136) d_Mo_differ_136 4 rfl (g_iconst (v := 1) F (pc := 137) d_Mo_differ_137 (by decide) (g_iadd F (pc := 138) d_Mo_differ_138 (g_iload F (pc := 139) d_Mo_differ_139 7 rfl ?_)))))
                obtain ⟨o66, h⟩ := h
                refine gc_iast F (pc := 141) d_Mo_differ_141 o4 o66 ?_
                obtain ⟨c67, ec67⟩ : ∃ c67 : cM, c67 = c_up c65 (rf x0 24) (Int32.toNatClampNeg (y14 + 1)) y24 := ⟨_, rfl⟩
                rw [← ec67]
                replace h := h c67 ec67
                refine g_aload_n F (pc := 142) d_Mo_differ_142 1 rfl (gc_getR F (pc := 143) d_Mo_differ_143 fi_Mo_56 o1 (g_iload_n F (pc := 146) d_Mo_differ_146 4 rfl (g_iconst (v := 2) F (pc := 147) d_Mo_differ_147 (by decide) (g_iadd F (pc := 148) d_Mo_differ_148 (g_iload F (pc := 149) d_Mo_differ_149 6 rfl ?_)))))
                obtain ⟨o68, h⟩ := h
                refine gc_iast F (pc := 151) d_Mo_differ_151 o4 o68 ?_
                obtain ⟨c69, ec69⟩ : ∃ c69 : cM, c69 = c_up c67 (rf x0 24) (Int32.toNatClampNeg (y14 + 2)) y23 := ⟨_, rfl⟩
                rw [← ec69]
                replace h := h c69 ec69
                refine g_iinc (v := (y14 + 3)) (lv' := [(3, .int (y14 + 3)), (4, .int 0), (0, .ref x0), (1, .int x1), (2, .int x2), (5, .int y16), (6, .int y23), (7, .int y24), (8, .int y25)]) F (pc := 152) d_Mo_differ_152 4 rfl (sk_inc (by decide)) (by decide) rfl (g_iload F (pc := 155) d_Mo_differ_155 5 rfl (g_iload F (pc := 157) d_Mo_differ_157 6 rfl (g_iadd F (pc := 159) d_Mo_differ_159 (g_istore (lv' := [(5, .int (y16 + y23)), (3, .int (y14 + 3)), (4, .int 0), (0, .ref x0), (1, .int x1), (2, .int x2), (6, .int y23), (7, .int y24), (8, .int y25)]) F (pc := 160) d_Mo_differ_160 (by decide) rfl (g_goto (tgt := 216) F (pc := 162) d_Mo_differ_162 (by decide) ?_)))))
                refine g_lv (lv' := [(0, .ref x0), (1, .int x1), (2, .int x2), (3, .int (y14 + 3)), (4, .int 0), (5, .int (y16 + y23))]) F [3, 4, 5, 1, 2, 0] rfl ?_
                exact jn53 _ _ _ _ h
            · replace h := h.2 b27
              refine g_aload_n F (pc := 64) d_Mo_differ_64 0 rfl (g_iload_n F (pc := 65) d_Mo_differ_65 1 rfl (g_iload F (pc := 66) d_Mo_differ_66 8 rfl (g_iload_n F (pc := 68) d_Mo_differ_68 2 rfl (g_iload F (pc := 69) d_Mo_differ_69 5 rfl ?_))))
              refine gc_callVI (As := [.int x1, .int y25, .int x2, .int y16]) (st := []) F (pc := 71) d_Mo_differ_71 cb_Mo_151 iv_Mo_alike np_Mo_alike o1 vc_7 (c_Mo_alike h) rfl (by decide) (Nat.le_refl _) (Nat.le_refl _) (Nat.le_of_ble_eq_true rfl) (fun v71 c70 h => ?_)
              refine g_istore (lv' := [(9, .int v71), (0, .ref x0), (1, .int x1), (2, .int x2), (3, .int y14), (4, .int y15), (5, .int y16), (6, .int y23), (7, .int y24), (8, .int y25)]) F (pc := 74) d_Mo_differ_74 (by decide) rfl (g_iload F (pc := 76) d_Mo_differ_76 0 rfl (g_iload F (pc := 78) d_Mo_differ_78 7 rfl ?_))
              obtain ⟨J74, hJ74, h⟩ := h
              have jn75 : ∀ (s73 : Int32), J74 s73 → Z (wd c70) 90 [(0, .ref x0), (1, .int x1), (2, .int x2), (3, .int y14), (4, .int y15), (5, .int y16), (6, .int y23), (8, .int y25), (9, .int v71)] [.int s73] 0 0 := by
                intro s73 h
                replace h := hJ74 s73 h
                refine g_istore (lv' := [(7, .int s73), (0, .ref x0), (1, .int x1), (2, .int x2), (3, .int y14), (4, .int y15), (5, .int y16), (6, .int y23), (8, .int y25), (9, .int v71)]) F (pc := 90) d_Mo_differ_90 (by decide) rfl (g_iload F (pc := 92) d_Mo_differ_92 9 rfl (g_iload F (pc := 94) d_Mo_differ_94 7 rfl ?_))
                obtain ⟨J78, hJ78, h⟩ := h
                have jn79 : ∀ (s77 : Int32), J78 s77 → Z (wd c70) 106 [(0, .ref x0), (1, .int x1), (2, .int x2), (3, .int y14), (4, .int y15), (5, .int y16), (7, .int s73), (8, .int y25)] [.int s77] 0 0 := by
                  intro s77 h
                  replace h := hJ78 s77 h
                  refine g_istore (lv' := [(6, .int s77), (0, .ref x0), (1, .int x1), (2, .int x2), (3, .int y14), (4, .int y15), (5, .int y16), (7, .int s73), (8, .int y25)]) F (pc := 106) d_Mo_differ_106 (by decide) rfl (g_iinc (v := (y25 + (-1))) (lv' := [(8, .int (y25 + (-1))), (6, .int s77), (0, .ref x0), (1, .int x1), (2, .int x2), (3, .int y14), (4, .int y15), (5, .int y16), (7, .int s73)]) F (pc := 108) d_Mo_differ_108 8 rfl (sk_inc (by decide)) (by decide) rfl (g_goto (tgt := 59) F (pc := 111) d_Mo_differ_111 (by decide) ?_))
                  refine g_lv (lv' := [(0, .ref x0), (1, .int x1), (2, .int x2), (3, .int y14), (4, .int y15), (5, .int y16), (6, .int s77), (7, .int s73), (8, .int (y25 + (-1)))]) F [2, 3, 4, 5, 6, 7, 1, 8, 0] rfl ?_
                  obtain ⟨m, hm, h⟩ := h
                  exact ih21 m hm _ _ _ _ h
                refine g_icmp_lt (tgt := 104) F (pc := 96) d_Mo_differ_96 (by decide) (fun b76 => ?_) (fun b76 => ?_)
                · replace h := h.1 b76
                  refine g_iload F (pc := 104) d_Mo_differ_104 7 rfl ?_
                  refine g_lv (lv' := [(0, .ref x0), (1, .int x1), (2, .int x2), (3, .int y14), (4, .int y15), (5, .int y16), (7, .int s73), (8, .int y25)]) F [1, 2, 3, 4, 5, 6, 0, 8] rfl ?_
                  exact jn79 _ h
                · replace h := h.2 b76
                  refine g_iload F (pc := 99) d_Mo_differ_99 9 rfl (g_goto (tgt := 106) F (pc := 101) d_Mo_differ_101 (by decide) ?_)
                  refine g_lv (lv' := [(0, .ref x0), (1, .int x1), (2, .int x2), (3, .int y14), (4, .int y15), (5, .int y16), (7, .int s73), (8, .int y25)]) F [1, 2, 3, 4, 5, 6, 0, 8] rfl ?_
                  exact jn79 _ h
              refine g_icmp_lt (tgt := 88) F (pc := 80) d_Mo_differ_80 (by decide) (fun b72 => ?_) (fun b72 => ?_)
              · replace h := h.1 b72
                refine g_iload F (pc := 88) d_Mo_differ_88 8 rfl ?_
                refine g_lv (lv' := [(0, .ref x0), (1, .int x1), (2, .int x2), (3, .int y14), (4, .int y15), (5, .int y16), (6, .int y23), (8, .int y25), (9, .int v71)]) F [1, 2, 3, 4, 5, 6, 7, 9, 0] rfl ?_
                exact jn75 _ h
              · replace h := h.2 b72
                refine g_iload F (pc := 83) d_Mo_differ_83 9 rfl (g_goto (tgt := 90) F (pc := 85) d_Mo_differ_85 (by decide) ?_)
                refine g_lv (lv' := [(0, .ref x0), (1, .int x1), (2, .int x2), (3, .int y14), (4, .int y15), (5, .int y16), (6, .int y23), (8, .int y25), (9, .int v71)]) F [1, 2, 3, 4, 5, 6, 7, 9, 0] rfl ?_
                exact jn75 _ h
        exact lp22 n0 _ _ _ _ h
  exact lp13 n0 _ _ _ _ h
theorem d_Mo_writeWrapped_0 : decode M_Mo_writeWrapped.2.1 0 = .ok (.aload_n 0, 1) := by decide +kernel
theorem d_Mo_writeWrapped_1 : decode M_Mo_writeWrapped.2.1 1 = .ok (.bipush 120, 2) := by decide +kernel
theorem d_Mo_writeWrapped_3 : decode M_Mo_writeWrapped.2.1 3 = .ok (.invokevirtual 154, 3) := by decide +kernel
theorem d_Mo_writeWrapped_6 : decode M_Mo_writeWrapped.2.1 6 = .ok (.aload_n 0, 1) := by decide +kernel
theorem d_Mo_writeWrapped_7 : decode M_Mo_writeWrapped.2.1 7 = .ok (.iconst 1, 1) := by decide +kernel
theorem d_Mo_writeWrapped_8 : decode M_Mo_writeWrapped.2.1 8 = .ok (.invokevirtual 154, 3) := by decide +kernel
theorem d_Mo_writeWrapped_11 : decode M_Mo_writeWrapped.2.1 11 = .ok (.aload_n 0, 1) := by decide +kernel
theorem d_Mo_writeWrapped_12 : decode M_Mo_writeWrapped.2.1 12 = .ok (.iconst 1, 1) := by decide +kernel
theorem d_Mo_writeWrapped_13 : decode M_Mo_writeWrapped.2.1 13 = .ok (.invokevirtual 154, 3) := by decide +kernel
theorem d_Mo_writeWrapped_16 : decode M_Mo_writeWrapped.2.1 16 = .ok (.aload_n 0, 1) := by decide +kernel
theorem d_Mo_writeWrapped_17 : decode M_Mo_writeWrapped.2.1 17 = .ok (.iload_n 1, 1) := by decide +kernel
theorem d_Mo_writeWrapped_18 : decode M_Mo_writeWrapped.2.1 18 = .ok (.invokevirtual 154, 3) := by decide +kernel
theorem d_Mo_writeWrapped_21 : decode M_Mo_writeWrapped.2.1 21 = .ok (.aload_n 0, 1) := by decide +kernel
theorem d_Mo_writeWrapped_22 : decode M_Mo_writeWrapped.2.1 22 = .ok (.iload_n 1, 1) := by decide +kernel
theorem d_Mo_writeWrapped_23 : decode M_Mo_writeWrapped.2.1 23 = .ok (.bipush 8, 2) := by decide +kernel
theorem d_Mo_writeWrapped_25 : decode M_Mo_writeWrapped.2.1 25 = .ok (.ishr, 1) := by decide +kernel
theorem d_Mo_writeWrapped_26 : decode M_Mo_writeWrapped.2.1 26 = .ok (.invokevirtual 154, 3) := by decide +kernel
theorem d_Mo_writeWrapped_29 : decode M_Mo_writeWrapped.2.1 29 = .ok (.aload_n 0, 1) := by decide +kernel
theorem d_Mo_writeWrapped_30 : decode M_Mo_writeWrapped.2.1 30 = .ok (.ldc 157, 2) := by decide +kernel
theorem d_Mo_writeWrapped_32 : decode M_Mo_writeWrapped.2.1 32 = .ok (.iload_n 1, 1) := by decide +kernel
theorem d_Mo_writeWrapped_33 : decode M_Mo_writeWrapped.2.1 33 = .ok (.isub, 1) := by decide +kernel
theorem d_Mo_writeWrapped_34 : decode M_Mo_writeWrapped.2.1 34 = .ok (.invokevirtual 154, 3) := by decide +kernel
theorem d_Mo_writeWrapped_37 : decode M_Mo_writeWrapped.2.1 37 = .ok (.aload_n 0, 1) := by decide +kernel
theorem d_Mo_writeWrapped_38 : decode M_Mo_writeWrapped.2.1 38 = .ok (.ldc 157, 2) := by decide +kernel
theorem d_Mo_writeWrapped_40 : decode M_Mo_writeWrapped.2.1 40 = .ok (.iload_n 1, 1) := by decide +kernel
theorem d_Mo_writeWrapped_41 : decode M_Mo_writeWrapped.2.1 41 = .ok (.isub, 1) := by decide +kernel
theorem d_Mo_writeWrapped_42 : decode M_Mo_writeWrapped.2.1 42 = .ok (.bipush 8, 2) := by decide +kernel
theorem d_Mo_writeWrapped_44 : decode M_Mo_writeWrapped.2.1 44 = .ok (.ishr, 1) := by decide +kernel
theorem d_Mo_writeWrapped_45 : decode M_Mo_writeWrapped.2.1 45 = .ok (.invokevirtual 154, 3) := by decide +kernel
theorem d_Mo_writeWrapped_48 : decode M_Mo_writeWrapped.2.1 48 = .ok (.iconst 1, 1) := by decide +kernel
theorem d_Mo_writeWrapped_49 : decode M_Mo_writeWrapped.2.1 49 = .ok (.istore_n 2, 1) := by decide +kernel
theorem d_Mo_writeWrapped_50 : decode M_Mo_writeWrapped.2.1 50 = .ok (.iconst 0, 1) := by decide +kernel
theorem d_Mo_writeWrapped_51 : decode M_Mo_writeWrapped.2.1 51 = .ok (.istore_n 3, 1) := by decide +kernel
theorem d_Mo_writeWrapped_52 : decode M_Mo_writeWrapped.2.1 52 = .ok (.iconst 0, 1) := by decide +kernel
theorem d_Mo_writeWrapped_53 : decode M_Mo_writeWrapped.2.1 53 = .ok (.istore 4, 2) := by decide +kernel
theorem d_Mo_writeWrapped_55 : decode M_Mo_writeWrapped.2.1 55 = .ok (.iload 4, 2) := by decide +kernel
theorem d_Mo_writeWrapped_57 : decode M_Mo_writeWrapped.2.1 57 = .ok (.iload_n 1, 1) := by decide +kernel
theorem d_Mo_writeWrapped_58 : decode M_Mo_writeWrapped.2.1 58 = .ok (.if_icmp .ge 40, 3) := by decide +kernel
theorem d_Mo_writeWrapped_61 : decode M_Mo_writeWrapped.2.1 61 = .ok (.aload_n 0, 1) := by decide +kernel
theorem d_Mo_writeWrapped_62 : decode M_Mo_writeWrapped.2.1 62 = .ok (.aload_n 0, 1) := by decide +kernel
theorem d_Mo_writeWrapped_63 : decode M_Mo_writeWrapped.2.1 63 = .ok (.getfield 56, 3) := by decide +kernel
theorem d_Mo_writeWrapped_66 : decode M_Mo_writeWrapped.2.1 66 = .ok (.iload 4, 2) := by decide +kernel
theorem d_Mo_writeWrapped_68 : decode M_Mo_writeWrapped.2.1 68 = .ok (.iaload, 1) := by decide +kernel
theorem d_Mo_writeWrapped_69 : decode M_Mo_writeWrapped.2.1 69 = .ok (.invokevirtual 154, 3) := by decide +kernel
theorem d_Mo_writeWrapped_72 : decode M_Mo_writeWrapped.2.1 72 = .ok (.iload_n 2, 1) := by decide +kernel
theorem d_Mo_writeWrapped_73 : decode M_Mo_writeWrapped.2.1 73 = .ok (.aload_n 0, 1) := by decide +kernel
theorem d_Mo_writeWrapped_74 : decode M_Mo_writeWrapped.2.1 74 = .ok (.getfield 56, 3) := by decide +kernel
theorem d_Mo_writeWrapped_77 : decode M_Mo_writeWrapped.2.1 77 = .ok (.iload 4, 2) := by decide +kernel
theorem d_Mo_writeWrapped_79 : decode M_Mo_writeWrapped.2.1 79 = .ok (.iaload, 1) := by decide +kernel
theorem d_Mo_writeWrapped_80 : decode M_Mo_writeWrapped.2.1 80 = .ok (.iadd, 1) := by decide +kernel
theorem d_Mo_writeWrapped_81 : decode M_Mo_writeWrapped.2.1 81 = .ok (.ldc 158, 2) := by decide +kernel
theorem d_Mo_writeWrapped_83 : decode M_Mo_writeWrapped.2.1 83 = .ok (.irem, 1) := by decide +kernel
theorem d_Mo_writeWrapped_84 : decode M_Mo_writeWrapped.2.1 84 = .ok (.istore_n 2, 1) := by decide +kernel
theorem d_Mo_writeWrapped_85 : decode M_Mo_writeWrapped.2.1 85 = .ok (.iload_n 3, 1) := by decide +kernel
theorem d_Mo_writeWrapped_86 : decode M_Mo_writeWrapped.2.1 86 = .ok (.iload_n 2, 1) := by decide +kernel
theorem d_Mo_writeWrapped_87 : decode M_Mo_writeWrapped.2.1 87 = .ok (.iadd, 1) := by decide +kernel
theorem d_Mo_writeWrapped_88 : decode M_Mo_writeWrapped.2.1 88 = .ok (.ldc 158, 2) := by decide +kernel
theorem d_Mo_writeWrapped_90 : decode M_Mo_writeWrapped.2.1 90 = .ok (.irem, 1) := by decide +kernel
theorem d_Mo_writeWrapped_91 : decode M_Mo_writeWrapped.2.1 91 = .ok (.istore_n 3, 1) := by decide +kernel
theorem d_Mo_writeWrapped_92 : decode M_Mo_writeWrapped.2.1 92 = .ok (.iinc 4 1, 3) := by decide +kernel
theorem d_Mo_writeWrapped_95 : decode M_Mo_writeWrapped.2.1 95 = .ok (.goto (-40), 3) := by decide +kernel
theorem d_Mo_writeWrapped_98 : decode M_Mo_writeWrapped.2.1 98 = .ok (.aload_n 0, 1) := by decide +kernel
theorem d_Mo_writeWrapped_99 : decode M_Mo_writeWrapped.2.1 99 = .ok (.iload_n 3, 1) := by decide +kernel
theorem d_Mo_writeWrapped_100 : decode M_Mo_writeWrapped.2.1 100 = .ok (.bipush 8, 2) := by decide +kernel
theorem d_Mo_writeWrapped_102 : decode M_Mo_writeWrapped.2.1 102 = .ok (.ishr, 1) := by decide +kernel
theorem d_Mo_writeWrapped_103 : decode M_Mo_writeWrapped.2.1 103 = .ok (.invokevirtual 154, 3) := by decide +kernel
theorem d_Mo_writeWrapped_106 : decode M_Mo_writeWrapped.2.1 106 = .ok (.aload_n 0, 1) := by decide +kernel
theorem d_Mo_writeWrapped_107 : decode M_Mo_writeWrapped.2.1 107 = .ok (.iload_n 3, 1) := by decide +kernel
theorem d_Mo_writeWrapped_108 : decode M_Mo_writeWrapped.2.1 108 = .ok (.invokevirtual 154, 3) := by decide +kernel
theorem d_Mo_writeWrapped_111 : decode M_Mo_writeWrapped.2.1 111 = .ok (.aload_n 0, 1) := by decide +kernel
theorem d_Mo_writeWrapped_112 : decode M_Mo_writeWrapped.2.1 112 = .ok (.iload_n 2, 1) := by decide +kernel
theorem d_Mo_writeWrapped_113 : decode M_Mo_writeWrapped.2.1 113 = .ok (.bipush 8, 2) := by decide +kernel
theorem d_Mo_writeWrapped_115 : decode M_Mo_writeWrapped.2.1 115 = .ok (.ishr, 1) := by decide +kernel
theorem d_Mo_writeWrapped_116 : decode M_Mo_writeWrapped.2.1 116 = .ok (.invokevirtual 154, 3) := by decide +kernel
theorem d_Mo_writeWrapped_119 : decode M_Mo_writeWrapped.2.1 119 = .ok (.aload_n 0, 1) := by decide +kernel
theorem d_Mo_writeWrapped_120 : decode M_Mo_writeWrapped.2.1 120 = .ok (.iload_n 2, 1) := by decide +kernel
theorem d_Mo_writeWrapped_121 : decode M_Mo_writeWrapped.2.1 121 = .ok (.invokevirtual 154, 3) := by decide +kernel
theorem d_Mo_writeWrapped_124 : decode M_Mo_writeWrapped.2.1 124 = .ok (.return_, 1) := by decide +kernel
def f_Mo_writeWrapped (x0 : Nat) (x1 : Int32) (c : cM) (K : cM → Prop) : Prop :=
  kd x0 = 7 ∧ (f_Mo_write x0 120 c (fun c2 => f_Mo_write x0 1 c2 (fun c3 => f_Mo_write x0 1 c3 (fun c4 => f_Mo_write x0 x1 c4 (fun c5 => f_Mo_write x0 (c_shr x1 8) c5 (fun c6 => f_Mo_write x0 (65535 - x1) c6 (fun c7 => f_Mo_write x0 (c_shr (65535 - x1) 8) c7 (fun c8 => ∃ I9 : Nat → Int32 → Int32 → Int32 → cM → Prop, (∃ n, I9 n 1 0 0 c8) ∧ ∀ (n10 : Nat) (y13 : Int32) (y14 : Int32) (y15 : Int32) (c16 : cM), I9 n10 y13 y14 y15 c16 → (((x1 ≤ y15) → (f_Mo_write x0 (c_shr y14 8) c16 (fun c18 => f_Mo_write x0 y14 c18 (fun c19 => f_Mo_write x0 (c_shr y13 8) c19 (fun c20 => f_Mo_write x0 y13 c20 (fun c21 => K c21)))))) ∧ (¬ (x1 ≤ y15) → (kd (rf x0 24) = 100 ∧ (vp_in y15 (ln (rf x0 24)) ∧ (f_Mo_write x0 (c16 (rf x0 24) (Int32.toNatClampNeg y15)) c16 (fun c24 => ∃ m, m < n10 ∧ I9 m (c_rem (y13 + (c24 (rf x0 24) (Int32.toNatClampNeg y15))) 65521) (c_rem (y14 + (c_rem (y13 + (c24 (rf x0 24) (Int32.toNatClampNeg y15))) 65521)) 65521) (y15 + 1) c24))))))))))))))
theorem c_Mo_writeWrapped {x0 : Nat} {x1 : Int32} {c : cM} {K : cM → Prop} (h : f_Mo_writeWrapped x0 x1 c K) : Ct M_Mo_writeWrapped 1 0 0 (wd c) [.ref x0, .int x1] (PoV K) := by
  refine Ct.of (by decide +kernel) (Nat.le_of_ble_eq_true rfl) (fun Z T => ?_)
  have F := T.F
  unfold f_Mo_writeWrapped at h
  show Z (wd c) 0 [(0, .ref x0), (1, .int x1)] [] 0 0
  refine g_aload_n F (pc := 0) d_Mo_writeWrapped_0 0 rfl (g_bipush (v := 120) F (pc := 1) d_Mo_writeWrapped_1 (by decide) ?_)
  obtain ⟨o1, h⟩ := h
  refine gc_callVV (As := [.int 120]) (st := []) F (pc := 3) d_Mo_writeWrapped_3 cb_Mo_154 iv_Mo_write np_Mo_write o1 vc_7 (c_Mo_write h) rfl (by decide) (Nat.le_refl _) (Nat.le_refl _) (Nat.le_of_ble_eq_true rfl) (fun c2 h => ?_)
  refine g_aload_n F (pc := 6) d_Mo_writeWrapped_6 0 rfl (g_iconst (v := 1) F (pc := 7) d_Mo_writeWrapped_7 (by decide) ?_)
  refine gc_callVV (As := [.int 1]) (st := []) F (pc := 8) d_Mo_writeWrapped_8 cb_Mo_154 iv_Mo_write np_Mo_write o1 vc_7 (c_Mo_write h) rfl (by decide) (Nat.le_refl _) (Nat.le_refl _) (Nat.le_of_ble_eq_true rfl) (fun c3 h => ?_)
  refine g_aload_n F (pc := 11) d_Mo_writeWrapped_11 0 rfl (g_iconst (v := 1) F (pc := 12) d_Mo_writeWrapped_12 (by decide) ?_)
  refine gc_callVV (As := [.int 1]) (st := []) F (pc := 13) d_Mo_writeWrapped_13 cb_Mo_154 iv_Mo_write np_Mo_write o1 vc_7 (c_Mo_write h) rfl (by decide) (Nat.le_refl _) (Nat.le_refl _) (Nat.le_of_ble_eq_true rfl) (fun c4 h => ?_)
  refine g_aload_n F (pc := 16) d_Mo_writeWrapped_16 0 rfl (g_iload_n F (pc := 17) d_Mo_writeWrapped_17 1 rfl ?_)
  refine gc_callVV (As := [.int x1]) (st := []) F (pc := 18) d_Mo_writeWrapped_18 cb_Mo_154 iv_Mo_write np_Mo_write o1 vc_7 (c_Mo_write h) rfl (by decide) (Nat.le_refl _) (Nat.le_refl _) (Nat.le_of_ble_eq_true rfl) (fun c5 h => ?_)
  refine g_aload_n F (pc := 21) d_Mo_writeWrapped_21 0 rfl (g_iload_n F (pc := 22) d_Mo_writeWrapped_22 1 rfl (g_bipush (v := 8) F (pc := 23) d_Mo_writeWrapped_23 (by decide) (g_ishr F (pc := 25) d_Mo_writeWrapped_25 ?_)))
  refine gc_callVV (As := [.int (c_shr x1 8)]) (st := []) F (pc := 26) d_Mo_writeWrapped_26 cb_Mo_154 iv_Mo_write np_Mo_write o1 vc_7 (c_Mo_write h) rfl (by decide) (Nat.le_refl _) (Nat.le_refl _) (Nat.le_of_ble_eq_true rfl) (fun c6 h => ?_)
  refine g_aload_n F (pc := 29) d_Mo_writeWrapped_29 0 rfl (g_ldc F (pc := 30) d_Mo_writeWrapped_30 kc_Mo_157 (g_iload_n F (pc := 32) d_Mo_writeWrapped_32 1 rfl (g_isub F (pc := 33) d_Mo_writeWrapped_33 ?_)))
  refine gc_callVV (As := [.int (65535 - x1)]) (st := []) F (pc := 34) d_Mo_writeWrapped_34 cb_Mo_154 iv_Mo_write np_Mo_write o1 vc_7 (c_Mo_write h) rfl (by decide) (Nat.le_refl _) (Nat.le_refl _) (Nat.le_of_ble_eq_true rfl) (fun c7 h => ?_)
  refine g_aload_n F (pc := 37) d_Mo_writeWrapped_37 0 rfl (g_ldc F (pc := 38) d_Mo_writeWrapped_38 kc_Mo_157 (g_iload_n F (pc := 40) d_Mo_writeWrapped_40 1 rfl (g_isub F (pc := 41) d_Mo_writeWrapped_41 (g_bipush (v := 8) F (pc := 42) d_Mo_writeWrapped_42 (by decide) (g_ishr F (pc := 44) d_Mo_writeWrapped_44 ?_)))))
  refine gc_callVV (As := [.int (c_shr (65535 - x1) 8)]) (st := []) F (pc := 45) d_Mo_writeWrapped_45 cb_Mo_154 iv_Mo_write np_Mo_write o1 vc_7 (c_Mo_write h) rfl (by decide) (Nat.le_refl _) (Nat.le_refl _) (Nat.le_of_ble_eq_true rfl) (fun c8 h => ?_)
  refine g_iconst (v := 1) F (pc := 48) d_Mo_writeWrapped_48 (by decide) (g_istore_n (lv' := [(2, .int 1), (0, .ref x0), (1, .int x1)]) F (pc := 49) d_Mo_writeWrapped_49 (by decide) rfl (g_iconst (v := 0) F (pc := 50) d_Mo_writeWrapped_50 (by decide) (g_istore_n (lv' := [(3, .int 0), (2, .int 1), (0, .ref x0), (1, .int x1)]) F (pc := 51) d_Mo_writeWrapped_51 (by decide) rfl (g_iconst (v := 0) F (pc := 52) d_Mo_writeWrapped_52 (by decide) (g_istore (lv' := [(4, .int 0), (3, .int 0), (2, .int 1), (0, .ref x0), (1, .int x1)]) F (pc := 53) d_Mo_writeWrapped_53 (by decide) rfl ?_)))))
  refine g_lv (lv' := [(0, .ref x0), (1, .int x1), (2, .int 1), (3, .int 0), (4, .int 0)]) F [3, 4, 2, 1, 0] rfl ?_
  obtain ⟨I9, ⟨n0, h⟩, hI9⟩ := h
  have lp12 : ∀ (n10 : Nat) (y13 : Int32) (y14 : Int32) (y15 : Int32) (c16 : cM), I9 n10 y13 y14 y15 c16 → Z (wd c16) 55 [(0, .ref x0), (1, .int x1), (2, .int y13), (3, .int y14), (4, .int y15)] [] 0 0 := by
    intro n10
    induction n10 using Nat.strongRecOn with
    | _ n10 ih11 =>
      intro y13 y14 y15 c16 h
      replace h := hI9 n10 y13 y14 y15 c16 h
      refine g_iload F (pc := 55) d_Mo_writeWrapped_55 4 rfl (g_iload_n F (pc := 57) d_Mo_writeWrapped_57 1 rfl ?_)
      refine g_icmp_ge (tgt := 98) F (pc := 58) d_Mo_writeWrapped_58 (by decide) (fun b17 => ?_) (fun b17 => ?_)
      · replace h := h.1 b17
        refine g_aload_n F (pc := 98) d_Mo_writeWrapped_98 0 rfl (g_iload_n F (pc := 99) d_Mo_writeWrapped_99 3 rfl (g_bipush (v := 8) F (pc := 100) d_Mo_writeWrapped_100 (by decide) (g_ishr F (pc := 102) d_Mo_writeWrapped_102 ?_)))
        refine gc_callVV (As := [.int (c_shr y14 8)]) (st := []) F (pc := 103) d_Mo_writeWrapped_103 cb_Mo_154 iv_Mo_write np_Mo_write o1 vc_7 (c_Mo_write h) rfl (by decide) (Nat.le_refl _) (Nat.le_refl _) (Nat.le_of_ble_eq_true rfl) (fun c18 h => ?_)
        refine g_aload_n F (pc := 106) d_Mo_writeWrapped_106 0 rfl (g_iload_n F (pc := 107) d_Mo_writeWrapped_107 3 rfl ?_)
        refine gc_callVV (As := [.int y14]) (st := []) F (pc := 108) d_Mo_writeWrapped_108 cb_Mo_154 iv_Mo_write np_Mo_write o1 vc_7 (c_Mo_write h) rfl (by decide) (Nat.le_refl _) (Nat.le_refl _) (Nat.le_of_ble_eq_true rfl) (fun c19 h => ?_)
        refine g_aload_n F (pc := 111) d_Mo_writeWrapped_111 0 rfl (g_iload_n F (pc := 112) d_Mo_writeWrapped_112 2 rfl (g_bipush (v := 8) F (pc := 113) d_Mo_writeWrapped_113 (by decide) (g_ishr F (pc := 115) d_Mo_writeWrapped_115 ?_)))
        refine gc_callVV (As := [.int (c_shr y13 8)]) (st := []) F (pc := 116) d_Mo_writeWrapped_116 cb_Mo_154 iv_Mo_write np_Mo_write o1 vc_7 (c_Mo_write h) rfl (by decide) (Nat.le_refl _) (Nat.le_refl _) (Nat.le_of_ble_eq_true rfl) (fun c20 h => ?_)
        refine g_aload_n F (pc := 119) d_Mo_writeWrapped_119 0 rfl (g_iload_n F (pc := 120) d_Mo_writeWrapped_120 2 rfl ?_)
        refine gc_callVV (As := [.int y13]) (st := []) F (pc := 121) d_Mo_writeWrapped_121 cb_Mo_154 iv_Mo_write np_Mo_write o1 vc_7 (c_Mo_write h) rfl (by decide) (Nat.le_refl _) (Nat.le_refl _) (Nat.le_of_ble_eq_true rfl) (fun c21 h => ?_)
        exact g_vret T (pc := 124) d_Mo_writeWrapped_124 rfl (Nat.le_refl _) (Nat.le_refl _) (poV h)
      · replace h := h.2 b17
        refine g_aload_n F (pc := 61) d_Mo_writeWrapped_61 0 rfl (g_aload_n F (pc := 62) d_Mo_writeWrapped_62 0 rfl (gc_getR F (pc := 63) d_Mo_writeWrapped_63 fi_Mo_56 o1 (g_iload F (pc := 66) d_Mo_writeWrapped_66 4 rfl ?_)))
        obtain ⟨o22, h⟩ := h
        obtain ⟨o23, h⟩ := h
        refine gc_iald F (pc := 68) d_Mo_writeWrapped_68 o22 o23 ?_
        refine gc_callVV (As := [.int (c16 (rf x0 24) (Int32.toNatClampNeg y15))]) (st := []) F (pc := 69) d_Mo_writeWrapped_69 cb_Mo_154 iv_Mo_write np_Mo_write o1 vc_7 (c_Mo_write h) rfl (by decide) (Nat.le_refl _) (Nat.le_refl _) (Nat.le_of_ble_eq_true rfl) (fun c24 h => ?_)
        refine g_iload_n F (pc := 72) d_Mo_writeWrapped_72 2 rfl (g_aload_n F (pc := 73) d_Mo_writeWrapped_73 0 rfl (gc_getR F (pc := 74) d_Mo_writeWrapped_74 fi_Mo_56 o1 (g_iload F (pc := 77) d_Mo_writeWrapped_77 4 rfl (gc_iald F (pc := 79) d_Mo_writeWrapped_79 o22 o23 (g_iadd F (pc := 80) d_Mo_writeWrapped_80 ?_)))))
        refine g_ldc F (pc := 81) d_Mo_writeWrapped_81 kc_Mo_158 (g_irem F (pc := 83) d_Mo_writeWrapped_83 (by decide) (g_istore_n (lv' := [(2, .int (c_rem (y13 + (c24 (rf x0 24) (Int32.toNatClampNeg y15))) 65521)), (0, .ref x0), (1, .int x1), (3, .int y14), (4, .int y15)]) F (pc := 84) d_Mo_writeWrapped_84 (by decide) rfl (g_iload_n F (pc := 85) d_Mo_writeWrapped_85 3 rfl (g_iload_n F (pc := 86) d_Mo_writeWrapped_86 0 rfl (g_iadd F (pc := 87) d_Mo_writeWrapped_87 ?_)))))
        refine g_ldc F (pc := 88) d_Mo_writeWrapped_88 kc_Mo_158 (g_irem F (pc := 90) d_Mo_writeWrapped_90 (by decide) (g_istore_n (lv' := [(3, .int (c_rem (y14 + (c_rem (y13 + (c24 (rf x0 24) (Int32.toNatClampNeg y15))) 65521)) 65521)), (2, .int (c_rem (y13 + (c24 (rf x0 24) (Int32.toNatClampNeg y15))) 65521)), (0, .ref x0), (1, .int x1), (4, .int y15)]) F (pc := 91) d_Mo_writeWrapped_91 (by decide) rfl (g_iinc (v := (y15 + 1)) (lv' := [(4, .int (y15 + 1)), (3, .int (c_rem (y14 + (c_rem (y13 + (c24 (rf x0 24) (Int32.toNatClampNeg y15))) 65521)) 65521)), (2, .int (c_rem (y13 + (c24 (rf x0 24) (Int32.toNatClampNeg y15))) 65521)), (0, .ref x0), (1, .int x1)]) F (pc := 92) d_Mo_writeWrapped_92 4 rfl (sk_inc (by decide)) (by decide) rfl (g_goto (tgt := 55) F (pc := 95) d_Mo_writeWrapped_95 (by decide) ?_))))
        refine g_lv (lv' := [(0, .ref x0), (1, .int x1), (2, .int (c_rem (y13 + (c24 (rf x0 24) (Int32.toNatClampNeg y15))) 65521)), (3, .int (c_rem (y14 + (c_rem (y13 + (c24 (rf x0 24) (Int32.toNatClampNeg y15))) 65521)) 65521)), (4, .int (y15 + 1))]) F [3, 4, 2, 1, 0] rfl ?_
        obtain ⟨m, hm, h⟩ := h
        exact ih11 m hm _ _ _ _ h
  exact lp12 n0 _ _ _ _ h
theorem d_Mo_writeMark_0 : decode M_Mo_writeMark.2.1 0 = .ok (.aload_n 0, 1) := by decide +kernel
theorem d_Mo_writeMark_1 : decode M_Mo_writeMark.2.1 1 = .ok (.iload_n 2, 1) := by decide +kernel
theorem d_Mo_writeMark_2 : decode M_Mo_writeMark.2.1 2 = .ok (.bipush 15, 2) := by decide +kernel
theorem d_Mo_writeMark_4 : decode M_Mo_writeMark.2.1 4 = .ok (.iand, 1) := by decide +kernel
theorem d_Mo_writeMark_5 : decode M_Mo_writeMark.2.1 5 = .ok (.bipush 16, 2) := by decide +kernel
theorem d_Mo_writeMark_7 : decode M_Mo_writeMark.2.1 7 = .ok (.iload_n 1, 1) := by decide +kernel
theorem d_Mo_writeMark_8 : decode M_Mo_writeMark.2.1 8 = .ok (.imul, 1) := by decide +kernel
theorem d_Mo_writeMark_9 : decode M_Mo_writeMark.2.1 9 = .ok (.iadd, 1) := by decide +kernel
theorem d_Mo_writeMark_10 : decode M_Mo_writeMark.2.1 10 = .ok (.iload_n 2, 1) := by decide +kernel
theorem d_Mo_writeMark_11 : decode M_Mo_writeMark.2.1 11 = .ok (.bipush 15, 2) := by decide +kernel
theorem d_Mo_writeMark_13 : decode M_Mo_writeMark.2.1 13 = .ok (.if_icmp .le 9, 3) := by decide +kernel
theorem d_Mo_writeMark_16 : decode M_Mo_writeMark.2.1 16 = .ok (.sipush 128, 3) := by decide +kernel
theorem d_Mo_writeMark_19 : decode M_Mo_writeMark.2.1 19 = .ok (.goto 4, 3) := by decide +kernel
theorem d_Mo_writeMark_22 : decode M_Mo_writeMark.2.1 22 = .ok (.iconst 0, 1) := by decide +kernel
theorem d_Mo_writeMark_23 : decode M_Mo_writeMark.2.1 23 = .ok (.iadd, 1) := by decide +kernel
theorem d_Mo_writeMark_24 : decode M_Mo_writeMark.2.1 24 = .ok (.invokevirtual 154, 3) := by decide +kernel
theorem d_Mo_writeMark_27 : decode M_Mo_writeMark.2.1 27 = .ok (.iload_n 2, 1) := by decide +kernel
theorem d_Mo_writeMark_28 : decode M_Mo_writeMark.2.1 28 = .ok (.bipush 15, 2) := by decide +kernel
theorem d_Mo_writeMark_30 : decode M_Mo_writeMark.2.1 30 = .ok (.if_icmp .le 10, 3) := by decide +kernel
theorem d_Mo_writeMark_33 : decode M_Mo_writeMark.2.1 33 = .ok (.aload_n 0, 1) := by decide +kernel
theorem d_Mo_writeMark_34 : decode M_Mo_writeMark.2.1 34 = .ok (.iload_n 2, 1) := by decide +kernel
theorem d_Mo_writeMark_35 : decode M_Mo_writeMark.2.1 35 = .ok (.iconst 4, 1) := by decide +kernel
theorem d_Mo_writeMark_36 : decode M_Mo_writeMark.2.1 36 = .ok (.ishr, 1) := by decide +kernel
theorem d_Mo_writeMark_37 : decode M_Mo_writeMark.2.1 37 = .ok (.invokevirtual 154, 3) := by decide +kernel
theorem d_Mo_writeMark_40 : decode M_Mo_writeMark.2.1 40 = .ok (.return_, 1) := by decide +kernel
def f_Mo_writeMark (x0 : Nat) (x1 : Int32) (x2 : Int32) (c : cM) (K : cM → Prop) : Prop :=
  ∃ J3 : Int32 → Prop, (∀ (s2 : Int32), J3 s2 → (kd x0 = 7 ∧ (f_Mo_write x0 (((x2 &&& 15) + (16 * x1)) + s2) c (fun c6 => ((x2 ≤ 15) → (K c6)) ∧ (¬ (x2 ≤ 15) → (f_Mo_write x0 (c_shr x2 4) c6 (fun c8 => K c8))))))) ∧ (((x2 ≤ 15) → (J3 0)) ∧ (¬ (x2 ≤ 15) → (J3 128)))
theorem c_Mo_writeMark {x0 : Nat} {x1 : Int32} {x2 : Int32} {c : cM} {K : cM → Prop} (h : f_Mo_writeMark x0 x1 x2 c K) : Ct M_Mo_writeMark 1 0 0 (wd c) [.ref x0, .int x1, .int x2] (PoV K) := by
  refine Ct.of (by decide +kernel) (Nat.le_of_ble_eq_true rfl) (fun Z T => ?_)
  have F := T.F
  unfold f_Mo_writeMark at h
  show Z (wd c) 0 [(0, .ref x0), (1, .int x1), (2, .int x2)] [] 0 0
  refine g_aload_n F (pc := 0) d_Mo_writeMark_0 0 rfl (g_iload_n F (pc := 1) d_Mo_writeMark_1 2 rfl (g_bipush (v := 15) F (pc := 2) d_Mo_writeMark_2 (by decide) (g_iand F (pc := 4) d_Mo_writeMark_4 (g_bipush (v := 16) F (pc := 5) d_Mo_writeMark_5 (by decide) (g_iload_n F (pc := 7) d_Mo_writeMark_7 1 rfl ?_)))))
  refine g_imul F (pc := 8) d_Mo_writeMark_8 (g_iadd F (pc := 9) d_Mo_writeMark_9 (g_iload_n F (pc := 10) d_Mo_writeMark_10 2 rfl (g_bipush (v := 15) F (pc := 11) d_Mo_writeMark_11 (by decide) ?_)))
  obtain ⟨J3, hJ3, h⟩ := h
  have jn4 : ∀ (s2 : Int32), J3 s2 → Z (wd c) 23 [(0, .ref x0), (2, .int x2)] [.int s2, .int ((x2 &&& 15) + (16 * x1)), .ref x0] 0 0 := by
    intro s2 h
    replace h := hJ3 s2 h
    refine g_iadd F (pc := 23) d_Mo_writeMark_23 ?_
    obtain ⟨o5, h⟩ := h
    refine gc_callVV (As := [.int (((x2 &&& 15) + (16 * x1)) + s2)]) (st := []) F (pc := 24) d_Mo_writeMark_24 cb_Mo_154 iv_Mo_write np_Mo_write o5 vc_7 (c_Mo_write h) rfl (by decide) (Nat.le_refl _) (Nat.le_refl _) (Nat.le_of_ble_eq_true rfl) (fun c6 h => ?_)
    refine g_iload_n F (pc := 27) d_Mo_writeMark_27 1 rfl (g_bipush (v := 15) F (pc := 28) d_Mo_writeMark_28 (by decide) ?_)
    refine g_icmp_le (tgt := 40) F (pc := 30) d_Mo_writeMark_30 (by decide) (fun b7 => ?_) (fun b7 => ?_)
    · replace h := h.1 b7
      exact g_vret T (pc := 40) d_Mo_writeMark_40 rfl (Nat.le_refl _) (Nat.le_refl _) (poV h)
    · replace h := h.2 b7
      refine g_aload_n F (pc := 33) d_Mo_writeMark_33 0 rfl (g_iload_n F (pc := 34) d_Mo_writeMark_34 1 rfl (g_iconst (v := 4) F (pc := 35) d_Mo_writeMark_35 (by decide) (g_ishr F (pc := 36) d_Mo_writeMark_36 ?_)))
      refine gc_callVV (As := [.int (c_shr x2 4)]) (st := []) F (pc := 37) d_Mo_writeMark_37 cb_Mo_154 iv_Mo_write np_Mo_write o5 vc_7 (c_Mo_write h) rfl (by decide) (Nat.le_refl _) (Nat.le_refl _) (Nat.le_of_ble_eq_true rfl) (fun c8 h => ?_)
      exact g_vret T (pc := 40) d_Mo_writeMark_40 rfl (Nat.le_refl _) (Nat.le_refl _) (poV h)
  refine g_icmp_le (tgt := 22) F (pc := 13) d_Mo_writeMark_13 (by decide) (fun b1 => ?_) (fun b1 => ?_)
  · replace h := h.1 b1
    refine g_iconst (v := 0) F (pc := 22) d_Mo_writeMark_22 (by decide) ?_
    refine g_lv (lv' := [(0, .ref x0), (2, .int x2)]) F [0, 2] rfl ?_
    exact jn4 _ h
  · replace h := h.2 b1
    refine g_sipush (v := 128) F (pc := 16) d_Mo_writeMark_16 (by decide) (g_goto (tgt := 23) F (pc := 19) d_Mo_writeMark_19 (by decide) ?_)
    refine g_lv (lv' := [(0, .ref x0), (2, .int x2)]) F [0, 2] rfl ?_
    exact jn4 _ h
theorem d_Mo_writeDistance_0 : decode M_Mo_writeDistance.2.1 0 = .ok (.iload_n 1, 1) := by decide +kernel
theorem d_Mo_writeDistance_1 : decode M_Mo_writeDistance.2.1 1 = .ok (.sipush 128, 3) := by decide +kernel
theorem d_Mo_writeDistance_4 : decode M_Mo_writeDistance.2.1 4 = .ok (.if_icmp .ge 11, 3) := by decide +kernel
theorem d_Mo_writeDistance_7 : decode M_Mo_writeDistance.2.1 7 = .ok (.aload_n 0, 1) := by decide +kernel
theorem d_Mo_writeDistance_8 : decode M_Mo_writeDistance.2.1 8 = .ok (.iload_n 1, 1) := by decide +kernel
theorem d_Mo_writeDistance_9 : decode M_Mo_writeDistance.2.1 9 = .ok (.invokevirtual 154, 3) := by decide +kernel
theorem d_Mo_writeDistance_12 : decode M_Mo_writeDistance.2.1 12 = .ok (.goto 33, 3) := by decide +kernel
theorem d_Mo_writeDistance_15 : decode M_Mo_writeDistance.2.1 15 = .ok (.aload_n 0, 1) := by decide +kernel
theorem d_Mo_writeDistance_16 : decode M_Mo_writeDistance.2.1 16 = .ok (.sipush 128, 3) := by decide +kernel
theorem d_Mo_writeDistance_19 : decode M_Mo_writeDistance.2.1 19 = .ok (.iload_n 1, 1) := by decide +kernel
theorem d_Mo_writeDistance_20 : decode M_Mo_writeDistance.2.1 20 = .ok (.sipush 128, 3) := by decide +kernel
theorem d_Mo_writeDistance_23 : decode M_Mo_writeDistance.2.1 23 = .ok (.isub, 1) := by decide +kernel
theorem d_Mo_writeDistance_24 : decode M_Mo_writeDistance.2.1 24 = .ok (.sipush 128, 3) := by decide +kernel
theorem d_Mo_writeDistance_27 : decode M_Mo_writeDistance.2.1 27 = .ok (.idiv, 1) := by decide +kernel
theorem d_Mo_writeDistance_28 : decode M_Mo_writeDistance.2.1 28 = .ok (.iadd, 1) := by decide +kernel
theorem d_Mo_writeDistance_29 : decode M_Mo_writeDistance.2.1 29 = .ok (.invokevirtual 154, 3) := by decide +kernel
theorem d_Mo_writeDistance_32 : decode M_Mo_writeDistance.2.1 32 = .ok (.aload_n 0, 1) := by decide +kernel
theorem d_Mo_writeDistance_33 : decode M_Mo_writeDistance.2.1 33 = .ok (.iload_n 1, 1) := by decide +kernel
theorem d_Mo_writeDistance_34 : decode M_Mo_writeDistance.2.1 34 = .ok (.sipush 128, 3) := by decide +kernel
theorem d_Mo_writeDistance_37 : decode M_Mo_writeDistance.2.1 37 = .ok (.isub, 1) := by decide +kernel
theorem d_Mo_writeDistance_38 : decode M_Mo_writeDistance.2.1 38 = .ok (.sipush 128, 3) := by decide +kernel
theorem d_Mo_writeDistance_41 : decode M_Mo_writeDistance.2.1 41 = .ok (.irem, 1) := by decide +kernel
theorem d_Mo_writeDistance_42 : decode M_Mo_writeDistance.2.1 42 = .ok (.invokevirtual 154, 3) := by decide +kernel
theorem d_Mo_writeDistance_45 : decode M_Mo_writeDistance.2.1 45 = .ok (.return_, 1) := by decide +kernel
def f_Mo_writeDistance (x0 : Nat) (x1 : Int32) (c : cM) (K : cM → Prop) : Prop :=
  ((128 ≤ x1) → (kd x0 = 7 ∧ (f_Mo_write x0 (128 + ((x1 - 128) / 128)) c (fun c3 => f_Mo_write x0 (c_rem (x1 - 128) 128) c3 (fun c4 => K c4))))) ∧ (¬ (128 ≤ x1) → (kd x0 = 7 ∧ (f_Mo_write x0 x1 c (fun c6 => K c6))))
theorem c_Mo_writeDistance {x0 : Nat} {x1 : Int32} {c : cM} {K : cM → Prop} (h : f_Mo_writeDistance x0 x1 c K) : Ct M_Mo_writeDistance 1 0 0 (wd c) [.ref x0, .int x1] (PoV K) := by
  refine Ct.of (by decide +kernel) (Nat.le_of_ble_eq_true rfl) (fun Z T => ?_)
  have F := T.F
  unfold f_Mo_writeDistance at h
  show Z (wd c) 0 [(0, .ref x0), (1, .int x1)] [] 0 0
  refine g_iload_n F (pc := 0) d_Mo_writeDistance_0 1 rfl (g_sipush (v := 128) F (pc := 1) d_Mo_writeDistance_1 (by decide) ?_)
  refine g_icmp_ge (tgt := 15) F (pc := 4) d_Mo_writeDistance_4 (by decide) (fun b1 => ?_) (fun b1 => ?_)
  · replace h := h.1 b1
    refine g_aload_n F (pc := 15) d_Mo_writeDistance_15 0 rfl (g_sipush (v := 128) F (pc := 16) d_Mo_writeDistance_16 (by decide) (g_iload_n F (pc := 19) d_Mo_writeDistance_19 1 rfl (g_sipush (v := 128) F (pc := 20) d_Mo_writeDistance_20 (by decide) (g_isub F (pc := 23) d_Mo_writeDistance_23 (g_sipush (v := 128) F (pc := 24) d_Mo_writeDistance_24 (by decide) ?_)))))
    refine g_idiv F (pc := 27) d_Mo_writeDistance_27 (by decide) (g_iadd F (pc := 28) d_Mo_writeDistance_28 ?_)
    obtain ⟨o2, h⟩ := h
    refine gc_callVV (As := [.int (128 + ((x1 - 128) / 128))]) (st := []) F (pc := 29) d_Mo_writeDistance_29 cb_Mo_154 iv_Mo_write np_Mo_write o2 vc_7 (c_Mo_write h) rfl (by decide) (Nat.le_refl _) (Nat.le_refl _) (Nat.le_of_ble_eq_true rfl) (fun c3 h => ?_)
    refine g_aload_n F (pc := 32) d_Mo_writeDistance_32 0 rfl (g_iload_n F (pc := 33) d_Mo_writeDistance_33 1 rfl (g_sipush (v := 128) F (pc := 34) d_Mo_writeDistance_34 (by decide) (g_isub F (pc := 37) d_Mo_writeDistance_37 (g_sipush (v := 128) F (pc := 38) d_Mo_writeDistance_38 (by decide) (g_irem F (pc := 41) d_Mo_writeDistance_41 (by decide) ?_)))))
    refine gc_callVV (As := [.int (c_rem (x1 - 128) 128)]) (st := []) F (pc := 42) d_Mo_writeDistance_42 cb_Mo_154 iv_Mo_write np_Mo_write o2 vc_7 (c_Mo_write h) rfl (by decide) (Nat.le_refl _) (Nat.le_refl _) (Nat.le_of_ble_eq_true rfl) (fun c4 h => ?_)
    exact g_vret T (pc := 45) d_Mo_writeDistance_45 rfl (Nat.le_refl _) (Nat.le_refl _) (poV h)
  · replace h := h.2 b1
    refine g_aload_n F (pc := 7) d_Mo_writeDistance_7 0 rfl (g_iload_n F (pc := 8) d_Mo_writeDistance_8 1 rfl ?_)
    obtain ⟨o5, h⟩ := h
    refine gc_callVV (As := [.int x1]) (st := []) F (pc := 9) d_Mo_writeDistance_9 cb_Mo_154 iv_Mo_write np_Mo_write o5 vc_7 (c_Mo_write h) rfl (by decide) (Nat.le_refl _) (Nat.le_refl _) (Nat.le_of_ble_eq_true rfl) (fun c6 h => ?_)
    refine g_goto (tgt := 45) F (pc := 12) d_Mo_writeDistance_12 (by decide) ?_
    exact g_vret T (pc := 45) d_Mo_writeDistance_45 rfl (Nat.le_refl _) (Nat.le_refl _) (poV h)
theorem d_Mo_sealPack_0 : decode M_Mo_sealPack.2.1 0 = .ok (.aload_n 0, 1) := by decide +kernel
theorem d_Mo_sealPack_1 : decode M_Mo_sealPack.2.1 1 = .ok (.iconst 0, 1) := by decide +kernel
theorem d_Mo_sealPack_2 : decode M_Mo_sealPack.2.1 2 = .ok (.putfield 59, 3) := by decide +kernel
theorem d_Mo_sealPack_5 : decode M_Mo_sealPack.2.1 5 = .ok (.iconst 0, 1) := by decide +kernel
theorem d_Mo_sealPack_6 : decode M_Mo_sealPack.2.1 6 = .ok (.istore_n 1, 1) := by decide +kernel
theorem d_Mo_sealPack_7 : decode M_Mo_sealPack.2.1 7 = .ok (.iload_n 1, 1) := by decide +kernel
theorem d_Mo_sealPack_8 : decode M_Mo_sealPack.2.1 8 = .ok (.aload_n 0, 1) := by decide +kernel
theorem d_Mo_sealPack_9 : decode M_Mo_sealPack.2.1 9 = .ok (.getfield 148, 3) := by decide +kernel
theorem d_Mo_sealPack_12 : decode M_Mo_sealPack.2.1 12 = .ok (.bipush 20, 2) := by decide +kernel
theorem d_Mo_sealPack_14 : decode M_Mo_sealPack.2.1 14 = .ok (.isub, 1) := by decide +kernel
theorem d_Mo_sealPack_15 : decode M_Mo_sealPack.2.1 15 = .ok (.if_icmp .ge 19, 3) := by decide +kernel
theorem d_Mo_sealPack_18 : decode M_Mo_sealPack.2.1 18 = .ok (.aload_n 0, 1) := by decide +kernel
theorem d_Mo_sealPack_19 : decode M_Mo_sealPack.2.1 19 = .ok (.aload_n 0, 1) := by decide +kernel
theorem d_Mo_sealPack_20 : decode M_Mo_sealPack.2.1 20 = .ok (.getfield 50, 3) := by decide +kernel
theorem d_Mo_sealPack_23 : decode M_Mo_sealPack.2.1 23 = .ok (.iload_n 1, 1) := by decide +kernel
theorem d_Mo_sealPack_24 : decode M_Mo_sealPack.2.1 24 = .ok (.iaload, 1) := by decide +kernel
theorem d_Mo_sealPack_25 : decode M_Mo_sealPack.2.1 25 = .ok (.invokevirtual 63, 3) := by decide +kernel
theorem d_Mo_sealPack_28 : decode M_Mo_sealPack.2.1 28 = .ok (.iinc 1 1, 3) := by decide +kernel
theorem d_Mo_sealPack_31 : decode M_Mo_sealPack.2.1 31 = .ok (.goto (-24), 3) := by decide +kernel
theorem d_Mo_sealPack_34 : decode M_Mo_sealPack.2.1 34 = .ok (.aload_n 0, 1) := by decide +kernel
theorem d_Mo_sealPack_35 : decode M_Mo_sealPack.2.1 35 = .ok (.invokevirtual 90, 3) := by decide +kernel
theorem d_Mo_sealPack_38 : decode M_Mo_sealPack.2.1 38 = .ok (.iconst 0, 1) := by decide +kernel
theorem d_Mo_sealPack_39 : decode M_Mo_sealPack.2.1 39 = .ok (.istore_n 1, 1) := by decide +kernel
theorem d_Mo_sealPack_40 : decode M_Mo_sealPack.2.1 40 = .ok (.iload_n 1, 1) := by decide +kernel
theorem d_Mo_sealPack_41 : decode M_Mo_sealPack.2.1 41 = .ok (.bipush 20, 2) := by decide +kernel
theorem d_Mo_sealPack_43 : decode M_Mo_sealPack.2.1 43 = .ok (.if_icmp .ge 45, 3) := by decide +kernel
theorem d_Mo_sealPack_46 : decode M_Mo_sealPack.2.1 46 = .ok (.aload_n 0, 1) := by decide +kernel
theorem d_Mo_sealPack_47 : decode M_Mo_sealPack.2.1 47 = .ok (.getfield 50, 3) := by decide +kernel
theorem d_Mo_sealPack_50 : decode M_Mo_sealPack.2.1 50 = .ok (.aload_n 0, 1) := by decide +kernel
theorem d_Mo_sealPack_51 : decode M_Mo_sealPack.2.1 51 = .ok (.getfield 148, 3) := by decide +kernel
theorem d_Mo_sealPack_54 : decode M_Mo_sealPack.2.1 54 = .ok (.bipush 20, 2) := by decide +kernel
theorem d_Mo_sealPack_56 : decode M_Mo_sealPack.2.1 56 = .ok (.isub, 1) := by decide +kernel
theorem d_Mo_sealPack_57 : decode M_Mo_sealPack.2.1 57 = .ok (.iload_n 1, 1) := by decide +kernel
theorem d_Mo_sealPack_58 : decode M_Mo_sealPack.2.1 58 = .ok (.iadd, 1) := by decide +kernel
theorem d_Mo_sealPack_59 : decode M_Mo_sealPack.2.1 59 = .ok (.aload_n 0, 1) := by decide +kernel
theorem d_Mo_sealPack_60 : decode M_Mo_sealPack.2.1 60 = .ok (.getfield 47, 3) := by decide +kernel
theorem d_Mo_sealPack_63 : decode M_Mo_sealPack.2.1 63 = .ok (.iload_n 1, 1) := by decide +kernel
theorem d_Mo_sealPack_64 : decode M_Mo_sealPack.2.1 64 = .ok (.iconst 4, 1) := by decide +kernel
theorem d_Mo_sealPack_65 : decode M_Mo_sealPack.2.1 65 = .ok (.idiv, 1) := by decide +kernel
theorem d_Mo_sealPack_66 : decode M_Mo_sealPack.2.1 66 = .ok (.iaload, 1) := by decide +kernel
theorem d_Mo_sealPack_67 : decode M_Mo_sealPack.2.1 67 = .ok (.bipush 24, 2) := by decide +kernel
theorem d_Mo_sealPack_69 : decode M_Mo_sealPack.2.1 69 = .ok (.bipush 8, 2) := by decide +kernel
theorem d_Mo_sealPack_71 : decode M_Mo_sealPack.2.1 71 = .ok (.iload_n 1, 1) := by decide +kernel
theorem d_Mo_sealPack_72 : decode M_Mo_sealPack.2.1 72 = .ok (.iconst 4, 1) := by decide +kernel
theorem d_Mo_sealPack_73 : decode M_Mo_sealPack.2.1 73 = .ok (.irem, 1) := by decide +kernel
theorem d_Mo_sealPack_74 : decode M_Mo_sealPack.2.1 74 = .ok (.imul, 1) := by decide +kernel
theorem d_Mo_sealPack_75 : decode M_Mo_sealPack.2.1 75 = .ok (.isub, 1) := by decide +kernel
theorem d_Mo_sealPack_76 : decode M_Mo_sealPack.2.1 76 = .ok (.iushr, 1) := by decide +kernel
theorem d_Mo_sealPack_77 : decode M_Mo_sealPack.2.1 77 = .ok (.sipush 255, 3) := by decide +kernel
theorem d_Mo_sealPack_80 : decode M_Mo_sealPack.2.1 80 = .ok (.iand, 1) := by decide +kernel
theorem d_Mo_sealPack_81 : decode M_Mo_sealPack.2.1 81 = .ok (.iastore, 1) := by decide +kernel
theorem d_Mo_sealPack_82 : decode M_Mo_sealPack.2.1 82 = .ok (.iinc 1 1, 3) := by decide +kernel
theorem d_Mo_sealPack_85 : decode M_Mo_sealPack.2.1 85 = .ok (.goto (-45), 3) := by decide +kernel
theorem d_Mo_sealPack_88 : decode M_Mo_sealPack.2.1 88 = .ok (.return_, 1) := by decide +kernel
def f_Mo_sealPack (x0 : Nat) (c : cM) (K : cM → Prop) : Prop :=
  kd x0 = 7 ∧ (∀ c2 : cM, c2 = c_up c x0 13 0 → (∃ I3 : Nat → Int32 → cM → Prop, (∃ n, I3 n 0 c2) ∧ ∀ (n4 : Nat) (y7 : Int32) (c8 : cM), I3 n4 y7 c8 → (((((c8 x0 17) - 20) ≤ y7) → (f_Mo_sum x0 c8 (fun c10 => ∃ I11 : Nat → Int32 → cM → Prop, (∃ n, I11 n 0 c10) ∧ ∀ (n12 : Nat) (y15 : Int32) (c16 : cM), I11 n12 y15 c16 → (((20 ≤ y15) → (K c16)) ∧ (¬ (20 ≤ y15) → (kd (rf x0 16) = 100 ∧ (vp_in (y15 / 4) (ln (rf x0 16)) ∧ (kd (rf x0 18) = 100 ∧ (vp_in (((c16 x0 17) - 20) + y15) (ln (rf x0 18)) ∧ (∀ c22 : cM, c22 = c_up c16 (rf x0 18) (Int32.toNatClampNeg (((c16 x0 17) - 20) + y15)) ((c_ushr (c16 (rf x0 16) (Int32.toNatClampNeg (y15 / 4))) (24 - (8 * (c_rem y15 4)))) &&& 255) → (∃ m, m < n12 ∧ I11 m (y15 + 1) c22))))))))))) ∧ (¬ (((c8 x0 17) - 20) ≤ y7) → (kd (rf x0 18) = 100 ∧ (vp_in y7 (ln (rf x0 18)) ∧ (f_Mo_put x0 (c8 (rf x0 18) (Int32.toNatClampNeg y7)) c8 (fun c25 => ∃ m, m < n4 ∧ I3 m (y7 + 1) c25))))))))
theorem c_Mo_sealPack {x0 : Nat} {c : cM} {K : cM → Prop} (h : f_Mo_sealPack x0 c K) : Ct M_Mo_sealPack 3 0 0 (wd c) [.ref x0] (PoV K) := by
  refine Ct.of (by decide +kernel) (Nat.le_of_ble_eq_true rfl) (fun Z T => ?_)
  have F := T.F
  unfold f_Mo_sealPack at h
  show Z (wd c) 0 [(0, .ref x0)] [] 0 0
  refine g_aload_n F (pc := 0) d_Mo_sealPack_0 0 rfl (g_iconst (v := 0) F (pc := 1) d_Mo_sealPack_1 (by decide) ?_)
  obtain ⟨o1, h⟩ := h
  refine gc_putI F (pc := 2) d_Mo_sealPack_2 pi_Mo_59 o1 ?_
  obtain ⟨c2, ec2⟩ : ∃ c2 : cM, c2 = c_up c x0 13 0 := ⟨_, rfl⟩
  rw [← ec2]
  replace h := h c2 ec2
  refine g_iconst (v := 0) F (pc := 5) d_Mo_sealPack_5 (by decide) (g_istore_n (lv' := [(1, .int 0), (0, .ref x0)]) F (pc := 6) d_Mo_sealPack_6 (by decide) rfl ?_)
  refine g_lv (lv' := [(0, .ref x0), (1, .int 0)]) F [1, 0] rfl ?_
  obtain ⟨I3, ⟨n0, h⟩, hI3⟩ := h
  have lp6 : ∀ (n4 : Nat) (y7 : Int32) (c8 : cM), I3 n4 y7 c8 → Z (wd c8) 7 [(0, .ref x0), (1, .int y7)] [] 0 0 := by
    intro n4
    induction n4 using Nat.strongRecOn with
    | _ n4 ih5 =>
      intro y7 c8 h
      replace h := hI3 n4 y7 c8 h
      refine g_iload_n F (pc := 7) d_Mo_sealPack_7 1 rfl (g_aload_n F (pc := 8) d_Mo_sealPack_8 0 rfl (gc_getI F (pc := 9) d_Mo_sealPack_9 fi_Mo_148 o1 (g_bipush (v := 20) F (pc := 12) d_Mo_sealPack_12 (by decide) (g_isub F (pc := 14) d_Mo_sealPack_14 ?_))))
      refine g_icmp_ge (tgt := 34) F (pc := 15) d_Mo_sealPack_15 (by decide) (fun b9 => ?_) (fun b9 => ?_)
      · replace h := h.1 b9
        refine g_aload_n F (pc := 34) d_Mo_sealPack_34 0 rfl ?_
        refine gc_callVV (As := []) (st := []) F (pc := 35) d_Mo_sealPack_35 cb_Mo_90 iv_Mo_sum np_Mo_sum o1 vc_7 (c_Mo_sum h) rfl (by decide) (Nat.le_refl _) (Nat.le_refl _) (Nat.le_of_ble_eq_true rfl) (fun c10 h => ?_)
        refine g_iconst (v := 0) F (pc := 38) d_Mo_sealPack_38 (by decide) (g_istore_n (lv' := [(1, .int 0), (0, .ref x0)]) F (pc := 39) d_Mo_sealPack_39 (by decide) rfl ?_)
        refine g_lv (lv' := [(0, .ref x0), (1, .int 0)]) F [1, 0] rfl ?_
        obtain ⟨I11, ⟨n0, h⟩, hI11⟩ := h
        have lp14 : ∀ (n12 : Nat) (y15 : Int32) (c16 : cM), I11 n12 y15 c16 → Z (wd c16) 40 [(0, .ref x0), (1, .int y15)] [] 0 0 := by
          intro n12
          induction n12 using Nat.strongRecOn with
          | _ n12 ih13 =>
            intro y15 c16 h
            replace h := hI11 n12 y15 c16 h
            refine g_iload_n F (pc := 40) d_Mo_sealPack_40 1 rfl (g_bipush (v := 20) F (pc := 41) d_Mo_sealPack_41 (by decide) ?_)
            refine g_icmp_ge (tgt := 88) F (pc := 43) d_Mo_sealPack_43 (by decide) (fun b17 => ?_) (fun b17 => ?_)
            · replace h := h.1 b17
              exact g_vret T (pc := 88) d_Mo_sealPack_88 rfl (Nat.le_refl _) (Nat.le_refl _) (poV h)
            · replace h := h.2 b17
              refine g_aload_n F (pc := 46) d_Mo_sealPack_46 0 rfl (gc_getR F (pc := 47) d_Mo_sealPack_47 fi_Mo_50 o1 (g_aload_n F (pc := 50) d_Mo_sealPack_50 0 rfl (gc_getI F (pc := 51) d_Mo_sealPack_51 fi_Mo_148 o1 (g_bipush (v := 20) F (pc := 54) d_Mo_sealPack_54 (by decide) (g_isub F (pc := 56) d_Mo_sealPack_56 ?_)))))
              refine g_iload_n F (pc := 57) d_Mo_sealPack_57 1 rfl (g_iadd F (pc := 58) d_Mo_sealPack_58 (g_aload_n F (pc := 59) d_Mo_sealPack_59 0 rfl (gc_getR F (pc := 60) d_Mo_sealPack_60 fi_Mo_47 o1 (g_iload_n F (pc := 63) d_Mo_sealPack_63 1 rfl (g_iconst (v := 4) F (pc := 64) d_Mo_sealPack_64 (by decide) ?_)))))
              refine g_idiv F (pc := 65) d_Mo_sealPack_65 (by decide) ?_
              obtain ⟨o18, h⟩ := h
              obtain ⟨o19, h⟩ := h
              refine gc_iald F (pc := 66) d_Mo_sealPack_66 o18 o19 (g_bipush (v := 24) F (pc := 67) d_Mo_sealPack_67 (by decide) (g_bipush (v := 8) F (pc := 69) d_Mo_sealPack_69 (by decide) (g_iload_n F (pc := 71) d_Mo_sealPack_71 1 rfl (g_iconst (v := 4) F (pc := 72) d_Mo_sealPack_72 (by decide) (g_irem F (pc := 73) d_Mo_sealPack_73 (by decide) ?_)))))
              refine g_imul F (pc := 74) d_Mo_sealPack_74 (g_isub F (pc := 75) d_Mo_sealPack_75 (g_iushr F (pc := 76) d_Mo_sealPack_76 (g_sipush (v := 255) F (pc := 77) d_Mo_sealPack_77 (by decide) (g_iand F (pc := 80) d_Mo_sealPack_80 ?_))))
              obtain ⟨o20, h⟩ := h
              obtain ⟨o21, h⟩ := h
              refine gc_iast F (pc := 81) d_Mo_sealPack_81 o20 o21 ?_
              obtain ⟨c22, ec22⟩ : ∃ c22 : cM, c22 = c_up c16 (rf x0 18) (Int32.toNatClampNeg (((c16 x0 17) - 20) + y15)) ((c_ushr (c16 (rf x0 16) (Int32.toNatClampNeg (y15 / 4))) (24 - (8 * (c_rem y15 4)))) &&& 255) := ⟨_, rfl⟩
              rw [← ec22]
              replace h := h c22 ec22
              refine g_iinc (v := (y15 + 1)) (lv' := [(1, .int (y15 + 1)), (0, .ref x0)]) F (pc := 82) d_Mo_sealPack_82 1 rfl (sk_inc (by decide)) (by decide) rfl (g_goto (tgt := 40) F (pc := 85) d_Mo_sealPack_85 (by decide) ?_)
              refine g_lv (lv' := [(0, .ref x0), (1, .int (y15 + 1))]) F [1, 0] rfl ?_
              obtain ⟨m, hm, h⟩ := h
              exact ih13 m hm _ _ h
        exact lp14 n0 _ _ h
      · replace h := h.2 b9
        refine g_aload_n F (pc := 18) d_Mo_sealPack_18 0 rfl (g_aload_n F (pc := 19) d_Mo_sealPack_19 0 rfl (gc_getR F (pc := 20) d_Mo_sealPack_20 fi_Mo_50 o1 (g_iload_n F (pc := 23) d_Mo_sealPack_23 1 rfl ?_)))
        obtain ⟨o23, h⟩ := h
        obtain ⟨o24, h⟩ := h
        refine gc_iald F (pc := 24) d_Mo_sealPack_24 o23 o24 ?_
        refine gc_callVV (As := [.int (c8 (rf x0 18) (Int32.toNatClampNeg y7))]) (st := []) F (pc := 25) d_Mo_sealPack_25 cb_Mo_63 iv_Mo_put np_Mo_put o1 vc_7 (c_Mo_put h) rfl (by decide) (Nat.le_refl _) (Nat.le_refl _) (Nat.le_of_ble_eq_true rfl) (fun c25 h => ?_)
        refine g_iinc (v := (y7 + 1)) (lv' := [(1, .int (y7 + 1)), (0, .ref x0)]) F (pc := 28) d_Mo_sealPack_28 1 rfl (sk_inc (by decide)) (by decide) rfl (g_goto (tgt := 7) F (pc := 31) d_Mo_sealPack_31 (by decide) ?_)
        refine g_lv (lv' := [(0, .ref x0), (1, .int (y7 + 1))]) F [1, 0] rfl ?_
        obtain ⟨m, hm, h⟩ := h
        exact ih5 m hm _ _ h
  exact lp6 n0 _ _ h
theorem d_Mo_pack_0 : decode M_Mo_pack.2.1 0 = .ok (.aload_n 0, 1) := by decide +kernel
theorem d_Mo_pack_1 : decode M_Mo_pack.2.1 1 = .ok (.iconst 0, 1) := by decide +kernel
theorem d_Mo_pack_2 : decode M_Mo_pack.2.1 2 = .ok (.putfield 148, 3) := by decide +kernel
theorem d_Mo_pack_5 : decode M_Mo_pack.2.1 5 = .ok (.aload_n 0, 1) := by decide +kernel
theorem d_Mo_pack_6 : decode M_Mo_pack.2.1 6 = .ok (.bipush 80, 2) := by decide +kernel
theorem d_Mo_pack_8 : decode M_Mo_pack.2.1 8 = .ok (.invokevirtual 154, 3) := by decide +kernel
theorem d_Mo_pack_11 : decode M_Mo_pack.2.1 11 = .ok (.aload_n 0, 1) := by decide +kernel
theorem d_Mo_pack_12 : decode M_Mo_pack.2.1 12 = .ok (.bipush 65, 2) := by decide +kernel
theorem d_Mo_pack_14 : decode M_Mo_pack.2.1 14 = .ok (.invokevirtual 154, 3) := by decide +kernel
theorem d_Mo_pack_17 : decode M_Mo_pack.2.1 17 = .ok (.aload_n 0, 1) := by decide +kernel
theorem d_Mo_pack_18 : decode M_Mo_pack.2.1 18 = .ok (.bipush 67, 2) := by decide +kernel
theorem d_Mo_pack_20 : decode M_Mo_pack.2.1 20 = .ok (.invokevirtual 154, 3) := by decide +kernel
theorem d_Mo_pack_23 : decode M_Mo_pack.2.1 23 = .ok (.aload_n 0, 1) := by decide +kernel
theorem d_Mo_pack_24 : decode M_Mo_pack.2.1 24 = .ok (.bipush 75, 2) := by decide +kernel
theorem d_Mo_pack_26 : decode M_Mo_pack.2.1 26 = .ok (.invokevirtual 154, 3) := by decide +kernel
theorem d_Mo_pack_29 : decode M_Mo_pack.2.1 29 = .ok (.iconst 0, 1) := by decide +kernel
theorem d_Mo_pack_30 : decode M_Mo_pack.2.1 30 = .ok (.istore_n 1, 1) := by decide +kernel
theorem d_Mo_pack_31 : decode M_Mo_pack.2.1 31 = .ok (.iload_n 1, 1) := by decide +kernel
theorem d_Mo_pack_32 : decode M_Mo_pack.2.1 32 = .ok (.iconst 3, 1) := by decide +kernel
theorem d_Mo_pack_33 : decode M_Mo_pack.2.1 33 = .ok (.if_icmp .ge 14, 3) := by decide +kernel
theorem d_Mo_pack_36 : decode M_Mo_pack.2.1 36 = .ok (.aload_n 0, 1) := by decide +kernel
theorem d_Mo_pack_37 : decode M_Mo_pack.2.1 37 = .ok (.iconst 0, 1) := by decide +kernel
theorem d_Mo_pack_38 : decode M_Mo_pack.2.1 38 = .ok (.invokevirtual 154, 3) := by decide +kernel
theorem d_Mo_pack_41 : decode M_Mo_pack.2.1 41 = .ok (.iinc 1 1, 3) := by decide +kernel
theorem d_Mo_pack_44 : decode M_Mo_pack.2.1 44 = .ok (.goto (-13), 3) := by decide +kernel
theorem d_Mo_pack_47 : decode M_Mo_pack.2.1 47 = .ok (.aload_n 0, 1) := by decide +kernel
theorem d_Mo_pack_48 : decode M_Mo_pack.2.1 48 = .ok (.iconst 2, 1) := by decide +kernel
theorem d_Mo_pack_49 : decode M_Mo_pack.2.1 49 = .ok (.invokevirtual 154, 3) := by decide +kernel
theorem d_Mo_pack_52 : decode M_Mo_pack.2.1 52 = .ok (.iconst 0, 1) := by decide +kernel
theorem d_Mo_pack_53 : decode M_Mo_pack.2.1 53 = .ok (.istore_n 1, 1) := by decide +kernel
theorem d_Mo_pack_54 : decode M_Mo_pack.2.1 54 = .ok (.iload_n 1, 1) := by decide +kernel
theorem d_Mo_pack_55 : decode M_Mo_pack.2.1 55 = .ok (.iconst 3, 1) := by decide +kernel
theorem d_Mo_pack_56 : decode M_Mo_pack.2.1 56 = .ok (.if_icmp .ge 14, 3) := by decide +kernel
theorem d_Mo_pack_59 : decode M_Mo_pack.2.1 59 = .ok (.aload_n 0, 1) := by decide +kernel
theorem d_Mo_pack_60 : decode M_Mo_pack.2.1 60 = .ok (.iconst 0, 1) := by decide +kernel
theorem d_Mo_pack_61 : decode M_Mo_pack.2.1 61 = .ok (.invokevirtual 154, 3) := by decide +kernel
theorem d_Mo_pack_64 : decode M_Mo_pack.2.1 64 = .ok (.iinc 1 1, 3) := by decide +kernel
theorem d_Mo_pack_67 : decode M_Mo_pack.2.1 67 = .ok (.goto (-13), 3) := by decide +kernel
theorem d_Mo_pack_70 : decode M_Mo_pack.2.1 70 = .ok (.aload_n 0, 1) := by decide +kernel
theorem d_Mo_pack_71 : decode M_Mo_pack.2.1 71 = .ok (.aload_n 0, 1) := by decide +kernel
theorem d_Mo_pack_72 : decode M_Mo_pack.2.1 72 = .ok (.getfield 93, 3) := by decide +kernel
theorem d_Mo_pack_75 : decode M_Mo_pack.2.1 75 = .ok (.invokevirtual 154, 3) := by decide +kernel
theorem d_Mo_pack_78 : decode M_Mo_pack.2.1 78 = .ok (.iconst (-1), 1) := by decide +kernel
theorem d_Mo_pack_79 : decode M_Mo_pack.2.1 79 = .ok (.istore_n 1, 1) := by decide +kernel
theorem d_Mo_pack_80 : decode M_Mo_pack.2.1 80 = .ok (.iconst 0, 1) := by decide +kernel
theorem d_Mo_pack_81 : decode M_Mo_pack.2.1 81 = .ok (.istore_n 2, 1) := by decide +kernel
theorem d_Mo_pack_82 : decode M_Mo_pack.2.1 82 = .ok (.iconst 0, 1) := by decide +kernel
theorem d_Mo_pack_83 : decode M_Mo_pack.2.1 83 = .ok (.istore_n 3, 1) := by decide +kernel
theorem d_Mo_pack_84 : decode M_Mo_pack.2.1 84 = .ok (.iconst 1, 1) := by decide +kernel
theorem d_Mo_pack_85 : decode M_Mo_pack.2.1 85 = .ok (.istore 4, 2) := by decide +kernel
theorem d_Mo_pack_87 : decode M_Mo_pack.2.1 87 = .ok (.iload 4, 2) := by decide +kernel
theorem d_Mo_pack_89 : decode M_Mo_pack.2.1 89 = .ok (.iconst 3, 1) := by decide +kernel
theorem d_Mo_pack_90 : decode M_Mo_pack.2.1 90 = .ok (.if_icmp .gt 185, 3) := by decide +kernel
theorem d_Mo_pack_93 : decode M_Mo_pack.2.1 93 = .ok (.iconst 0, 1) := by decide +kernel
theorem d_Mo_pack_94 : decode M_Mo_pack.2.1 94 = .ok (.istore 5, 2) := by decide +kernel
theorem d_Mo_pack_96 : decode M_Mo_pack.2.1 96 = .ok (.iload 5, 2) := by decide +kernel
theorem d_Mo_pack_98 : decode M_Mo_pack.2.1 98 = .ok (.aload_n 0, 1) := by decide +kernel
theorem d_Mo_pack_99 : decode M_Mo_pack.2.1 99 = .ok (.getfield 93, 3) := by decide +kernel
theorem d_Mo_pack_102 : decode M_Mo_pack.2.1 102 = .ok (.if_icmp .ge 167, 3) := by decide +kernel
theorem d_Mo_pack_105 : decode M_Mo_pack.2.1 105 = .ok (.aload_n 0, 1) := by decide +kernel
theorem d_Mo_pack_106 : decode M_Mo_pack.2.1 106 = .ok (.getfield 7, 3) := by decide +kernel
theorem d_Mo_pack_109 : decode M_Mo_pack.2.1 109 = .ok (.iload 5, 2) := by decide +kernel
theorem d_Mo_pack_111 : decode M_Mo_pack.2.1 111 = .ok (.iaload, 1) := by decide +kernel
theorem d_Mo_pack_112 : decode M_Mo_pack.2.1 112 = .ok (.iload 4, 2) := by decide +kernel
theorem d_Mo_pack_114 : decode M_Mo_pack.2.1 114 = .ok (.if_icmp .ne 149, 3) := by decide +kernel
theorem d_Mo_pack_117 : decode M_Mo_pack.2.1 117 = .ok (.aload_n 0, 1) := by decide +kernel
theorem d_Mo_pack_118 : decode M_Mo_pack.2.1 118 = .ok (.getfield 148, 3) := by decide +kernel
theorem d_Mo_pack_121 : decode M_Mo_pack.2.1 121 = .ok (.istore 6, 2) := by decide +kernel
theorem d_Mo_pack_123 : decode M_Mo_pack.2.1 123 = .ok (.iload_n 1, 1) := by decide +kernel
theorem d_Mo_pack_124 : decode M_Mo_pack.2.1 124 = .ok (.ifCond .lt 29, 3) := by decide +kernel
theorem d_Mo_pack_127 : decode M_Mo_pack.2.1 127 = .ok (.aload_n 0, 1) := by decide +kernel
theorem d_Mo_pack_128 : decode M_Mo_pack.2.1 128 = .ok (.getfield 7, 3) := by decide +kernel
theorem d_Mo_pack_131 : decode M_Mo_pack.2.1 131 = .ok (.iload_n 1, 1) := by decide +kernel
theorem d_Mo_pack_132 : decode M_Mo_pack.2.1 132 = .ok (.iaload, 1) := by decide +kernel
theorem d_Mo_pack_133 : decode M_Mo_pack.2.1 133 = .ok (.iload 4, 2) := by decide +kernel
theorem d_Mo_pack_135 : decode M_Mo_pack.2.1 135 = .ok (.if_icmp .ne 18, 3) := by decide +kernel
theorem d_Mo_pack_138 : decode M_Mo_pack.2.1 138 = .ok (.iload_n 2, 1) := by decide +kernel
theorem d_Mo_pack_139 : decode M_Mo_pack.2.1 139 = .ok (.iconst 3, 1) := by decide +kernel
theorem d_Mo_pack_140 : decode M_Mo_pack.2.1 140 = .ok (.if_icmp .ge 13, 3) := by decide +kernel
theorem d_Mo_pack_143 : decode M_Mo_pack.2.1 143 = .ok (.aload_n 0, 1) := by decide +kernel
theorem d_Mo_pack_144 : decode M_Mo_pack.2.1 144 = .ok (.iload_n 1, 1) := by decide +kernel
theorem d_Mo_pack_145 : decode M_Mo_pack.2.1 145 = .ok (.iload 5, 2) := by decide +kernel
theorem d_Mo_pack_147 : decode M_Mo_pack.2.1 147 = .ok (.invokevirtual 159, 3) := by decide +kernel
theorem d_Mo_pack_150 : decode M_Mo_pack.2.1 150 = .ok (.goto 10, 3) := by decide +kernel
theorem d_Mo_pack_153 : decode M_Mo_pack.2.1 153 = .ok (.aload_n 0, 1) := by decide +kernel
theorem d_Mo_pack_154 : decode M_Mo_pack.2.1 154 = .ok (.getfield 13, 3) := by decide +kernel
theorem d_Mo_pack_157 : decode M_Mo_pack.2.1 157 = .ok (.iload 5, 2) := by decide +kernel
theorem d_Mo_pack_159 : decode M_Mo_pack.2.1 159 = .ok (.iaload, 1) := by decide +kernel
theorem d_Mo_pack_160 : decode M_Mo_pack.2.1 160 = .ok (.istore 7, 2) := by decide +kernel
theorem d_Mo_pack_162 : decode M_Mo_pack.2.1 162 = .ok (.iload 7, 2) := by decide +kernel
theorem d_Mo_pack_164 : decode M_Mo_pack.2.1 164 = .ok (.aload_n 0, 1) := by decide +kernel
theorem d_Mo_pack_165 : decode M_Mo_pack.2.1 165 = .ok (.getfield 13, 3) := by decide +kernel
theorem d_Mo_pack_168 : decode M_Mo_pack.2.1 168 = .ok (.iload 5, 2) := by decide +kernel
theorem d_Mo_pack_170 : decode M_Mo_pack.2.1 170 = .ok (.iaload, 1) := by decide +kernel
theorem d_Mo_pack_171 : decode M_Mo_pack.2.1 171 = .ok (.if_icmp .ge 25, 3) := by decide +kernel
theorem d_Mo_pack_174 : decode M_Mo_pack.2.1 174 = .ok (.iinc 2 1, 3) := by decide +kernel
theorem d_Mo_pack_177 : decode M_Mo_pack.2.1 177 = .ok (.aload_n 0, 1) := by decide +kernel
theorem d_Mo_pack_178 : decode M_Mo_pack.2.1 178 = .ok (.bipush 6, 2) := by decide +kernel
theorem d_Mo_pack_180 : decode M_Mo_pack.2.1 180 = .ok (.iload 7, 2) := by decide +kernel
theorem d_Mo_pack_182 : decode M_Mo_pack.2.1 182 = .ok (.invokevirtual 162, 3) := by decide +kernel
theorem d_Mo_pack_185 : decode M_Mo_pack.2.1 185 = .ok (.aload_n 0, 1) := by decide +kernel
theorem d_Mo_pack_186 : decode M_Mo_pack.2.1 186 = .ok (.iload 6, 2) := by decide +kernel
theorem d_Mo_pack_188 : decode M_Mo_pack.2.1 188 = .ok (.iload_n 3, 1) := by decide +kernel
theorem d_Mo_pack_189 : decode M_Mo_pack.2.1 189 = .ok (.isub, 1) := by decide +kernel
theorem d_Mo_pack_190 : decode M_Mo_pack.2.1 190 = .ok (.invokevirtual 165, 3) := by decide +kernel
theorem d_Mo_pack_193 : decode M_Mo_pack.2.1 193 = .ok (.goto 58, 3) := by decide +kernel
theorem d_Mo_pack_196 : decode M_Mo_pack.2.1 196 = .ok (.iconst 0, 1) := by decide +kernel
theorem d_Mo_pack_197 : decode M_Mo_pack.2.1 197 = .ok (.istore_n 2, 1) := by decide +kernel
theorem d_Mo_pack_198 : decode M_Mo_pack.2.1 198 = .ok (.aload_n 0, 1) := by decide +kernel
theorem d_Mo_pack_199 : decode M_Mo_pack.2.1 199 = .ok (.getfield 13, 3) := by decide +kernel
theorem d_Mo_pack_202 : decode M_Mo_pack.2.1 202 = .ok (.iload 5, 2) := by decide +kernel
theorem d_Mo_pack_204 : decode M_Mo_pack.2.1 204 = .ok (.iaload, 1) := by decide +kernel
theorem d_Mo_pack_205 : decode M_Mo_pack.2.1 205 = .ok (.istore 7, 2) := by decide +kernel
theorem d_Mo_pack_207 : decode M_Mo_pack.2.1 207 = .ok (.aload_n 0, 1) := by decide +kernel
theorem d_Mo_pack_208 : decode M_Mo_pack.2.1 208 = .ok (.iload 4, 2) := by decide +kernel
theorem d_Mo_pack_210 : decode M_Mo_pack.2.1 210 = .ok (.iload 7, 2) := by decide +kernel
theorem d_Mo_pack_212 : decode M_Mo_pack.2.1 212 = .ok (.invokevirtual 162, 3) := by decide +kernel
theorem d_Mo_pack_215 : decode M_Mo_pack.2.1 215 = .ok (.iconst 0, 1) := by decide +kernel
theorem d_Mo_pack_216 : decode M_Mo_pack.2.1 216 = .ok (.istore 8, 2) := by decide +kernel
theorem d_Mo_pack_218 : decode M_Mo_pack.2.1 218 = .ok (.iload 8, 2) := by decide +kernel
theorem d_Mo_pack_220 : decode M_Mo_pack.2.1 220 = .ok (.iload 7, 2) := by decide +kernel
theorem d_Mo_pack_222 : decode M_Mo_pack.2.1 222 = .ok (.if_icmp .ge 29, 3) := by decide +kernel
theorem d_Mo_pack_225 : decode M_Mo_pack.2.1 225 = .ok (.aload_n 0, 1) := by decide +kernel
theorem d_Mo_pack_226 : decode M_Mo_pack.2.1 226 = .ok (.getfield 56, 3) := by decide +kernel
theorem d_Mo_pack_229 : decode M_Mo_pack.2.1 229 = .ok (.iload 8, 2) := by decide +kernel
theorem d_Mo_pack_231 : decode M_Mo_pack.2.1 231 = .ok (.aload_n 0, 1) := by decide +kernel
theorem d_Mo_pack_232 : decode M_Mo_pack.2.1 232 = .ok (.getfield 16, 3) := by decide +kernel
theorem d_Mo_pack_235 : decode M_Mo_pack.2.1 235 = .ok (.bipush 120, 2) := by decide +kernel
theorem d_Mo_pack_237 : decode M_Mo_pack.2.1 237 = .ok (.iload 5, 2) := by decide +kernel
theorem d_Mo_pack_239 : decode M_Mo_pack.2.1 239 = .ok (.imul, 1) := by decide +kernel
theorem d_Mo_pack_240 : decode M_Mo_pack.2.1 240 = .ok (.iload 8, 2) := by decide +kernel
theorem d_Mo_pack_242 : decode M_Mo_pack.2.1 242 = .ok (.iadd, 1) := by decide +kernel
theorem d_Mo_pack_243 : decode M_Mo_pack.2.1 243 = .ok (.iaload, 1) := by decide +kernel
theorem d_Mo_pack_244 : decode M_Mo_pack.2.1 244 = .ok (.iastore, 1) := by decide +kernel
theorem d_Mo_pack_245 : decode M_Mo_pack.2.1 245 = .ok (.iinc 8 1, 3) := by decide +kernel
theorem d_Mo_pack_248 : decode M_Mo_pack.2.1 248 = .ok (.goto (-30), 3) := by decide +kernel
theorem d_Mo_pack_251 : decode M_Mo_pack.2.1 251 = .ok (.aload_n 0, 1) := by decide +kernel
theorem d_Mo_pack_252 : decode M_Mo_pack.2.1 252 = .ok (.iload 7, 2) := by decide +kernel
theorem d_Mo_pack_254 : decode M_Mo_pack.2.1 254 = .ok (.invokevirtual 168, 3) := by decide +kernel
theorem d_Mo_pack_257 : decode M_Mo_pack.2.1 257 = .ok (.iload 5, 2) := by decide +kernel
theorem d_Mo_pack_259 : decode M_Mo_pack.2.1 259 = .ok (.istore_n 1, 1) := by decide +kernel
theorem d_Mo_pack_260 : decode M_Mo_pack.2.1 260 = .ok (.iload 6, 2) := by decide +kernel
theorem d_Mo_pack_262 : decode M_Mo_pack.2.1 262 = .ok (.istore_n 3, 1) := by decide +kernel
theorem d_Mo_pack_263 : decode M_Mo_pack.2.1 263 = .ok (.iinc 5 1, 3) := by decide +kernel
theorem d_Mo_pack_266 : decode M_Mo_pack.2.1 266 = .ok (.goto (-170), 3) := by decide +kernel
theorem d_Mo_pack_269 : decode M_Mo_pack.2.1 269 = .ok (.iinc 4 1, 3) := by decide +kernel
theorem d_Mo_pack_272 : decode M_Mo_pack.2.1 272 = .ok (.goto (-185), 3) := by decide +kernel
theorem d_Mo_pack_275 : decode M_Mo_pack.2.1 275 = .ok (.aload_n 0, 1) := by decide +kernel
theorem d_Mo_pack_276 : decode M_Mo_pack.2.1 276 = .ok (.dup, 1) := by decide +kernel
theorem d_Mo_pack_277 : decode M_Mo_pack.2.1 277 = .ok (.getfield 148, 3) := by decide +kernel
theorem d_Mo_pack_280 : decode M_Mo_pack.2.1 280 = .ok (.bipush 20, 2) := by decide +kernel
theorem d_Mo_pack_282 : decode M_Mo_pack.2.1 282 = .ok (.iadd, 1) := by decide +kernel
theorem d_Mo_pack_283 : decode M_Mo_pack.2.1 283 = .ok (.putfield 148, 3) := by decide +kernel
theorem d_Mo_pack_286 : decode M_Mo_pack.2.1 286 = .ok (.aload_n 0, 1) := by decide +kernel
theorem d_Mo_pack_287 : decode M_Mo_pack.2.1 287 = .ok (.invokevirtual 171, 3) := by decide +kernel
theorem d_Mo_pack_290 : decode M_Mo_pack.2.1 290 = .ok (.aload_n 0, 1) := by decide +kernel
theorem d_Mo_pack_291 : decode M_Mo_pack.2.1 291 = .ok (.getfield 148, 3) := by decide +kernel
theorem d_Mo_pack_294 : decode M_Mo_pack.2.1 294 = .ok (.ireturn, 1) := by decide +kernel
def f_Mo_pack (x0 : Nat) (c : cM) (K : Int32 → cM → Prop) : Prop :=
  kd x0 = 7 ∧ (∀ c2 : cM, c2 = c_up c x0 17 0 → (f_Mo_write x0 80 c2 (fun c3 => f_Mo_write x0 65 c3 (fun c4 => f_Mo_write x0 67 c4 (fun c5 => f_Mo_write x0 75 c5 (fun c6 => ∃ I7 : Nat → Int32 → cM → Prop, (∃ n, I7 n 0 c6) ∧ ∀ (n8 : Nat) (y11 : Int32) (c12 : cM), I7 n8 y11 c12 → (((3 ≤ y11) → (f_Mo_write x0 2 c12 (fun c14 => ∃ I15 : Nat → Int32 → cM → Prop, (∃ n, I15 n 0 c14) ∧ ∀ (n16 : Nat) (y19 : Int32) (c20 : cM), I15 n16 y19 c20 → (((3 ≤ y19) → (f_Mo_write x0 (c20 x0 0) c20 (fun c22 => ∃ I23 : Nat → Int32 → Int32 → Int32 → Int32 → cM → Prop, (∃ n, I23 n (-1) 0 0 1 c22) ∧ ∀ (n24 : Nat) (y27 : Int32) (y28 : Int32) (y29 : Int32) (y30 : Int32) (c31 : cM), I23 n24 y27 y28 y29 y30 c31 → (((3 < y30) → (∀ c33 : cM, c33 = c_up c31 x0 17 ((c31 x0 17) + 20) → (f_Mo_sealPack x0 c33 (fun c34 => K (c34 x0 17) c34)))) ∧ (¬ (3 < y30) → (∃ I35 : Nat → Int32 → Int32 → Int32 → Int32 → cM → Prop, (∃ n, I35 n y27 y28 y29 0 c31) ∧ ∀ (n36 : Nat) (y39 : Int32) (y40 : Int32) (y41 : Int32) (y42 : Int32) (c43 : cM), I35 n36 y39 y40 y41 y42 c43 → ((((c43 x0 0) ≤ y42) → (∃ m, m < n24 ∧ I23 m y39 y40 y41 (y30 + 1) c43)) ∧ (¬ ((c43 x0 0) ≤ y42) → (kd (rf x0 1) = 100 ∧ (vp_in y42 (ln (rf x0 1)) ∧ (∃ J122 : Int32 → Int32 → Int32 → cM → Prop, (∀ (y118 : Int32) (y119 : Int32) (y120 : Int32) (c121 : cM), J122 y118 y119 y120 c121 → (∃ m, m < n36 ∧ I35 m y118 y119 y120 (y42 + 1) c121)) ∧ (((¬ (c43 (rf x0 1) (Int32.toNatClampNeg y42)) = y30) → (J122 y39 y40 y41 c43)) ∧ ((c43 (rf x0 1) (Int32.toNatClampNeg y42)) = y30 → (∃ J138 : Int32 → cM → Prop, (∀ (s136 : Int32) (c137 : cM), J138 s136 c137 → (kd (rf x0 2) = 100 ∧ (vp_in y42 (ln (rf x0 2)) ∧ (∃ J157 : Int32 → Int32 → cM → Prop, (∀ (y154 : Int32) (y155 : Int32) (c156 : cM), J157 y154 y155 c156 → (f_Mo_writeWrapped x0 y155 c156 (fun c159 => J122 y42 y154 (c43 x0 17) c159))) ∧ ((((c137 (rf x0 2) (Int32.toNatClampNeg y42)) ≤ s136) → (f_Mo_writeMark x0 y30 (c137 (rf x0 2) (Int32.toNatClampNeg y42)) c137 (fun c160 => ∃ I161 : Nat → Int32 → cM → Prop, (∃ n, I161 n 0 c160) ∧ ∀ (n162 : Nat) (y165 : Int32) (c166 : cM), I161 n162 y165 c166 → ((((c137 (rf x0 2) (Int32.toNatClampNeg y42)) ≤ y165) → (J157 0 (c137 (rf x0 2) (Int32.toNatClampNeg y42)) c166)) ∧ (¬ ((c137 (rf x0 2) (Int32.toNatClampNeg y42)) ≤ y165) → (kd (rf x0 3) = 100 ∧ (vp_in ((120 * y42) + y165) (ln (rf x0 3)) ∧ (kd (rf x0 24) = 100 ∧ (vp_in y165 (ln (rf x0 24)) ∧ (∀ c172 : cM, c172 = c_up c166 (rf x0 24) (Int32.toNatClampNeg y165) (c166 (rf x0 3) (Int32.toNatClampNeg ((120 * y42) + y165))) → (∃ m, m < n162 ∧ I161 m (y165 + 1) c172))))))))))) ∧ (¬ ((c137 (rf x0 2) (Int32.toNatClampNeg y42)) ≤ s136) → (f_Mo_writeMark x0 6 s136 c137 (fun c173 => f_Mo_writeDistance x0 ((c43 x0 17) - y41) c173 (fun c174 => J157 (y40 + 1) s136 c174))))))))) ∧ (∃ J180 : Prop, (J180  → (kd (rf x0 2) = 100 ∧ (vp_in y42 (ln (rf x0 2)) ∧ (J138 (c43 (rf x0 2) (Int32.toNatClampNeg y42)) c43)))) ∧ (((y39 < 0) → (J180)) ∧ (¬ (y39 < 0) → (vp_in y39 (ln (rf x0 1)) ∧ (((¬ (c43 (rf x0 1) (Int32.toNatClampNeg y39)) = y30) → (J180)) ∧ ((c43 (rf x0 1) (Int32.toNatClampNeg y39)) = y30 → (((3 ≤ y40) → (J180)) ∧ (¬ (3 ≤ y40) → (f_Mo_differ x0 y39 y42 c43 (fun v188 c187 => J138 v188 c187)))))))))))))))))))))))) ∧ (¬ (3 ≤ y19) → (f_Mo_write x0 0 c20 (fun c189 => ∃ m, m < n16 ∧ I15 m (y19 + 1) c189))))))) ∧ (¬ (3 ≤ y11) → (f_Mo_write x0 0 c12 (fun c190 => ∃ m, m < n8 ∧ I7 m (y11 + 1) c190))))))))))
theorem c_Mo_pack {x0 : Nat} {c : cM} {K : Int32 → cM → Prop} (h : f_Mo_pack x0 c K) : Ct M_Mo_pack 4 0 0 (wd c) [.ref x0] (PoI K) := by
  refine Ct.of (by decide +kernel) (Nat.le_of_ble_eq_true rfl) (fun Z T => ?_)
  have F := T.F
  unfold f_Mo_pack at h
  show Z (wd c) 0 [(0, .ref x0)] [] 0 0
  refine g_aload_n F (pc := 0) d_Mo_pack_0 0 rfl (g_iconst (v := 0) F (pc := 1) d_Mo_pack_1 (by decide) ?_)
  obtain ⟨o1, h⟩ := h
  refine gc_putI F (pc := 2) d_Mo_pack_2 pi_Mo_148 o1 ?_
  obtain ⟨c2, ec2⟩ : ∃ c2 : cM, c2 = c_up c x0 17 0 := ⟨_, rfl⟩
  rw [← ec2]
  replace h := h c2 ec2
  refine g_aload_n F (pc := 5) d_Mo_pack_5 0 rfl (g_bipush (v := 80) F (pc := 6) d_Mo_pack_6 (by decide) ?_)
  refine gc_callVV (As := [.int 80]) (st := []) F (pc := 8) d_Mo_pack_8 cb_Mo_154 iv_Mo_write np_Mo_write o1 vc_7 (c_Mo_write h) rfl (by decide) (Nat.le_refl _) (Nat.le_refl _) (Nat.le_of_ble_eq_true rfl) (fun c3 h => ?_)
  refine g_aload_n F (pc := 11) d_Mo_pack_11 0 rfl (g_bipush (v := 65) F (pc := 12) d_Mo_pack_12 (by decide) ?_)
  refine gc_callVV (As := [.int 65]) (st := []) F (pc := 14) d_Mo_pack_14 cb_Mo_154 iv_Mo_write np_Mo_write o1 vc_7 (c_Mo_write h) rfl (by decide) (Nat.le_refl _) (Nat.le_refl _) (Nat.le_of_ble_eq_true rfl) (fun c4 h => ?_)
  refine g_aload_n F (pc := 17) d_Mo_pack_17 0 rfl (g_bipush (v := 67) F (pc := 18) d_Mo_pack_18 (by decide) ?_)
  refine gc_callVV (As := [.int 67]) (st := []) F (pc := 20) d_Mo_pack_20 cb_Mo_154 iv_Mo_write np_Mo_write o1 vc_7 (c_Mo_write h) rfl (by decide) (Nat.le_refl _) (Nat.le_refl _) (Nat.le_of_ble_eq_true rfl) (fun c5 h => ?_)
  refine g_aload_n F (pc := 23) d_Mo_pack_23 0 rfl (g_bipush (v := 75) F (pc := 24) d_Mo_pack_24 (by decide) ?_)
  refine gc_callVV (As := [.int 75]) (st := []) F (pc := 26) d_Mo_pack_26 cb_Mo_154 iv_Mo_write np_Mo_write o1 vc_7 (c_Mo_write h) rfl (by decide) (Nat.le_refl _) (Nat.le_refl _) (Nat.le_of_ble_eq_true rfl) (fun c6 h => ?_)
  refine g_iconst (v := 0) F (pc := 29) d_Mo_pack_29 (by decide) (g_istore_n (lv' := [(1, .int 0), (0, .ref x0)]) F (pc := 30) d_Mo_pack_30 (by decide) rfl ?_)
  refine g_lv (lv' := [(0, .ref x0), (1, .int 0)]) F [1, 0] rfl ?_
  obtain ⟨I7, ⟨n0, h⟩, hI7⟩ := h
  have lp10 : ∀ (n8 : Nat) (y11 : Int32) (c12 : cM), I7 n8 y11 c12 → Z (wd c12) 31 [(0, .ref x0), (1, .int y11)] [] 0 0 := by
    intro n8
    induction n8 using Nat.strongRecOn with
    | _ n8 ih9 =>
      intro y11 c12 h
      replace h := hI7 n8 y11 c12 h
      refine g_iload_n F (pc := 31) d_Mo_pack_31 1 rfl (g_iconst (v := 3) F (pc := 32) d_Mo_pack_32 (by decide) ?_)
      refine g_icmp_ge (tgt := 47) F (pc := 33) d_Mo_pack_33 (by decide) (fun b13 => ?_) (fun b13 => ?_)
      · replace h := h.1 b13
        refine g_aload_n F (pc := 47) d_Mo_pack_47 0 rfl (g_iconst (v := 2) F (pc := 48) d_Mo_pack_48 (by decide) ?_)
        refine gc_callVV (As := [.int 2]) (st := []) F (pc := 49) d_Mo_pack_49 cb_Mo_154 iv_Mo_write np_Mo_write o1 vc_7 (c_Mo_write h) rfl (by decide) (Nat.le_refl _) (Nat.le_refl _) (Nat.le_of_ble_eq_true rfl) (fun c14 h => ?_)
        refine g_iconst (v := 0) F (pc := 52) d_Mo_pack_52 (by decide) (g_istore_n (lv' := [(1, .int 0), (0, .ref x0)]) F (pc := 53) d_Mo_pack_53 (by decide) rfl ?_)
        refine g_lv (lv' := [(0, .ref x0), (1, .int 0)]) F [1, 0] rfl ?_
        obtain ⟨I15, ⟨n0, h⟩, hI15⟩ := h
        have lp18 : ∀ (n16 : Nat) (y19 : Int32) (c20 : cM), I15 n16 y19 c20 → Z (wd c20) 54 [(0, .ref x0), (1, .int y19)] [] 0 0 := by
          intro n16
          induction n16 using Nat.strongRecOn with
          | _ n16 ih17 =>
            intro y19 c20 h
            replace h := hI15 n16 y19 c20 h
            refine g_iload_n F (pc := 54) d_Mo_pack_54 1 rfl (g_iconst (v := 3) F (pc := 55) d_Mo_pack_55 (by decide) ?_)
            refine g_icmp_ge (tgt := 70) F (pc := 56) d_Mo_pack_56 (by decide) (fun b21 => ?_) (fun b21 => ?_)
            · replace h := h.1 b21
              refine g_aload_n F (pc := 70) d_Mo_pack_70 0 rfl (g_aload_n F (pc := 71) d_Mo_pack_71 0 rfl (gc_getI F (pc := 72) d_Mo_pack_72 fi_Mo_93 o1 ?_))
              refine gc_callVV (As := [.int (c20 x0 0)]) (st := []) F (pc := 75) d_Mo_pack_75 cb_Mo_154 iv_Mo_write np_Mo_write o1 vc_7 (c_Mo_write h) rfl (by decide) (Nat.le_refl _) (Nat.le_refl _) (Nat.le_of_ble_eq_true rfl) (fun c22 h => ?_)
              refine g_iconst (v := (-1)) F (pc := 78) d_Mo_pack_78 (by decide) (g_istore_n (lv' := [(1, .int (-1)), (0, .ref x0)]) F (pc := 79) d_Mo_pack_79 (by decide) rfl (g_iconst (v := 0) F (pc := 80) d_Mo_pack_80 (by decide) (g_istore_n (lv' := [(2, .int 0), (1, .int (-1)), (0, .ref x0)]) F (pc := 81) d_Mo_pack_81 (by decide) rfl (g_iconst (v := 0) F (pc := 82) d_Mo_pack_82 (by decide) (g_istore_n (lv' := [(3, .int 0), (2, .int 0), (1, .int (-1)), (0, .ref x0)]) F (pc := 83) d_Mo_pack_83 (by decide) rfl ?_)))))
              refine g_iconst (v := 1) F (pc := 84) d_Mo_pack_84 (by decide) (g_istore (lv' := [(4, .int 1), (3, .int 0), (2, .int 0), (1, .int (-1)), (0, .ref x0)]) F (pc := 85) d_Mo_pack_85 (by decide) rfl ?_)
              refine g_lv (lv' := [(0, .ref x0), (1, .int (-1)), (2, .int 0), (3, .int 0), (4, .int 1)]) F [4, 3, 2, 1, 0] rfl ?_
              obtain ⟨I23, ⟨n0, h⟩, hI23⟩ := h
              have lp26 : ∀ (n24 : Nat) (y27 : Int32) (y28 : Int32) (y29 : Int32) (y30 : Int32) (c31 : cM), I23 n24 y27 y28 y29 y30 c31 → Z (wd c31) 87 [(0, .ref x0), (1, .int y27), (2, .int y28), (3, .int y29), (4, .int y30)] [] 0 0 := by
                intro n24
                induction n24 using Nat.strongRecOn with
                | _ n24 ih25 =>
                  intro y27 y28 y29 y30 c31 h
                  replace h := hI23 n24 y27 y28 y29 y30 c31 h
                  refine g_iload F (pc := 87) d_Mo_pack_87 4 rfl (g_iconst (v := 3) F (pc := 89) d_Mo_pack_89 (by decide) ?_)
                  refine g_icmp_gt (tgt := 275) F (pc := 90) d_Mo_pack_90 (by decide) (fun b32 => ?_) (fun b32 => ?_)
                  · replace h := h.1 b32
                    refine g_aload_n F (pc := 275) d_Mo_pack_275 0 rfl (g_dup F (pc := 276) d_Mo_pack_276 rfl (gc_getI F (pc := 277) d_Mo_pack_277 fi_Mo_148 o1 (g_bipush (v := 20) F (pc := 280) d_Mo_pack_280 (by decide) (g_iadd F (pc := 282) d_Mo_pack_282 (gc_putI F (pc := 283) d_Mo_pack_283 pi_Mo_148 o1 ?_)))))
                    obtain ⟨c33, ec33⟩ : ∃ c33 : cM, c33 = c_up c31 x0 17 ((c31 x0 17) + 20) := ⟨_, rfl⟩
                    rw [← ec33]
                    replace h := h c33 ec33
                    refine g_aload_n F (pc := 286) d_Mo_pack_286 0 rfl ?_
                    refine gc_callVV (As := []) (st := []) F (pc := 287) d_Mo_pack_287 cb_Mo_171 iv_Mo_sealPack np_Mo_sealPack o1 vc_7 (c_Mo_sealPack h) rfl (by decide) (Nat.le_refl _) (Nat.le_refl _) (Nat.le_of_ble_eq_true rfl) (fun c34 h => ?_)
                    refine g_aload_n F (pc := 290) d_Mo_pack_290 0 rfl (gc_getI F (pc := 291) d_Mo_pack_291 fi_Mo_148 o1 ?_)
                    exact g_iret T (pc := 294) d_Mo_pack_294 rfl (Nat.le_refl _) (Nat.le_refl _) (poI h)
                  · replace h := h.2 b32
                    refine g_iconst (v := 0) F (pc := 93) d_Mo_pack_93 (by decide) (g_istore (lv' := [(5, .int 0), (0, .ref x0), (1, .int y27), (2, .int y28), (3, .int y29), (4, .int y30)]) F (pc := 94) d_Mo_pack_94 (by decide) rfl ?_)
                    refine g_lv (lv' := [(0, .ref x0), (1, .int y27), (2, .int y28), (3, .int y29), (4, .int y30), (5, .int 0)]) F [1, 2, 3, 4, 5, 0] rfl ?_
                    obtain ⟨I35, ⟨n0, h⟩, hI35⟩ := h
                    have lp38 : ∀ (n36 : Nat) (y39 : Int32) (y40 : Int32) (y41 : Int32) (y42 : Int32) (c43 : cM), I35 n36 y39 y40 y41 y42 c43 → Z (wd c43) 96 [(0, .ref x0), (1, .int y39), (2, .int y40), (3, .int y41), (4, .int y30), (5, .int y42)] [] 0 0 := by
                      intro n36
                      induction n36 using Nat.strongRecOn with
                      | _ n36 ih37 =>
                        intro y39 y40 y41 y42 c43 h
                        replace h := hI35 n36 y39 y40 y41 y42 c43 h
                        refine g_iload F (pc := 96) d_Mo_pack_96 5 rfl (g_aload_n F (pc := 98) d_Mo_pack_98 0 rfl (gc_getI F (pc := 99) d_Mo_pack_99 fi_Mo_93 o1 ?_))
                        refine g_icmp_ge (tgt := 269) F (pc := 102) d_Mo_pack_102 (by decide) (fun b44 => ?_) (fun b44 => ?_)
                        · replace h := h.1 b44
                          refine g_iinc (v := (y30 + 1)) (lv' := [(4, .int (y30 + 1)), (0, .ref x0), (1, .int y39), (2, .int y40), (3, .int y41), (5, .int y42)]) F (pc := 269) d_Mo_pack_269 4 rfl (sk_inc (by decide)) (by decide) rfl (g_goto (tgt := 87) F (pc := 272) d_Mo_pack_272 (by decide) ?_)
                          refine g_lv (lv' := [(0, .ref x0), (1, .int y39), (2, .int y40), (3, .int y41), (4, .int (y30 + 1))]) F [1, 2, 3, 4, 0] rfl ?_
                          obtain ⟨m, hm, h⟩ := h
                          exact ih25 m hm _ _ _ _ _ h
                        · replace h := h.2 b44
                          refine g_aload_n F (pc := 105) d_Mo_pack_105 0 rfl (gc_getR F (pc := 106) d_Mo_pack_106 fi_Mo_7 o1 (g_iload F (pc := 109) d_Mo_pack_109 5 rfl ?_))
                          obtain ⟨o45, h⟩ := h
                          obtain ⟨o46, h⟩ := h
                          refine gc_iald F (pc := 111) d_Mo_pack_111 o45 o46 (g_iload F (pc := 112) d_Mo_pack_112 4 rfl ?_)
                          obtain ⟨J122, hJ122, h⟩ := h
                          have jn123 : ∀ (y118 : Int32) (y119 : Int32) (y120 : Int32) (c121 : cM), J122 y118 y119 y120 c121 → Z (wd c121) 263 [(0, .ref x0), (1, .int y118), (2, .int y119), (3, .int y120), (4, .int y30), (5, .int y42)] [] 0 0 := by
                            intro y118 y119 y120 c121 h
                            replace h := hJ122 y118 y119 y120 c121 h
                            refine g_iinc (v := (y42 + 1)) (lv' := [(5, .int (y42 + 1)), (0, .ref x0), (1, .int y118), (2, .int y119), (3, .int y120), (4, .int y30)]) F (pc := 263) d_Mo_pack_263 5 rfl (sk_inc (by decide)) (by decide) rfl (g_goto (tgt := 96) F (pc := 266) d_Mo_pack_266 (by decide) ?_)
                            refine g_lv (lv' := [(0, .ref x0), (1, .int y118), (2, .int y119), (3, .int y120), (4, .int y30), (5, .int (y42 + 1))]) F [1, 2, 3, 4, 5, 0] rfl ?_
                            obtain ⟨m, hm, h⟩ := h
                            exact ih37 m hm _ _ _ _ _ h
                          refine g_icmp_ne (tgt := 263) F (pc := 114) d_Mo_pack_114 (by decide) (fun b47 => ?_) (fun b47 => ?_)
                          · replace h := h.1 b47
                            exact jn123 _ _ _ _ h
                          · replace h := h.2 b47
                            refine g_aload_n F (pc := 117) d_Mo_pack_117 0 rfl (gc_getI F (pc := 118) d_Mo_pack_118 fi_Mo_148 o1 (g_istore (lv' := [(6, .int (c43 x0 17)), (0, .ref x0), (1, .int y39), (2, .int y40), (3, .int y41), (4, .int y30), (5, .int y42)]) F (pc := 121) d_Mo_pack_121 (by decide) rfl (g_iload_n F (pc := 123) d_Mo_pack_123 2 rfl ?_)))
                            obtain ⟨J138, hJ138, h⟩ := h
                            have jn139 : ∀ (s136 : Int32) (c137 : cM), J138 s136 c137 → Z (wd c137) 160 [(0, .ref x0), (2, .int y40), (3, .int y41), (4, .int y30), (5, .int y42), (6, .int (c43 x0 17))] [.int s136] 0 0 := by
                              intro s136 c137 h
                              replace h := hJ138 s136 c137 h
                              refine g_istore (lv' := [(7, .int s136), (0, .ref x0), (2, .int y40), (3, .int y41), (4, .int y30), (5, .int y42), (6, .int (c43 x0 17))]) F (pc := 160) d_Mo_pack_160 (by decide) rfl (g_iload F (pc := 162) d_Mo_pack_162 0 rfl (g_aload_n F (pc := 164) d_Mo_pack_164 1 rfl (gc_getR F (pc := 165) d_Mo_pack_165 fi_Mo_13 o1 (g_iload F (pc := 168) d_Mo_pack_168 5 rfl ?_))))
                              obtain ⟨o140, h⟩ := h
                              obtain ⟨o141, h⟩ := h
                              refine gc_iald F (pc := 170) d_Mo_pack_170 o140 o141 ?_
                              obtain ⟨J157, hJ157, h⟩ := h
                              have jn158 : ∀ (y154 : Int32) (y155 : Int32) (c156 : cM), J157 y154 y155 c156 → Z (wd c156) 251 [(0, .ref x0), (2, .int y154), (4, .int y30), (5, .int y42), (6, .int (c43 x0 17)), (7, .int y155)] [] 0 0 := by
                                intro y154 y155 c156 h
                                replace h := hJ157 y154 y155 c156 h
                                refine g_aload_n F (pc := 251) d_Mo_pack_251 0 rfl (g_iload F (pc := 252) d_Mo_pack_252 5 rfl ?_)
                                refine gc_callVV (As := [.int y155]) (st := []) F (pc := 254) d_Mo_pack_254 cb_Mo_168 iv_Mo_writeWrapped np_Mo_writeWrapped o1 vc_7 (c_Mo_writeWrapped h) rfl (by decide) (Nat.le_refl _) (Nat.le_refl _) (Nat.le_of_ble_eq_true rfl) (fun c159 h => ?_)
                                refine g_iload F (pc := 257) d_Mo_pack_257 3 rfl (g_istore_n (lv' := [(1, .int y42), (0, .ref x0), (2, .int y154), (4, .int y30), (5, .int y42), (6, .int (c43 x0 17)), (7, .int y155)]) F (pc := 259) d_Mo_pack_259 (by decide) rfl (g_iload F (pc := 260) d_Mo_pack_260 5 rfl (g_istore_n (lv' := [(3, .int (c43 x0 17)), (1, .int y42), (0, .ref x0), (2, .int y154), (4, .int y30), (5, .int y42), (6, .int (c43 x0 17)), (7, .int y155)]) F (pc := 262) d_Mo_pack_262 (by decide) rfl ?_)))
                                refine g_lv (lv' := [(0, .ref x0), (1, .int y42), (2, .int y154), (3, .int (c43 x0 17)), (4, .int y30), (5, .int y42)]) F [2, 1, 3, 0, 4, 5] rfl ?_
                                exact jn123 _ _ _ _ h
                              refine g_icmp_ge (tgt := 196) F (pc := 171) d_Mo_pack_171 (by decide) (fun b142 => ?_) (fun b142 => ?_)
                              · replace h := h.1 b142
                                refine g_iconst (v := 0) F (pc := 196) d_Mo_pack_196 (by decide) (g_istore_n (lv' := [(2, .int 0), (7, .int s136), (0, .ref x0), (3, .int y41), (4, .int y30), (5, .int y42), (6, .int (c43 x0 17))]) F (pc := 197) d_Mo_pack_197 (by decide) rfl (g_aload_n F (pc := 198) d_Mo_pack_198 2 rfl (gc_getR F (pc := 199) d_Mo_pack_199 fi_Mo_13 o1 (g_iload F (pc := 202) d_Mo_pack_202 5 rfl (gc_iald F (pc := 204) d_Mo_pack_204 o140 o141 ?_)))))
                                refine g_istore (lv' := [(7, .int (c137 (rf x0 2) (Int32.toNatClampNeg y42))), (2, .int 0), (0, .ref x0), (3, .int y41), (4, .int y30), (5, .int y42), (6, .int (c43 x0 17))]) F (pc := 205) d_Mo_pack_205 (by decide) rfl (g_aload_n F (pc := 207) d_Mo_pack_207 2 rfl (g_iload F (pc := 208) d_Mo_pack_208 4 rfl (g_iload F (pc := 210) d_Mo_pack_210 0 rfl ?_)))
                                refine gc_callVV (As := [.int y30, .int (c137 (rf x0 2) (Int32.toNatClampNeg y42))]) (st := []) F (pc := 212) d_Mo_pack_212 cb_Mo_162 iv_Mo_writeMark np_Mo_writeMark o1 vc_7 (c_Mo_writeMark h) rfl (by decide) (Nat.le_refl _) (Nat.le_refl _) (Nat.le_of_ble_eq_true rfl) (fun c160 h => ?_)
                                refine g_iconst (v := 0) F (pc := 215) d_Mo_pack_215 (by decide) (g_istore (lv' := [(8, .int 0), (7, .int (c137 (rf x0 2) (Int32.toNatClampNeg y42))), (2, .int 0), (0, .ref x0), (3, .int y41), (4, .int y30), (5, .int y42), (6, .int (c43 x0 17))]) F (pc := 216) d_Mo_pack_216 (by decide) rfl ?_)
                                refine g_lv (lv' := [(0, .ref x0), (2, .int 0), (4, .int y30), (5, .int y42), (6, .int (c43 x0 17)), (7, .int (c137 (rf x0 2) (Int32.toNatClampNeg y42))), (8, .int 0)]) F [3, 2, 5, 6, 7, 1, 0] rfl ?_
                                obtain ⟨I161, ⟨n0, h⟩, hI161⟩ := h
                                have lp164 : ∀ (n162 : Nat) (y165 : Int32) (c166 : cM), I161 n162 y165 c166 → Z (wd c166) 218 [(0, .ref x0), (2, .int 0), (4, .int y30), (5, .int y42), (6, .int (c43 x0 17)), (7, .int (c137 (rf x0 2) (Int32.toNatClampNeg y42))), (8, .int y165)] [] 0 0 := by
                                  intro n162
                                  induction n162 using Nat.strongRecOn with
                                  | _ n162 ih163 =>
                                    intro y165 c166 h
                                    replace h := hI161 n162 y165 c166 h
                                    refine g_iload F (pc := 218) d_Mo_pack_218 6 rfl (g_iload F (pc := 220) d_Mo_pack_220 5 rfl ?_)
                                    refine g_icmp_ge (tgt := 251) F (pc := 222) d_Mo_pack_222 (by decide) (fun b167 => ?_) (fun b167 => ?_)
                                    · replace h := h.1 b167
                                      refine g_lv (lv' := [(0, .ref x0), (2, .int 0), (4, .int y30), (5, .int y42), (6, .int (c43 x0 17)), (7, .int (c137 (rf x0 2) (Int32.toNatClampNeg y42)))]) F [0, 1, 2, 3, 4, 5] rfl ?_
                                      exact jn158 _ _ _ h
                                    · replace h := h.2 b167
                                      refine g_aload_n F (pc := 225) d_Mo_pack_225 0 rfl (gc_getR F (pc := 226) d_Mo_pack_226 fi_Mo_56 o1 (g_iload F (pc := 229) d_Mo_pack_229 6 rfl (g_aload_n F (pc := 231) d_Mo_pack_231 0 rfl (gc_getR F (pc := 232) d_Mo_pack_232 fi_Mo_16 o1 (g_bipush (v := 120) F (pc := 235) d_Mo_pack_235 (by decide) ?_)))))
                                      refine g_iload F (pc := 237) d_Mo_pack_237 3 rfl (g_imul F (pc := 239) d_Mo_pack_239 (g_iload F (pc := 240) d_Mo_pack_240 6 rfl (g_iadd F (pc := 242) d_Mo_pack_242 ?_)))
                                      obtain ⟨o168, h⟩ := h
                                      obtain ⟨o169, h⟩ := h
                                      refine gc_iald F (pc := 243) d_Mo_pack_243 o168 o169 ?_
                                      obtain ⟨o170, h⟩ := h
                                      obtain ⟨o171, h⟩ := h
                                      refine gc_iast F (pc := 244) d_Mo_pack_244 o170 o171 ?_
                                      obtain ⟨c172, ec172⟩ : ∃ c172 : cM, c172 = c_up c166 (rf x0 24) (Int32.toNatClampNeg y165) (c166 (rf x0 3) (Int32.toNatClampNeg ((120 * y42) + y165))) := ⟨_, rfl⟩
                                      rw [← ec172]
                                      replace h := h c172 ec172
                                      refine g_iinc (v := (y165 + 1)) (lv' := [(8, .int (y165 + 1)), (0, .ref x0), (2, .int 0), (4, .int y30), (5, .int y42), (6, .int (c43 x0 17)), (7, .int (c137 (rf x0 2) (Int32.toNatClampNeg y42)))]) F (pc := 245) d_Mo_pack_245 6 rfl (sk_inc (by decide)) (by decide) rfl (g_goto (tgt := 218) F (pc := 248) d_Mo_pack_248 (by decide) ?_)
                                      refine g_lv (lv' := [(0, .ref x0), (2, .int 0), (4, .int y30), (5, .int y42), (6, .int (c43 x0 17)), (7, .int (c137 (rf x0 2) (Int32.toNatClampNeg y42))), (8, .int (y165 + 1))]) F [1, 2, 3, 4, 5, 6, 0] rfl ?_
                                      obtain ⟨m, hm, h⟩ := h
                                      exact ih163 m hm _ _ h
                                exact lp164 n0 _ _ h
                              · replace h := h.2 b142
                                refine g_iinc (v := (y40 + 1)) (lv' := [(2, .int (y40 + 1)), (7, .int s136), (0, .ref x0), (3, .int y41), (4, .int y30), (5, .int y42), (6, .int (c43 x0 17))]) F (pc := 174) d_Mo_pack_174 2 rfl (sk_inc (by decide)) (by decide) rfl (g_aload_n F (pc := 177) d_Mo_pack_177 2 rfl (g_bipush (v := 6) F (pc := 178) d_Mo_pack_178 (by decide) (g_iload F (pc := 180) d_Mo_pack_180 1 rfl ?_)))
                                refine gc_callVV (As := [.int 6, .int s136]) (st := []) F (pc := 182) d_Mo_pack_182 cb_Mo_162 iv_Mo_writeMark np_Mo_writeMark o1 vc_7 (c_Mo_writeMark h) rfl (by decide) (Nat.le_refl _) (Nat.le_refl _) (Nat.le_of_ble_eq_true rfl) (fun c173 h => ?_)
                                refine g_aload_n F (pc := 185) d_Mo_pack_185 2 rfl (g_iload F (pc := 186) d_Mo_pack_186 6 rfl (g_iload_n F (pc := 188) d_Mo_pack_188 3 rfl (g_isub F (pc := 189) d_Mo_pack_189 ?_)))
                                refine gc_callVV (As := [.int ((c43 x0 17) - y41)]) (st := []) F (pc := 190) d_Mo_pack_190 cb_Mo_165 iv_Mo_writeDistance np_Mo_writeDistance o1 vc_7 (c_Mo_writeDistance h) rfl (by decide) (Nat.le_refl _) (Nat.le_refl _) (Nat.le_of_ble_eq_true rfl) (fun c174 h => ?_)
                                refine g_goto (tgt := 251) F (pc := 193) d_Mo_pack_193 (by decide) ?_
                                refine g_lv (lv' := [(0, .ref x0), (2, .int (y40 + 1)), (4, .int y30), (5, .int y42), (6, .int (c43 x0 17)), (7, .int s136)]) F [2, 0, 4, 5, 6, 1] rfl ?_
                                exact jn158 _ _ _ h
                            obtain ⟨J180, hJ180, h⟩ := h
                            have jn181 : J180  → Z (wd c43) 153 [(0, .ref x0), (2, .int y40), (3, .int y41), (4, .int y30), (5, .int y42), (6, .int (c43 x0 17))] [] 0 0 := by
                              intro  h
                              replace h := hJ180  h
                              refine g_aload_n F (pc := 153) d_Mo_pack_153 0 rfl (gc_getR F (pc := 154) d_Mo_pack_154 fi_Mo_13 o1 (g_iload F (pc := 157) d_Mo_pack_157 4 rfl ?_))
                              obtain ⟨o182, h⟩ := h
                              obtain ⟨o183, h⟩ := h
                              refine gc_iald F (pc := 159) d_Mo_pack_159 o182 o183 ?_
                              exact jn139 _ _ h
                            refine g_if_lt (tgt := 153) F (pc := 124) d_Mo_pack_124 (by decide) (fun b124 => ?_) (fun b124 => ?_)
                            · replace h := h.1 b124
                              refine g_lv (lv' := [(0, .ref x0), (2, .int y40), (3, .int y41), (4, .int y30), (5, .int y42), (6, .int (c43 x0 17))]) F [1, 3, 4, 5, 6, 0] rfl ?_
                              exact jn181  h
                            · replace h := h.2 b124
                              refine g_aload_n F (pc := 127) d_Mo_pack_127 1 rfl (gc_getR F (pc := 128) d_Mo_pack_128 fi_Mo_7 o1 (g_iload_n F (pc := 131) d_Mo_pack_131 2 rfl ?_))
                              obtain ⟨o184, h⟩ := h
                              refine gc_iald F (pc := 132) d_Mo_pack_132 o45 o184 (g_iload F (pc := 133) d_Mo_pack_133 5 rfl ?_)
                              refine g_icmp_ne (tgt := 153) F (pc := 135) d_Mo_pack_135 (by decide) (fun b185 => ?_) (fun b185 => ?_)
                              · replace h := h.1 b185
                                refine g_lv (lv' := [(0, .ref x0), (2, .int y40), (3, .int y41), (4, .int y30), (5, .int y42), (6, .int (c43 x0 17))]) F [1, 3, 4, 5, 6, 0] rfl ?_
                                exact jn181  h
                              · replace h := h.2 b185
                                refine g_iload_n F (pc := 138) d_Mo_pack_138 3 rfl (g_iconst (v := 3) F (pc := 139) d_Mo_pack_139 (by decide) ?_)
                                refine g_icmp_ge (tgt := 153) F (pc := 140) d_Mo_pack_140 (by decide) (fun b186 => ?_) (fun b186 => ?_)
                                · replace h := h.1 b186
                                  refine g_lv (lv' := [(0, .ref x0), (2, .int y40), (3, .int y41), (4, .int y30), (5, .int y42), (6, .int (c43 x0 17))]) F [1, 3, 4, 5, 6, 0] rfl ?_
                                  exact jn181  h
                                · replace h := h.2 b186
                                  refine g_aload_n F (pc := 143) d_Mo_pack_143 1 rfl (g_iload_n F (pc := 144) d_Mo_pack_144 2 rfl (g_iload F (pc := 145) d_Mo_pack_145 6 rfl ?_))
                                  refine gc_callVI (As := [.int y39, .int y42]) (st := []) F (pc := 147) d_Mo_pack_147 cb_Mo_159 iv_Mo_differ np_Mo_differ o1 vc_7 (c_Mo_differ h) rfl (by decide) (Nat.le_refl _) (Nat.le_refl _) (Nat.le_of_ble_eq_true rfl) (fun v188 c187 h => ?_)
                                  refine g_goto (tgt := 160) F (pc := 150) d_Mo_pack_150 (by decide) ?_
                                  refine g_lv (lv' := [(0, .ref x0), (2, .int y40), (3, .int y41), (4, .int y30), (5, .int y42), (6, .int (c43 x0 17))]) F [1, 3, 4, 5, 6, 0] rfl ?_
                                  exact jn139 _ _ h
                    exact lp38 n0 _ _ _ _ _ h
              exact lp26 n0 _ _ _ _ _ h
            · replace h := h.2 b21
              refine g_aload_n F (pc := 59) d_Mo_pack_59 0 rfl (g_iconst (v := 0) F (pc := 60) d_Mo_pack_60 (by decide) ?_)
              refine gc_callVV (As := [.int 0]) (st := []) F (pc := 61) d_Mo_pack_61 cb_Mo_154 iv_Mo_write np_Mo_write o1 vc_7 (c_Mo_write h) rfl (by decide) (Nat.le_refl _) (Nat.le_refl _) (Nat.le_of_ble_eq_true rfl) (fun c189 h => ?_)
              refine g_iinc (v := (y19 + 1)) (lv' := [(1, .int (y19 + 1)), (0, .ref x0)]) F (pc := 64) d_Mo_pack_64 1 rfl (sk_inc (by decide)) (by decide) rfl (g_goto (tgt := 54) F (pc := 67) d_Mo_pack_67 (by decide) ?_)
              refine g_lv (lv' := [(0, .ref x0), (1, .int (y19 + 1))]) F [1, 0] rfl ?_
              obtain ⟨m, hm, h⟩ := h
              exact ih17 m hm _ _ h
        exact lp18 n0 _ _ h
      · replace h := h.2 b13
        refine g_aload_n F (pc := 36) d_Mo_pack_36 0 rfl (g_iconst (v := 0) F (pc := 37) d_Mo_pack_37 (by decide) ?_)
        refine gc_callVV (As := [.int 0]) (st := []) F (pc := 38) d_Mo_pack_38 cb_Mo_154 iv_Mo_write np_Mo_write o1 vc_7 (c_Mo_write h) rfl (by decide) (Nat.le_refl _) (Nat.le_refl _) (Nat.le_of_ble_eq_true rfl) (fun c190 h => ?_)
        refine g_iinc (v := (y11 + 1)) (lv' := [(1, .int (y11 + 1)), (0, .ref x0)]) F (pc := 41) d_Mo_pack_41 1 rfl (sk_inc (by decide)) (by decide) rfl (g_goto (tgt := 31) F (pc := 44) d_Mo_pack_44 (by decide) ?_)
        refine g_lv (lv' := [(0, .ref x0), (1, .int (y11 + 1))]) F [1, 0] rfl ?_
        obtain ⟨m, hm, h⟩ := h
        exact ih9 m hm _ _ h
  exact lp10 n0 _ _ h
theorem d_Mo_packed_0 : decode M_Mo_packed.2.1 0 = .ok (.aload_n 0, 1) := by decide +kernel
theorem d_Mo_packed_1 : decode M_Mo_packed.2.1 1 = .ok (.getfield 148, 3) := by decide +kernel
theorem d_Mo_packed_4 : decode M_Mo_packed.2.1 4 = .ok (.ireturn, 1) := by decide +kernel
def f_Mo_packed (x0 : Nat) (c : cM) (K : Int32 → cM → Prop) : Prop :=
  kd x0 = 7 ∧ (K (c x0 17) c)
theorem c_Mo_packed {x0 : Nat} {c : cM} {K : Int32 → cM → Prop} (h : f_Mo_packed x0 c K) : Ct M_Mo_packed 0 0 0 (wd c) [.ref x0] (PoI K) := by
  refine Ct.of (by decide +kernel) (Nat.le_of_ble_eq_true rfl) (fun Z T => ?_)
  have F := T.F
  unfold f_Mo_packed at h
  show Z (wd c) 0 [(0, .ref x0)] [] 0 0
  refine g_aload_n F (pc := 0) d_Mo_packed_0 0 rfl ?_
  obtain ⟨o1, h⟩ := h
  refine gc_getI F (pc := 1) d_Mo_packed_1 fi_Mo_148 o1 ?_
  exact g_iret T (pc := 4) d_Mo_packed_4 rfl (Nat.le_refl _) (Nat.le_refl _) (poI h)
