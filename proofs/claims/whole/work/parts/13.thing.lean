theorem d_Store_has_0 : decode M_Store_has.2.1 0 = .ok (.iload_n 1, 1) := by decide +kernel
theorem d_Store_has_1 : decode M_Store_has.2.1 1 = .ok (.ifCond .lt 15, 3) := by decide +kernel
theorem d_Store_has_4 : decode M_Store_has.2.1 4 = .ok (.iload_n 1, 1) := by decide +kernel
theorem d_Store_has_5 : decode M_Store_has.2.1 5 = .ok (.aload_n 0, 1) := by decide +kernel
theorem d_Store_has_6 : decode M_Store_has.2.1 6 = .ok (.getfield 18, 3) := by decide +kernel
theorem d_Store_has_9 : decode M_Store_has.2.1 9 = .ok (.if_icmp .ge 7, 3) := by decide +kernel
theorem d_Store_has_12 : decode M_Store_has.2.1 12 = .ok (.iconst 1, 1) := by decide +kernel
theorem d_Store_has_13 : decode M_Store_has.2.1 13 = .ok (.goto 4, 3) := by decide +kernel
theorem d_Store_has_16 : decode M_Store_has.2.1 16 = .ok (.iconst 0, 1) := by decide +kernel
theorem d_Store_has_17 : decode M_Store_has.2.1 17 = .ok (.ireturn, 1) := by decide +kernel
def f_Store_has (x0 : Nat) (x1 : Int32) (c : cM) (K : Int32 → cM → Prop) : Prop :=
  ((x1 < 0) → (K 0 c)) ∧ (¬ (x1 < 0) → (kd x0 = 4 ∧ ((((c x0 1) ≤ x1) → (K 0 c)) ∧ (¬ ((c x0 1) ≤ x1) → (K 1 c)))))
theorem c_Store_has {x0 : Nat} {x1 : Int32} {c : cM} {K : Int32 → cM → Prop} (h : f_Store_has x0 x1 c K) : Ct M_Store_has 0 0 0 (wd c) [.ref x0, .int x1] (PoI K) := by
  refine Ct.of (by decide +kernel) (Nat.le_of_ble_eq_true rfl) (fun Z T => ?_)
  have F := T.F
  unfold f_Store_has at h
  show Z (wd c) 0 [(0, .ref x0), (1, .int x1)] [] 0 0
  refine g_iload_n F (pc := 0) d_Store_has_0 1 rfl ?_
  refine g_if_lt (tgt := 16) F (pc := 1) d_Store_has_1 (by decide) (fun b1 => ?_) (fun b1 => ?_)
  · replace h := h.1 b1
    refine g_iconst (v := 0) F (pc := 16) d_Store_has_16 (by decide) ?_
    exact g_zret T (pc := 17) d_Store_has_17 rfl (by decide) (Nat.le_refl _) (Nat.le_refl _) (poI h)
  · replace h := h.2 b1
    refine g_iload_n F (pc := 4) d_Store_has_4 1 rfl (g_aload_n F (pc := 5) d_Store_has_5 0 rfl ?_)
    obtain ⟨o2, h⟩ := h
    refine gc_getI F (pc := 6) d_Store_has_6 fi_Store_18 o2 ?_
    refine g_icmp_ge (tgt := 16) F (pc := 9) d_Store_has_9 (by decide) (fun b3 => ?_) (fun b3 => ?_)
    · replace h := h.1 b3
      refine g_iconst (v := 0) F (pc := 16) d_Store_has_16 (by decide) ?_
      exact g_zret T (pc := 17) d_Store_has_17 rfl (by decide) (Nat.le_refl _) (Nat.le_refl _) (poI h)
    · replace h := h.2 b3
      refine g_iconst (v := 1) F (pc := 12) d_Store_has_12 (by decide) (g_goto (tgt := 17) F (pc := 13) d_Store_has_13 (by decide) ?_)
      exact g_zret T (pc := 17) d_Store_has_17 rfl (by decide) (Nat.le_refl _) (Nat.le_refl _) (poI h)
theorem d_Store_kindOf_0 : decode M_Store_kindOf.2.1 0 = .ok (.aload_n 0, 1) := by decide +kernel
theorem d_Store_kindOf_1 : decode M_Store_kindOf.2.1 1 = .ok (.iload_n 1, 1) := by decide +kernel
theorem d_Store_kindOf_2 : decode M_Store_kindOf.2.1 2 = .ok (.invokevirtual 42, 3) := by decide +kernel
theorem d_Store_kindOf_5 : decode M_Store_kindOf.2.1 5 = .ok (.ifCond .eq 15, 3) := by decide +kernel
theorem d_Store_kindOf_8 : decode M_Store_kindOf.2.1 8 = .ok (.aload_n 0, 1) := by decide +kernel
theorem d_Store_kindOf_9 : decode M_Store_kindOf.2.1 9 = .ok (.getfield 11, 3) := by decide +kernel
theorem d_Store_kindOf_12 : decode M_Store_kindOf.2.1 12 = .ok (.iload_n 1, 1) := by decide +kernel
theorem d_Store_kindOf_13 : decode M_Store_kindOf.2.1 13 = .ok (.aaload, 1) := by decide +kernel
theorem d_Store_kindOf_14 : decode M_Store_kindOf.2.1 14 = .ok (.getfield 46, 3) := by decide +kernel
theorem d_Store_kindOf_17 : decode M_Store_kindOf.2.1 17 = .ok (.goto 4, 3) := by decide +kernel
theorem d_Store_kindOf_20 : decode M_Store_kindOf.2.1 20 = .ok (.iconst (-1), 1) := by decide +kernel
theorem d_Store_kindOf_21 : decode M_Store_kindOf.2.1 21 = .ok (.ireturn, 1) := by decide +kernel
def f_Store_kindOf (x0 : Nat) (x1 : Int32) (c : cM) (K : Int32 → cM → Prop) : Prop :=
  kd x0 = 4 ∧ (f_Store_has x0 x1 c (fun v3 c2 => ((v3 = 0) → (K (-1) c2)) ∧ (¬ (v3 = 0) → (kd (rf x0 0) = 102 ∧ (vp_in x1 (ln (rf x0 0)) ∧ (kd (rf (rf x0 0) (Int32.toNatClampNeg x1)) = 3 ∧ (K (c2 (rf (rf x0 0) (Int32.toNatClampNeg x1)) 0) c2)))))))
theorem c_Store_kindOf {x0 : Nat} {x1 : Int32} {c : cM} {K : Int32 → cM → Prop} (h : f_Store_kindOf x0 x1 c K) : Ct M_Store_kindOf 1 0 0 (wd c) [.ref x0, .int x1] (PoI K) := by
  refine Ct.of (by decide +kernel) (Nat.le_of_ble_eq_true rfl) (fun Z T => ?_)
  have F := T.F
  unfold f_Store_kindOf at h
  show Z (wd c) 0 [(0, .ref x0), (1, .int x1)] [] 0 0
  refine g_aload_n F (pc := 0) d_Store_kindOf_0 0 rfl (g_iload_n F (pc := 1) d_Store_kindOf_1 1 rfl ?_)
  obtain ⟨o1, h⟩ := h
  refine gc_callVI (As := [.int x1]) (st := []) F (pc := 2) d_Store_kindOf_2 cb_Store_42 iv_Store_has np_Store_has o1 vc_4 (c_Store_has h) rfl (by decide) (Nat.le_refl _) (Nat.le_refl _) (Nat.le_of_ble_eq_true rfl) (fun v3 c2 h => ?_)
  refine g_if_eq (tgt := 20) F (pc := 5) d_Store_kindOf_5 (by decide) (fun b4 => ?_) (fun b4 => ?_)
  · replace h := h.1 b4
    refine g_iconst (v := (-1)) F (pc := 20) d_Store_kindOf_20 (by decide) ?_
    exact g_iret T (pc := 21) d_Store_kindOf_21 rfl (Nat.le_refl _) (Nat.le_refl _) (poI h)
  · replace h := h.2 b4
    refine g_aload_n F (pc := 8) d_Store_kindOf_8 0 rfl (gc_getR F (pc := 9) d_Store_kindOf_9 fi_Store_11 o1 (g_iload_n F (pc := 12) d_Store_kindOf_12 1 rfl ?_))
    obtain ⟨o5, h⟩ := h
    obtain ⟨o6, h⟩ := h
    refine gc_aald F (pc := 13) d_Store_kindOf_13 o5 o6 ?_
    obtain ⟨o7, h⟩ := h
    refine gc_getI F (pc := 14) d_Store_kindOf_14 fi_Store_46 o7 (g_goto (tgt := 21) F (pc := 17) d_Store_kindOf_17 (by decide) ?_)
    exact g_iret T (pc := 21) d_Store_kindOf_21 rfl (Nat.le_refl _) (Nat.le_refl _) (poI h)
theorem d_Store_reach_0 : decode M_Store_reach.2.1 0 = .ok (.aload_n 0, 1) := by decide +kernel
theorem d_Store_reach_1 : decode M_Store_reach.2.1 1 = .ok (.iload_n 1, 1) := by decide +kernel
theorem d_Store_reach_2 : decode M_Store_reach.2.1 2 = .ok (.invokevirtual 42, 3) := by decide +kernel
theorem d_Store_reach_5 : decode M_Store_reach.2.1 5 = .ok (.ifCond .eq 48, 3) := by decide +kernel
theorem d_Store_reach_8 : decode M_Store_reach.2.1 8 = .ok (.aload_n 0, 1) := by decide +kernel
theorem d_Store_reach_9 : decode M_Store_reach.2.1 9 = .ok (.getfield 32, 3) := by decide +kernel
theorem d_Store_reach_12 : decode M_Store_reach.2.1 12 = .ok (.iload_n 1, 1) := by decide +kernel
theorem d_Store_reach_13 : decode M_Store_reach.2.1 13 = .ok (.baload, 1) := by decide +kernel
theorem d_Store_reach_14 : decode M_Store_reach.2.1 14 = .ok (.ifCond .ne 39, 3) := by decide +kernel
theorem d_Store_reach_17 : decode M_Store_reach.2.1 17 = .ok (.aload_n 0, 1) := by decide +kernel
theorem d_Store_reach_18 : decode M_Store_reach.2.1 18 = .ok (.getfield 39, 3) := by decide +kernel
theorem d_Store_reach_21 : decode M_Store_reach.2.1 21 = .ok (.bipush 16, 2) := by decide +kernel
theorem d_Store_reach_23 : decode M_Store_reach.2.1 23 = .ok (.if_icmp .ge 30, 3) := by decide +kernel
theorem d_Store_reach_26 : decode M_Store_reach.2.1 26 = .ok (.aload_n 0, 1) := by decide +kernel
theorem d_Store_reach_27 : decode M_Store_reach.2.1 27 = .ok (.getfield 32, 3) := by decide +kernel
theorem d_Store_reach_30 : decode M_Store_reach.2.1 30 = .ok (.iload_n 1, 1) := by decide +kernel
theorem d_Store_reach_31 : decode M_Store_reach.2.1 31 = .ok (.iconst 1, 1) := by decide +kernel
theorem d_Store_reach_32 : decode M_Store_reach.2.1 32 = .ok (.bastore, 1) := by decide +kernel
theorem d_Store_reach_33 : decode M_Store_reach.2.1 33 = .ok (.aload_n 0, 1) := by decide +kernel
theorem d_Store_reach_34 : decode M_Store_reach.2.1 34 = .ok (.getfield 36, 3) := by decide +kernel
theorem d_Store_reach_37 : decode M_Store_reach.2.1 37 = .ok (.aload_n 0, 1) := by decide +kernel
theorem d_Store_reach_38 : decode M_Store_reach.2.1 38 = .ok (.getfield 39, 3) := by decide +kernel
theorem d_Store_reach_41 : decode M_Store_reach.2.1 41 = .ok (.iload_n 1, 1) := by decide +kernel
theorem d_Store_reach_42 : decode M_Store_reach.2.1 42 = .ok (.iastore, 1) := by decide +kernel
theorem d_Store_reach_43 : decode M_Store_reach.2.1 43 = .ok (.aload_n 0, 1) := by decide +kernel
theorem d_Store_reach_44 : decode M_Store_reach.2.1 44 = .ok (.dup, 1) := by decide +kernel
theorem d_Store_reach_45 : decode M_Store_reach.2.1 45 = .ok (.getfield 39, 3) := by decide +kernel
theorem d_Store_reach_48 : decode M_Store_reach.2.1 48 = .ok (.iconst 1, 1) := by decide +kernel
theorem d_Store_reach_49 : decode M_Store_reach.2.1 49 = .ok (.iadd, 1) := by decide +kernel
theorem d_Store_reach_50 : decode M_Store_reach.2.1 50 = .ok (.putfield 39, 3) := by decide +kernel
theorem d_Store_reach_53 : decode M_Store_reach.2.1 53 = .ok (.return_, 1) := by decide +kernel
def f_Store_reach (x0 : Nat) (x1 : Int32) (c : cM) (K : cM → Prop) : Prop :=
  kd x0 = 4 ∧ (f_Store_has x0 x1 c (fun v3 c2 => ((v3 = 0) → (K c2)) ∧ (¬ (v3 = 0) → (kd (rf x0 3) = 101 ∧ (vp_in x1 (ln (rf x0 3)) ∧ (((¬ (c2 (rf x0 3) (Int32.toNatClampNeg x1)) = 0) → (K c2)) ∧ ((c2 (rf x0 3) (Int32.toNatClampNeg x1)) = 0 → (((16 ≤ (c2 x0 5)) → (K c2)) ∧ (¬ (16 ≤ (c2 x0 5)) → (∀ c9 : cM, c9 = c_up c2 (rf x0 3) (Int32.toNatClampNeg x1) 1 → (kd (rf x0 4) = 100 ∧ (vp_in (c9 x0 5) (ln (rf x0 4)) ∧ (∀ c12 : cM, c12 = c_up c9 (rf x0 4) (Int32.toNatClampNeg (c9 x0 5)) x1 → (∀ c13 : cM, c13 = c_up c12 x0 5 ((c12 x0 5) + 1) → (K c13)))))))))))))))
theorem c_Store_reach {x0 : Nat} {x1 : Int32} {c : cM} {K : cM → Prop} (h : f_Store_reach x0 x1 c K) : Ct M_Store_reach 1 0 0 (wd c) [.ref x0, .int x1] (PoV K) := by
  refine Ct.of (by decide +kernel) (Nat.le_of_ble_eq_true rfl) (fun Z T => ?_)
  have F := T.F
  unfold f_Store_reach at h
  show Z (wd c) 0 [(0, .ref x0), (1, .int x1)] [] 0 0
  refine g_aload_n F (pc := 0) d_Store_reach_0 0 rfl (g_iload_n F (pc := 1) d_Store_reach_1 1 rfl ?_)
  obtain ⟨o1, h⟩ := h
  refine gc_callVI (As := [.int x1]) (st := []) F (pc := 2) d_Store_reach_2 cb_Store_42 iv_Store_has np_Store_has o1 vc_4 (c_Store_has h) rfl (by decide) (Nat.le_refl _) (Nat.le_refl _) (Nat.le_of_ble_eq_true rfl) (fun v3 c2 h => ?_)
  refine g_if_eq (tgt := 53) F (pc := 5) d_Store_reach_5 (by decide) (fun b4 => ?_) (fun b4 => ?_)
  · replace h := h.1 b4
    exact g_vret T (pc := 53) d_Store_reach_53 rfl (Nat.le_refl _) (Nat.le_refl _) (poV h)
  · replace h := h.2 b4
    refine g_aload_n F (pc := 8) d_Store_reach_8 0 rfl (gc_getR F (pc := 9) d_Store_reach_9 fi_Store_32 o1 (g_iload_n F (pc := 12) d_Store_reach_12 1 rfl ?_))
    obtain ⟨o5, h⟩ := h
    obtain ⟨o6, h⟩ := h
    refine gc_zald F (pc := 13) d_Store_reach_13 o5 o6 ?_
    refine g_if_ne (tgt := 53) F (pc := 14) d_Store_reach_14 (by decide) (fun b7 => ?_) (fun b7 => ?_)
    · replace h := h.1 b7
      exact g_vret T (pc := 53) d_Store_reach_53 rfl (Nat.le_refl _) (Nat.le_refl _) (poV h)
    · replace h := h.2 b7
      refine g_aload_n F (pc := 17) d_Store_reach_17 0 rfl (gc_getI F (pc := 18) d_Store_reach_18 fi_Store_39 o1 (g_bipush (v := 16) F (pc := 21) d_Store_reach_21 (by decide) ?_))
      refine g_icmp_ge (tgt := 53) F (pc := 23) d_Store_reach_23 (by decide) (fun b8 => ?_) (fun b8 => ?_)
      · replace h := h.1 b8
        exact g_vret T (pc := 53) d_Store_reach_53 rfl (Nat.le_refl _) (Nat.le_refl _) (poV h)
      · replace h := h.2 b8
        refine g_aload_n F (pc := 26) d_Store_reach_26 0 rfl (gc_getR F (pc := 27) d_Store_reach_27 fi_Store_32 o1 (g_iload_n F (pc := 30) d_Store_reach_30 1 rfl (g_iconst (v := 1) F (pc := 31) d_Store_reach_31 (by decide) (gc_zast F (pc := 32) d_Store_reach_32 o5 o6 (Or.inr rfl) ?_))))
        obtain ⟨c9, ec9⟩ : ∃ c9 : cM, c9 = c_up c2 (rf x0 3) (Int32.toNatClampNeg x1) 1 := ⟨_, rfl⟩
        rw [← ec9]
        replace h := h c9 ec9
        refine g_aload_n F (pc := 33) d_Store_reach_33 0 rfl (gc_getR F (pc := 34) d_Store_reach_34 fi_Store_36 o1 (g_aload_n F (pc := 37) d_Store_reach_37 0 rfl (gc_getI F (pc := 38) d_Store_reach_38 fi_Store_39 o1 (g_iload_n F (pc := 41) d_Store_reach_41 1 rfl ?_))))
        obtain ⟨o10, h⟩ := h
        obtain ⟨o11, h⟩ := h
        refine gc_iast F (pc := 42) d_Store_reach_42 o10 o11 ?_
        obtain ⟨c12, ec12⟩ : ∃ c12 : cM, c12 = c_up c9 (rf x0 4) (Int32.toNatClampNeg (c9 x0 5)) x1 := ⟨_, rfl⟩
        rw [← ec12]
        replace h := h c12 ec12
        refine g_aload_n F (pc := 43) d_Store_reach_43 0 rfl (g_dup F (pc := 44) d_Store_reach_44 rfl (gc_getI F (pc := 45) d_Store_reach_45 fi_Store_39 o1 (g_iconst (v := 1) F (pc := 48) d_Store_reach_48 (by decide) (g_iadd F (pc := 49) d_Store_reach_49 (gc_putI F (pc := 50) d_Store_reach_50 pi_Store_39 o1 ?_)))))
        obtain ⟨c13, ec13⟩ : ∃ c13 : cM, c13 = c_up c12 x0 5 ((c12 x0 5) + 1) := ⟨_, rfl⟩
        rw [← ec13]
        replace h := h c13 ec13
        exact g_vret T (pc := 53) d_Store_reach_53 rfl (Nat.le_refl _) (Nat.le_refl _) (poV h)
theorem d_Thing_refersTo_0 : decode M_Thing_refersTo.2.1 0 = .ok (.aload_n 0, 1) := by decide +kernel
theorem d_Thing_refersTo_1 : decode M_Thing_refersTo.2.1 1 = .ok (.getfield 9, 3) := by decide +kernel
theorem d_Thing_refersTo_4 : decode M_Thing_refersTo.2.1 4 = .ok (.iconst 3, 1) := by decide +kernel
theorem d_Thing_refersTo_5 : decode M_Thing_refersTo.2.1 5 = .ok (.if_icmp .eq 21, 3) := by decide +kernel
theorem d_Thing_refersTo_8 : decode M_Thing_refersTo.2.1 8 = .ok (.aload_n 0, 1) := by decide +kernel
theorem d_Thing_refersTo_9 : decode M_Thing_refersTo.2.1 9 = .ok (.getfield 20, 3) := by decide +kernel
theorem d_Thing_refersTo_12 : decode M_Thing_refersTo.2.1 12 = .ok (.aload_n 1, 1) := by decide +kernel
theorem d_Thing_refersTo_13 : decode M_Thing_refersTo.2.1 13 = .ok (.getfield 24, 3) := by decide +kernel
theorem d_Thing_refersTo_16 : decode M_Thing_refersTo.2.1 16 = .ok (.invokevirtual 47, 3) := by decide +kernel
theorem d_Thing_refersTo_19 : decode M_Thing_refersTo.2.1 19 = .ok (.ifCond .eq 7, 3) := by decide +kernel
theorem d_Thing_refersTo_22 : decode M_Thing_refersTo.2.1 22 = .ok (.iconst 1, 1) := by decide +kernel
theorem d_Thing_refersTo_23 : decode M_Thing_refersTo.2.1 23 = .ok (.goto 4, 3) := by decide +kernel
theorem d_Thing_refersTo_26 : decode M_Thing_refersTo.2.1 26 = .ok (.iconst 0, 1) := by decide +kernel
theorem d_Thing_refersTo_27 : decode M_Thing_refersTo.2.1 27 = .ok (.ireturn, 1) := by decide +kernel
def f_Thing_refersTo (x0 : Nat) (x1 : Nat) (c : cM) (K : Int32 → cM → Prop) : Prop :=
  kd x0 = 3 ∧ ((((c x0 0) = 3) → (K 0 c)) ∧ (¬ ((c x0 0) = 3) → (kd x1 = 3 ∧ (kd (rf x0 1) = 1 ∧ (f_Row_hasIntsAnywhere (rf x0 1) (rf x1 2) c (fun v6 c5 => ((v6 = 0) → (K 0 c5)) ∧ (¬ (v6 = 0) → (K 1 c5))))))))
theorem c_Thing_refersTo {x0 : Nat} {x1 : Nat} {c : cM} {K : Int32 → cM → Prop} (h : f_Thing_refersTo x0 x1 c K) : Ct M_Thing_refersTo 3 0 0 (wd c) [.ref x0, .ref x1] (PoI K) := by
  refine Ct.of (by decide +kernel) (Nat.le_of_ble_eq_true rfl) (fun Z T => ?_)
  have F := T.F
  unfold f_Thing_refersTo at h
  show Z (wd c) 0 [(0, .ref x0), (1, .ref x1)] [] 0 0
  refine g_aload_n F (pc := 0) d_Thing_refersTo_0 0 rfl ?_
  obtain ⟨o1, h⟩ := h
  refine gc_getI F (pc := 1) d_Thing_refersTo_1 fi_Thing_9 o1 (g_iconst (v := 3) F (pc := 4) d_Thing_refersTo_4 (by decide) ?_)
  refine g_icmp_eq (tgt := 26) F (pc := 5) d_Thing_refersTo_5 (by decide) (fun b2 => ?_) (fun b2 => ?_)
  · replace h := h.1 b2
    refine g_iconst (v := 0) F (pc := 26) d_Thing_refersTo_26 (by decide) ?_
    exact g_zret T (pc := 27) d_Thing_refersTo_27 rfl (by decide) (Nat.le_refl _) (Nat.le_refl _) (poI h)
  · replace h := h.2 b2
    refine g_aload_n F (pc := 8) d_Thing_refersTo_8 0 rfl (gc_getR F (pc := 9) d_Thing_refersTo_9 fi_Thing_20 o1 (g_aload_n F (pc := 12) d_Thing_refersTo_12 1 rfl ?_))
    obtain ⟨o3, h⟩ := h
    refine gc_getR F (pc := 13) d_Thing_refersTo_13 fi_Thing_24 o3 ?_
    obtain ⟨o4, h⟩ := h
    refine gc_callVI (As := [.ref (rf x1 2)]) (st := []) F (pc := 16) d_Thing_refersTo_16 cb_Thing_47 iv_Row_hasIntsAnywhere np_Row_hasIntsAnywhere o4 vc_1 (c_Row_hasIntsAnywhere h) rfl (by decide) (Nat.le_refl _) (Nat.le_refl _) (Nat.le_of_ble_eq_true rfl) (fun v6 c5 h => ?_)
    refine g_if_eq (tgt := 26) F (pc := 19) d_Thing_refersTo_19 (by decide) (fun b7 => ?_) (fun b7 => ?_)
    · replace h := h.1 b7
      refine g_iconst (v := 0) F (pc := 26) d_Thing_refersTo_26 (by decide) ?_
      exact g_zret T (pc := 27) d_Thing_refersTo_27 rfl (by decide) (Nat.le_refl _) (Nat.le_refl _) (poI h)
    · replace h := h.2 b7
      refine g_iconst (v := 1) F (pc := 22) d_Thing_refersTo_22 (by decide) (g_goto (tgt := 27) F (pc := 23) d_Thing_refersTo_23 (by decide) ?_)
      exact g_zret T (pc := 27) d_Thing_refersTo_27 rfl (by decide) (Nat.le_refl _) (Nat.le_refl _) (poI h)
theorem d_Store_markReached_0 : decode M_Store_markReached.2.1 0 = .ok (.iconst 0, 1) := by decide +kernel
theorem d_Store_markReached_1 : decode M_Store_markReached.2.1 1 = .ok (.istore_n 1, 1) := by decide +kernel
theorem d_Store_markReached_2 : decode M_Store_markReached.2.1 2 = .ok (.iload_n 1, 1) := by decide +kernel
theorem d_Store_markReached_3 : decode M_Store_markReached.2.1 3 = .ok (.bipush 16, 2) := by decide +kernel
theorem d_Store_markReached_5 : decode M_Store_markReached.2.1 5 = .ok (.if_icmp .ge 16, 3) := by decide +kernel
theorem d_Store_markReached_8 : decode M_Store_markReached.2.1 8 = .ok (.aload_n 0, 1) := by decide +kernel
theorem d_Store_markReached_9 : decode M_Store_markReached.2.1 9 = .ok (.getfield 32, 3) := by decide +kernel
theorem d_Store_markReached_12 : decode M_Store_markReached.2.1 12 = .ok (.iload_n 1, 1) := by decide +kernel
theorem d_Store_markReached_13 : decode M_Store_markReached.2.1 13 = .ok (.iconst 0, 1) := by decide +kernel
theorem d_Store_markReached_14 : decode M_Store_markReached.2.1 14 = .ok (.bastore, 1) := by decide +kernel
theorem d_Store_markReached_15 : decode M_Store_markReached.2.1 15 = .ok (.iinc 1 1, 3) := by decide +kernel
theorem d_Store_markReached_18 : decode M_Store_markReached.2.1 18 = .ok (.goto (-16), 3) := by decide +kernel
theorem d_Store_markReached_21 : decode M_Store_markReached.2.1 21 = .ok (.aload_n 0, 1) := by decide +kernel
theorem d_Store_markReached_22 : decode M_Store_markReached.2.1 22 = .ok (.iconst 0, 1) := by decide +kernel
theorem d_Store_markReached_23 : decode M_Store_markReached.2.1 23 = .ok (.putfield 39, 3) := by decide +kernel
theorem d_Store_markReached_26 : decode M_Store_markReached.2.1 26 = .ok (.iconst 0, 1) := by decide +kernel
theorem d_Store_markReached_27 : decode M_Store_markReached.2.1 27 = .ok (.istore_n 1, 1) := by decide +kernel
theorem d_Store_markReached_28 : decode M_Store_markReached.2.1 28 = .ok (.iload_n 1, 1) := by decide +kernel
theorem d_Store_markReached_29 : decode M_Store_markReached.2.1 29 = .ok (.iconst 4, 1) := by decide +kernel
theorem d_Store_markReached_30 : decode M_Store_markReached.2.1 30 = .ok (.if_icmp .ge 19, 3) := by decide +kernel
theorem d_Store_markReached_33 : decode M_Store_markReached.2.1 33 = .ok (.aload_n 0, 1) := by decide +kernel
theorem d_Store_markReached_34 : decode M_Store_markReached.2.1 34 = .ok (.aload_n 0, 1) := by decide +kernel
theorem d_Store_markReached_35 : decode M_Store_markReached.2.1 35 = .ok (.getfield 22, 3) := by decide +kernel
theorem d_Store_markReached_38 : decode M_Store_markReached.2.1 38 = .ok (.iload_n 1, 1) := by decide +kernel
theorem d_Store_markReached_39 : decode M_Store_markReached.2.1 39 = .ok (.iaload, 1) := by decide +kernel
theorem d_Store_markReached_40 : decode M_Store_markReached.2.1 40 = .ok (.invokevirtual 61, 3) := by decide +kernel
theorem d_Store_markReached_43 : decode M_Store_markReached.2.1 43 = .ok (.iinc 1 1, 3) := by decide +kernel
theorem d_Store_markReached_46 : decode M_Store_markReached.2.1 46 = .ok (.goto (-18), 3) := by decide +kernel
theorem d_Store_markReached_49 : decode M_Store_markReached.2.1 49 = .ok (.iconst 0, 1) := by decide +kernel
theorem d_Store_markReached_50 : decode M_Store_markReached.2.1 50 = .ok (.istore_n 1, 1) := by decide +kernel
theorem d_Store_markReached_51 : decode M_Store_markReached.2.1 51 = .ok (.iload_n 1, 1) := by decide +kernel
theorem d_Store_markReached_52 : decode M_Store_markReached.2.1 52 = .ok (.aload_n 0, 1) := by decide +kernel
theorem d_Store_markReached_53 : decode M_Store_markReached.2.1 53 = .ok (.getfield 39, 3) := by decide +kernel
theorem d_Store_markReached_56 : decode M_Store_markReached.2.1 56 = .ok (.if_icmp .ge 70, 3) := by decide +kernel
theorem d_Store_markReached_59 : decode M_Store_markReached.2.1 59 = .ok (.iload_n 1, 1) := by decide +kernel
theorem d_Store_markReached_60 : decode M_Store_markReached.2.1 60 = .ok (.bipush 16, 2) := by decide +kernel
theorem d_Store_markReached_62 : decode M_Store_markReached.2.1 62 = .ok (.if_icmp .ge 64, 3) := by decide +kernel
theorem d_Store_markReached_65 : decode M_Store_markReached.2.1 65 = .ok (.aload_n 0, 1) := by decide +kernel
theorem d_Store_markReached_66 : decode M_Store_markReached.2.1 66 = .ok (.getfield 11, 3) := by decide +kernel
theorem d_Store_markReached_69 : decode M_Store_markReached.2.1 69 = .ok (.aload_n 0, 1) := by decide +kernel
theorem d_Store_markReached_70 : decode M_Store_markReached.2.1 70 = .ok (.getfield 36, 3) := by decide +kernel
theorem d_Store_markReached_73 : decode M_Store_markReached.2.1 73 = .ok (.iload_n 1, 1) := by decide +kernel
theorem d_Store_markReached_74 : decode M_Store_markReached.2.1 74 = .ok (.iaload, 1) := by decide +kernel
theorem d_Store_markReached_75 : decode M_Store_markReached.2.1 75 = .ok (.aaload, 1) := by decide +kernel
theorem d_Store_markReached_76 : decode M_Store_markReached.2.1 76 = .ok (.astore_n 2, 1) := by decide +kernel
theorem d_Store_markReached_77 : decode M_Store_markReached.2.1 77 = .ok (.iconst 0, 1) := by decide +kernel
theorem d_Store_markReached_78 : decode M_Store_markReached.2.1 78 = .ok (.istore_n 3, 1) := by decide +kernel
theorem d_Store_markReached_79 : decode M_Store_markReached.2.1 79 = .ok (.iload_n 3, 1) := by decide +kernel
theorem d_Store_markReached_80 : decode M_Store_markReached.2.1 80 = .ok (.aload_n 0, 1) := by decide +kernel
theorem d_Store_markReached_81 : decode M_Store_markReached.2.1 81 = .ok (.getfield 18, 3) := by decide +kernel
theorem d_Store_markReached_84 : decode M_Store_markReached.2.1 84 = .ok (.if_icmp .ge 36, 3) := by decide +kernel
theorem d_Store_markReached_87 : decode M_Store_markReached.2.1 87 = .ok (.aload_n 0, 1) := by decide +kernel
theorem d_Store_markReached_88 : decode M_Store_markReached.2.1 88 = .ok (.getfield 32, 3) := by decide +kernel
theorem d_Store_markReached_91 : decode M_Store_markReached.2.1 91 = .ok (.iload_n 3, 1) := by decide +kernel
theorem d_Store_markReached_92 : decode M_Store_markReached.2.1 92 = .ok (.baload, 1) := by decide +kernel
theorem d_Store_markReached_93 : decode M_Store_markReached.2.1 93 = .ok (.ifCond .ne 21, 3) := by decide +kernel
theorem d_Store_markReached_96 : decode M_Store_markReached.2.1 96 = .ok (.aload_n 2, 1) := by decide +kernel
theorem d_Store_markReached_97 : decode M_Store_markReached.2.1 97 = .ok (.aload_n 0, 1) := by decide +kernel
theorem d_Store_markReached_98 : decode M_Store_markReached.2.1 98 = .ok (.getfield 11, 3) := by decide +kernel
theorem d_Store_markReached_101 : decode M_Store_markReached.2.1 101 = .ok (.iload_n 3, 1) := by decide +kernel
theorem d_Store_markReached_102 : decode M_Store_markReached.2.1 102 = .ok (.aaload, 1) := by decide +kernel
theorem d_Store_markReached_103 : decode M_Store_markReached.2.1 103 = .ok (.invokevirtual 65, 3) := by decide +kernel
theorem d_Store_markReached_106 : decode M_Store_markReached.2.1 106 = .ok (.ifCond .eq 8, 3) := by decide +kernel
theorem d_Store_markReached_109 : decode M_Store_markReached.2.1 109 = .ok (.aload_n 0, 1) := by decide +kernel
theorem d_Store_markReached_110 : decode M_Store_markReached.2.1 110 = .ok (.iload_n 3, 1) := by decide +kernel
theorem d_Store_markReached_111 : decode M_Store_markReached.2.1 111 = .ok (.invokevirtual 61, 3) := by decide +kernel
theorem d_Store_markReached_114 : decode M_Store_markReached.2.1 114 = .ok (.iinc 3 1, 3) := by decide +kernel
theorem d_Store_markReached_117 : decode M_Store_markReached.2.1 117 = .ok (.goto (-38), 3) := by decide +kernel
theorem d_Store_markReached_120 : decode M_Store_markReached.2.1 120 = .ok (.iinc 1 1, 3) := by decide +kernel
theorem d_Store_markReached_123 : decode M_Store_markReached.2.1 123 = .ok (.goto (-72), 3) := by decide +kernel
theorem d_Store_markReached_126 : decode M_Store_markReached.2.1 126 = .ok (.return_, 1) := by decide +kernel
def f_Store_markReached (x0 : Nat) (c : cM) (K : cM → Prop) : Prop :=
  ∃ I1 : Nat → Int32 → cM → Prop, (∃ n, I1 n 0 c) ∧ ∀ (n2 : Nat) (y5 : Int32) (c6 : cM), I1 n2 y5 c6 → (((16 ≤ y5) → (kd x0 = 4 ∧ (∀ c9 : cM, c9 = c_up c6 x0 5 0 → (∃ I10 : Nat → Int32 → cM → Prop, (∃ n, I10 n 0 c9) ∧ ∀ (n11 : Nat) (y14 : Int32) (c15 : cM), I10 n11 y14 c15 → (((4 ≤ y14) → (∃ I17 : Nat → Int32 → cM → Prop, (∃ n, I17 n 0 c15) ∧ ∀ (n18 : Nat) (y21 : Int32) (c22 : cM), I17 n18 y21 c22 → ((((c22 x0 5) ≤ y21) → (K c22)) ∧ (¬ ((c22 x0 5) ≤ y21) → (((16 ≤ y21) → (K c22)) ∧ (¬ (16 ≤ y21) → (kd (rf x0 4) = 100 ∧ (vp_in y21 (ln (rf x0 4)) ∧ (kd (rf x0 0) = 102 ∧ (vp_in (c22 (rf x0 4) (Int32.toNatClampNeg y21)) (ln (rf x0 0)) ∧ (∃ I29 : Nat → Int32 → cM → Prop, (∃ n, I29 n 0 c22) ∧ ∀ (n30 : Nat) (y33 : Int32) (c34 : cM), I29 n30 y33 c34 → ((((c34 x0 1) ≤ y33) → (∃ m, m < n18 ∧ I17 m (y21 + 1) c34)) ∧ (¬ ((c34 x0 1) ≤ y33) → (kd (rf x0 3) = 101 ∧ (vp_in y33 (ln (rf x0 3)) ∧ (∃ J46 : cM → Prop, (∀ (c45 : cM), J46 c45 → (∃ m, m < n30 ∧ I29 m (y33 + 1) c45)) ∧ (((¬ (c34 (rf x0 3) (Int32.toNatClampNeg y33)) = 0) → (J46 c34)) ∧ ((c34 (rf x0 3) (Int32.toNatClampNeg y33)) = 0 → (vp_in y33 (ln (rf x0 0)) ∧ (kd (rf (rf x0 0) (Int32.toNatClampNeg (c22 (rf x0 4) (Int32.toNatClampNeg y21)))) = 3 ∧ (f_Thing_refersTo (rf (rf x0 0) (Int32.toNatClampNeg (c22 (rf x0 4) (Int32.toNatClampNeg y21)))) (rf (rf x0 0) (Int32.toNatClampNeg y33)) c34 (fun v51 c50 => ((v51 = 0) → (J46 c50)) ∧ (¬ (v51 = 0) → (f_Store_reach x0 y33 c50 (fun c53 => J46 c53))))))))))))))))))))))))) ∧ (¬ (4 ≤ y14) → (kd (rf x0 2) = 100 ∧ (vp_in y14 (ln (rf x0 2)) ∧ (f_Store_reach x0 (c15 (rf x0 2) (Int32.toNatClampNeg y14)) c15 (fun c56 => ∃ m, m < n11 ∧ I10 m (y14 + 1) c56)))))))))) ∧ (¬ (16 ≤ y5) → (kd x0 = 4 ∧ (kd (rf x0 3) = 101 ∧ (vp_in y5 (ln (rf x0 3)) ∧ (∀ c60 : cM, c60 = c_up c6 (rf x0 3) (Int32.toNatClampNeg y5) 0 → (∃ m, m < n2 ∧ I1 m (y5 + 1) c60)))))))
theorem c_Store_markReached {x0 : Nat} {c : cM} {K : cM → Prop} (h : f_Store_markReached x0 c K) : Ct M_Store_markReached 4 0 0 (wd c) [.ref x0] (PoV K) := by
  refine Ct.of (by decide +kernel) (Nat.le_of_ble_eq_true rfl) (fun Z T => ?_)
  have F := T.F
  unfold f_Store_markReached at h
  show Z (wd c) 0 [(0, .ref x0)] [] 0 0
  refine g_iconst (v := 0) F (pc := 0) d_Store_markReached_0 (by decide) (g_istore_n (lv' := [(1, .int 0), (0, .ref x0)]) F (pc := 1) d_Store_markReached_1 (by decide) rfl ?_)
  refine g_lv (lv' := [(0, .ref x0), (1, .int 0)]) F [1, 0] rfl ?_
  obtain ⟨I1, ⟨n0, h⟩, hI1⟩ := h
  have lp4 : ∀ (n2 : Nat) (y5 : Int32) (c6 : cM), I1 n2 y5 c6 → Z (wd c6) 2 [(0, .ref x0), (1, .int y5)] [] 0 0 := by
    intro n2
    induction n2 using Nat.strongRecOn with
    | _ n2 ih3 =>
      intro y5 c6 h
      replace h := hI1 n2 y5 c6 h
      refine g_iload_n F (pc := 2) d_Store_markReached_2 1 rfl (g_bipush (v := 16) F (pc := 3) d_Store_markReached_3 (by decide) ?_)
      refine g_icmp_ge (tgt := 21) F (pc := 5) d_Store_markReached_5 (by decide) (fun b7 => ?_) (fun b7 => ?_)
      · replace h := h.1 b7
        refine g_aload_n F (pc := 21) d_Store_markReached_21 0 rfl (g_iconst (v := 0) F (pc := 22) d_Store_markReached_22 (by decide) ?_)
        obtain ⟨o8, h⟩ := h
        refine gc_putI F (pc := 23) d_Store_markReached_23 pi_Store_39 o8 ?_
        obtain ⟨c9, ec9⟩ : ∃ c9 : cM, c9 = c_up c6 x0 5 0 := ⟨_, rfl⟩
        rw [← ec9]
        replace h := h c9 ec9
        refine g_iconst (v := 0) F (pc := 26) d_Store_markReached_26 (by decide) (g_istore_n (lv' := [(1, .int 0), (0, .ref x0)]) F (pc := 27) d_Store_markReached_27 (by decide) rfl ?_)
        refine g_lv (lv' := [(0, .ref x0), (1, .int 0)]) F [1, 0] rfl ?_
        obtain ⟨I10, ⟨n0, h⟩, hI10⟩ := h
        have lp13 : ∀ (n11 : Nat) (y14 : Int32) (c15 : cM), I10 n11 y14 c15 → Z (wd c15) 28 [(0, .ref x0), (1, .int y14)] [] 0 0 := by
          intro n11
          induction n11 using Nat.strongRecOn with
          | _ n11 ih12 =>
            intro y14 c15 h
            replace h := hI10 n11 y14 c15 h
            refine g_iload_n F (pc := 28) d_Store_markReached_28 1 rfl (g_iconst (v := 4) F (pc := 29) d_Store_markReached_29 (by decide) ?_)
            refine g_icmp_ge (tgt := 49) F (pc := 30) d_Store_markReached_30 (by decide) (fun b16 => ?_) (fun b16 => ?_)
            · replace h := h.1 b16
              refine g_iconst (v := 0) F (pc := 49) d_Store_markReached_49 (by decide) (g_istore_n (lv' := [(1, .int 0), (0, .ref x0)]) F (pc := 50) d_Store_markReached_50 (by decide) rfl ?_)
              refine g_lv (lv' := [(0, .ref x0), (1, .int 0)]) F [1, 0] rfl ?_
              obtain ⟨I17, ⟨n0, h⟩, hI17⟩ := h
              have lp20 : ∀ (n18 : Nat) (y21 : Int32) (c22 : cM), I17 n18 y21 c22 → Z (wd c22) 51 [(0, .ref x0), (1, .int y21)] [] 0 0 := by
                intro n18
                induction n18 using Nat.strongRecOn with
                | _ n18 ih19 =>
                  intro y21 c22 h
                  replace h := hI17 n18 y21 c22 h
                  refine g_iload_n F (pc := 51) d_Store_markReached_51 1 rfl (g_aload_n F (pc := 52) d_Store_markReached_52 0 rfl (gc_getI F (pc := 53) d_Store_markReached_53 fi_Store_39 o8 ?_))
                  refine g_icmp_ge (tgt := 126) F (pc := 56) d_Store_markReached_56 (by decide) (fun b23 => ?_) (fun b23 => ?_)
                  · replace h := h.1 b23
                    exact g_vret T (pc := 126) d_Store_markReached_126 rfl (Nat.le_refl _) (Nat.le_refl _) (poV h)
                  · replace h := h.2 b23
                    refine g_iload_n F (pc := 59) d_Store_markReached_59 1 rfl (g_bipush (v := 16) F (pc := 60) d_Store_markReached_60 (by decide) ?_)
                    refine g_icmp_ge (tgt := 126) F (pc := 62) d_Store_markReached_62 (by decide) (fun b24 => ?_) (fun b24 => ?_)
                    · replace h := h.1 b24
                      exact g_vret T (pc := 126) d_Store_markReached_126 rfl (Nat.le_refl _) (Nat.le_refl _) (poV h)
                    · replace h := h.2 b24
                      refine g_aload_n F (pc := 65) d_Store_markReached_65 0 rfl (gc_getR F (pc := 66) d_Store_markReached_66 fi_Store_11 o8 (g_aload_n F (pc := 69) d_Store_markReached_69 0 rfl (gc_getR F (pc := 70) d_Store_markReached_70 fi_Store_36 o8 (g_iload_n F (pc := 73) d_Store_markReached_73 1 rfl ?_))))
                      obtain ⟨o25, h⟩ := h
                      obtain ⟨o26, h⟩ := h
                      refine gc_iald F (pc := 74) d_Store_markReached_74 o25 o26 ?_
                      obtain ⟨o27, h⟩ := h
                      obtain ⟨o28, h⟩ := h
                      refine gc_aald F (pc := 75) d_Store_markReached_75 o27 o28 (g_astore_n (lv' := [(2, .ref (rf (rf x0 0) (Int32.toNatClampNeg (c22 (rf x0 4) (Int32.toNatClampNeg y21))))), (0, .ref x0), (1, .int y21)]) F (pc := 76) d_Store_markReached_76 (by decide) rfl (g_iconst (v := 0) F (pc := 77) d_Store_markReached_77 (by decide) (g_istore_n (lv' := [(3, .int 0), (2, .ref (rf (rf x0 0) (Int32.toNatClampNeg (c22 (rf x0 4) (Int32.toNatClampNeg y21))))), (0, .ref x0), (1, .int y21)]) F (pc := 78) d_Store_markReached_78 (by decide) rfl ?_)))
                      refine g_lv (lv' := [(0, .ref x0), (1, .int y21), (2, .ref (rf (rf x0 0) (Int32.toNatClampNeg (c22 (rf x0 4) (Int32.toNatClampNeg y21))))), (3, .int 0)]) F [2, 3, 1, 0] rfl ?_
                      obtain ⟨I29, ⟨n0, h⟩, hI29⟩ := h
                      have lp32 : ∀ (n30 : Nat) (y33 : Int32) (c34 : cM), I29 n30 y33 c34 → Z (wd c34) 79 [(0, .ref x0), (1, .int y21), (2, .ref (rf (rf x0 0) (Int32.toNatClampNeg (c22 (rf x0 4) (Int32.toNatClampNeg y21))))), (3, .int y33)] [] 0 0 := by
                        intro n30
                        induction n30 using Nat.strongRecOn with
                        | _ n30 ih31 =>
                          intro y33 c34 h
                          replace h := hI29 n30 y33 c34 h
                          refine g_iload_n F (pc := 79) d_Store_markReached_79 3 rfl (g_aload_n F (pc := 80) d_Store_markReached_80 0 rfl (gc_getI F (pc := 81) d_Store_markReached_81 fi_Store_18 o8 ?_))
                          refine g_icmp_ge (tgt := 120) F (pc := 84) d_Store_markReached_84 (by decide) (fun b35 => ?_) (fun b35 => ?_)
                          · replace h := h.1 b35
                            refine g_iinc (v := (y21 + 1)) (lv' := [(1, .int (y21 + 1)), (0, .ref x0), (2, .ref (rf (rf x0 0) (Int32.toNatClampNeg (c22 (rf x0 4) (Int32.toNatClampNeg y21))))), (3, .int y33)]) F (pc := 120) d_Store_markReached_120 1 rfl (sk_inc (by decide)) (by decide) rfl (g_goto (tgt := 51) F (pc := 123) d_Store_markReached_123 (by decide) ?_)
                            refine g_lv (lv' := [(0, .ref x0), (1, .int (y21 + 1))]) F [1, 0] rfl ?_
                            obtain ⟨m, hm, h⟩ := h
                            exact ih19 m hm _ _ h
                          · replace h := h.2 b35
                            refine g_aload_n F (pc := 87) d_Store_markReached_87 0 rfl (gc_getR F (pc := 88) d_Store_markReached_88 fi_Store_32 o8 (g_iload_n F (pc := 91) d_Store_markReached_91 3 rfl ?_))
                            obtain ⟨o36, h⟩ := h
                            obtain ⟨o37, h⟩ := h
                            refine gc_zald F (pc := 92) d_Store_markReached_92 o36 o37 ?_
                            obtain ⟨J46, hJ46, h⟩ := h
                            have jn47 : ∀ (c45 : cM), J46 c45 → Z (wd c45) 114 [(0, .ref x0), (1, .int y21), (2, .ref (rf (rf x0 0) (Int32.toNatClampNeg (c22 (rf x0 4) (Int32.toNatClampNeg y21))))), (3, .int y33)] [] 0 0 := by
                              intro c45 h
                              replace h := hJ46 c45 h
                              refine g_iinc (v := (y33 + 1)) (lv' := [(3, .int (y33 + 1)), (0, .ref x0), (1, .int y21), (2, .ref (rf (rf x0 0) (Int32.toNatClampNeg (c22 (rf x0 4) (Int32.toNatClampNeg y21)))))]) F (pc := 114) d_Store_markReached_114 3 rfl (sk_inc (by decide)) (by decide) rfl (g_goto (tgt := 79) F (pc := 117) d_Store_markReached_117 (by decide) ?_)
                              refine g_lv (lv' := [(0, .ref x0), (1, .int y21), (2, .ref (rf (rf x0 0) (Int32.toNatClampNeg (c22 (rf x0 4) (Int32.toNatClampNeg y21))))), (3, .int (y33 + 1))]) F [1, 2, 3, 0] rfl ?_
                              obtain ⟨m, hm, h⟩ := h
                              exact ih31 m hm _ _ h
                            refine g_if_ne (tgt := 114) F (pc := 93) d_Store_markReached_93 (by decide) (fun b38 => ?_) (fun b38 => ?_)
                            · replace h := h.1 b38
                              exact jn47 _ h
                            · replace h := h.2 b38
                              refine g_aload_n F (pc := 96) d_Store_markReached_96 2 rfl (g_aload_n F (pc := 97) d_Store_markReached_97 0 rfl (gc_getR F (pc := 98) d_Store_markReached_98 fi_Store_11 o8 (g_iload_n F (pc := 101) d_Store_markReached_101 3 rfl ?_)))
                              obtain ⟨o48, h⟩ := h
                              refine gc_aald F (pc := 102) d_Store_markReached_102 o27 o48 ?_
                              obtain ⟨o49, h⟩ := h
                              refine gc_callVI (As := [.ref (rf (rf x0 0) (Int32.toNatClampNeg y33))]) (st := []) F (pc := 103) d_Store_markReached_103 cb_Store_65 iv_Thing_refersTo np_Thing_refersTo o49 vc_3 (c_Thing_refersTo h) rfl (by decide) (Nat.le_refl _) (Nat.le_refl _) (Nat.le_of_ble_eq_true rfl) (fun v51 c50 h => ?_)
                              refine g_if_eq (tgt := 114) F (pc := 106) d_Store_markReached_106 (by decide) (fun b52 => ?_) (fun b52 => ?_)
                              · replace h := h.1 b52
                                exact jn47 _ h
                              · replace h := h.2 b52
                                refine g_aload_n F (pc := 109) d_Store_markReached_109 0 rfl (g_iload_n F (pc := 110) d_Store_markReached_110 3 rfl ?_)
                                refine gc_callVV (As := [.int y33]) (st := []) F (pc := 111) d_Store_markReached_111 cb_Store_61 iv_Store_reach np_Store_reach o8 vc_4 (c_Store_reach h) rfl (by decide) (Nat.le_refl _) (Nat.le_refl _) (Nat.le_of_ble_eq_true rfl) (fun c53 h => ?_)
                                exact jn47 _ h
                      exact lp32 n0 _ _ h
              exact lp20 n0 _ _ h
            · replace h := h.2 b16
              refine g_aload_n F (pc := 33) d_Store_markReached_33 0 rfl (g_aload_n F (pc := 34) d_Store_markReached_34 0 rfl (gc_getR F (pc := 35) d_Store_markReached_35 fi_Store_22 o8 (g_iload_n F (pc := 38) d_Store_markReached_38 1 rfl ?_)))
              obtain ⟨o54, h⟩ := h
              obtain ⟨o55, h⟩ := h
              refine gc_iald F (pc := 39) d_Store_markReached_39 o54 o55 ?_
              refine gc_callVV (As := [.int (c15 (rf x0 2) (Int32.toNatClampNeg y14))]) (st := []) F (pc := 40) d_Store_markReached_40 cb_Store_61 iv_Store_reach np_Store_reach o8 vc_4 (c_Store_reach h) rfl (by decide) (Nat.le_refl _) (Nat.le_refl _) (Nat.le_of_ble_eq_true rfl) (fun c56 h => ?_)
              refine g_iinc (v := (y14 + 1)) (lv' := [(1, .int (y14 + 1)), (0, .ref x0)]) F (pc := 43) d_Store_markReached_43 1 rfl (sk_inc (by decide)) (by decide) rfl (g_goto (tgt := 28) F (pc := 46) d_Store_markReached_46 (by decide) ?_)
              refine g_lv (lv' := [(0, .ref x0), (1, .int (y14 + 1))]) F [1, 0] rfl ?_
              obtain ⟨m, hm, h⟩ := h
              exact ih12 m hm _ _ h
        exact lp13 n0 _ _ h
      · replace h := h.2 b7
        refine g_aload_n F (pc := 8) d_Store_markReached_8 0 rfl ?_
        obtain ⟨o57, h⟩ := h
        refine gc_getR F (pc := 9) d_Store_markReached_9 fi_Store_32 o57 (g_iload_n F (pc := 12) d_Store_markReached_12 1 rfl (g_iconst (v := 0) F (pc := 13) d_Store_markReached_13 (by decide) ?_))
        obtain ⟨o58, h⟩ := h
        obtain ⟨o59, h⟩ := h
        refine gc_zast F (pc := 14) d_Store_markReached_14 o58 o59 (Or.inl rfl) ?_
        obtain ⟨c60, ec60⟩ : ∃ c60 : cM, c60 = c_up c6 (rf x0 3) (Int32.toNatClampNeg y5) 0 := ⟨_, rfl⟩
        rw [← ec60]
        replace h := h c60 ec60
        refine g_iinc (v := (y5 + 1)) (lv' := [(1, .int (y5 + 1)), (0, .ref x0)]) F (pc := 15) d_Store_markReached_15 1 rfl (sk_inc (by decide)) (by decide) rfl (g_goto (tgt := 2) F (pc := 18) d_Store_markReached_18 (by decide) ?_)
        refine g_lv (lv' := [(0, .ref x0), (1, .int (y5 + 1))]) F [1, 0] rfl ?_
        obtain ⟨m, hm, h⟩ := h
        exact ih3 m hm _ _ h
  exact lp4 n0 _ _ h
theorem d_Thing_begin_0 : decode M_Thing_begin.2.1 0 = .ok (.aload_n 0, 1) := by decide +kernel
theorem d_Thing_begin_1 : decode M_Thing_begin.2.1 1 = .ok (.iload_n 1, 1) := by decide +kernel
theorem d_Thing_begin_2 : decode M_Thing_begin.2.1 2 = .ok (.putfield 9, 3) := by decide +kernel
theorem d_Thing_begin_5 : decode M_Thing_begin.2.1 5 = .ok (.aload_n 0, 1) := by decide +kernel
theorem d_Thing_begin_6 : decode M_Thing_begin.2.1 6 = .ok (.getfield 20, 3) := by decide +kernel
theorem d_Thing_begin_9 : decode M_Thing_begin.2.1 9 = .ok (.invokevirtual 28, 3) := by decide +kernel
theorem d_Thing_begin_12 : decode M_Thing_begin.2.1 12 = .ok (.return_, 1) := by decide +kernel
def f_Thing_begin (x0 : Nat) (x1 : Int32) (c : cM) (K : cM → Prop) : Prop :=
  kd x0 = 3 ∧ (∀ c2 : cM, c2 = c_up c x0 0 x1 → (kd (rf x0 1) = 1 ∧ (f_Row_clear (rf x0 1) c2 (fun c4 => K c4))))
theorem c_Thing_begin {x0 : Nat} {x1 : Int32} {c : cM} {K : cM → Prop} (h : f_Thing_begin x0 x1 c K) : Ct M_Thing_begin 1 0 0 (wd c) [.ref x0, .int x1] (PoV K) := by
  refine Ct.of (by decide +kernel) (Nat.le_of_ble_eq_true rfl) (fun Z T => ?_)
  have F := T.F
  unfold f_Thing_begin at h
  show Z (wd c) 0 [(0, .ref x0), (1, .int x1)] [] 0 0
  refine g_aload_n F (pc := 0) d_Thing_begin_0 0 rfl (g_iload_n F (pc := 1) d_Thing_begin_1 1 rfl ?_)
  obtain ⟨o1, h⟩ := h
  refine gc_putI F (pc := 2) d_Thing_begin_2 pi_Thing_9 o1 ?_
  obtain ⟨c2, ec2⟩ : ∃ c2 : cM, c2 = c_up c x0 0 x1 := ⟨_, rfl⟩
  rw [← ec2]
  replace h := h c2 ec2
  refine g_aload_n F (pc := 5) d_Thing_begin_5 0 rfl (gc_getR F (pc := 6) d_Thing_begin_6 fi_Thing_20 o1 ?_)
  obtain ⟨o3, h⟩ := h
  refine gc_callVV (As := []) (st := []) F (pc := 9) d_Thing_begin_9 cb_Thing_28 iv_Row_clear np_Row_clear o3 vc_1 (c_Row_clear h) rfl (by decide) (Nat.le_refl _) (Nat.le_refl _) (Nat.le_of_ble_eq_true rfl) (fun c4 h => ?_)
  exact g_vret T (pc := 12) d_Thing_begin_12 rfl (Nat.le_refl _) (Nat.le_refl _) (poV h)
theorem d_Thing_become_0 : decode M_Thing_become.2.1 0 = .ok (.aload_n 0, 1) := by decide +kernel
theorem d_Thing_become_1 : decode M_Thing_become.2.1 1 = .ok (.aload_n 1, 1) := by decide +kernel
theorem d_Thing_become_2 : decode M_Thing_become.2.1 2 = .ok (.getfield 9, 3) := by decide +kernel
theorem d_Thing_become_5 : decode M_Thing_become.2.1 5 = .ok (.invokevirtual 31, 3) := by decide +kernel
theorem d_Thing_become_8 : decode M_Thing_become.2.1 8 = .ok (.aload_n 0, 1) := by decide +kernel
theorem d_Thing_become_9 : decode M_Thing_become.2.1 9 = .ok (.getfield 20, 3) := by decide +kernel
theorem d_Thing_become_12 : decode M_Thing_become.2.1 12 = .ok (.aload_n 1, 1) := by decide +kernel
theorem d_Thing_become_13 : decode M_Thing_become.2.1 13 = .ok (.getfield 20, 3) := by decide +kernel
theorem d_Thing_become_16 : decode M_Thing_become.2.1 16 = .ok (.iconst 0, 1) := by decide +kernel
theorem d_Thing_become_17 : decode M_Thing_become.2.1 17 = .ok (.aload_n 1, 1) := by decide +kernel
theorem d_Thing_become_18 : decode M_Thing_become.2.1 18 = .ok (.getfield 20, 3) := by decide +kernel
theorem d_Thing_become_21 : decode M_Thing_become.2.1 21 = .ok (.getfield 34, 3) := by decide +kernel
theorem d_Thing_become_24 : decode M_Thing_become.2.1 24 = .ok (.invokevirtual 37, 3) := by decide +kernel
theorem d_Thing_become_27 : decode M_Thing_become.2.1 27 = .ok (.pop, 1) := by decide +kernel
theorem d_Thing_become_28 : decode M_Thing_become.2.1 28 = .ok (.aload_n 1, 1) := by decide +kernel
theorem d_Thing_become_29 : decode M_Thing_become.2.1 29 = .ok (.getfield 24, 3) := by decide +kernel
theorem d_Thing_become_32 : decode M_Thing_become.2.1 32 = .ok (.iconst 0, 1) := by decide +kernel
theorem d_Thing_become_33 : decode M_Thing_become.2.1 33 = .ok (.aload_n 0, 1) := by decide +kernel
theorem d_Thing_become_34 : decode M_Thing_become.2.1 34 = .ok (.getfield 24, 3) := by decide +kernel
theorem d_Thing_become_37 : decode M_Thing_become.2.1 37 = .ok (.iconst 0, 1) := by decide +kernel
theorem d_Thing_become_38 : decode M_Thing_become.2.1 38 = .ok (.iconst 5, 1) := by decide +kernel
theorem d_Thing_become_39 : decode M_Thing_become.2.1 39 = .ok (.invokestatic 41, 3) := by decide +kernel
theorem d_Thing_become_42 : decode M_Thing_become.2.1 42 = .ok (.return_, 1) := by decide +kernel
def f_Thing_become (x0 : Nat) (x1 : Nat) (c : cM) (K : cM → Prop) : Prop :=
  kd x1 = 3 ∧ (kd x0 = 3 ∧ (f_Thing_begin x0 (c x1 0) c (fun c3 => kd (rf x1 1) = 1 ∧ (kd (rf x0 1) = 1 ∧ (f_Row_putPart (rf x0 1) (rf x1 1) 0 (c3 (rf x1 1) 1) c3 (fun v7 c6 => kd (rf x0 2) = 100 ∧ ((Int32.toNatClampNeg 0) + (Int32.toNatClampNeg 5) ≤ ln (rf x1 2) ∧ ((Int32.toNatClampNeg 0) + (Int32.toNatClampNeg 5) ≤ ln (rf x0 2) ∧ (kd (rf x1 2) = 100 ∧ (∀ c12 : cM, c12 = c_row c6 (rf x0 2) (c_cp (c6 (rf x1 2)) (c6 (rf x0 2)) (Int32.toNatClampNeg 0) (Int32.toNatClampNeg 0) (Int32.toNatClampNeg 5)) → (K c12)))))))))))
theorem c_Thing_become {x0 : Nat} {x1 : Nat} {c : cM} {K : cM → Prop} (h : f_Thing_become x0 x1 c K) : Ct M_Thing_become 2 0 0 (wd c) [.ref x0, .ref x1] (PoV K) := by
  refine Ct.of (by decide +kernel) (Nat.le_of_ble_eq_true rfl) (fun Z T => ?_)
  have F := T.F
  unfold f_Thing_become at h
  show Z (wd c) 0 [(0, .ref x0), (1, .ref x1)] [] 0 0
  refine g_aload_n F (pc := 0) d_Thing_become_0 0 rfl (g_aload_n F (pc := 1) d_Thing_become_1 1 rfl ?_)
  obtain ⟨o1, h⟩ := h
  refine gc_getI F (pc := 2) d_Thing_become_2 fi_Thing_9 o1 ?_
  obtain ⟨o2, h⟩ := h
  refine gc_callVV (As := [.int (c x1 0)]) (st := []) F (pc := 5) d_Thing_become_5 cb_Thing_31 iv_Thing_begin np_Thing_begin o2 vc_3 (c_Thing_begin h) rfl (by decide) (Nat.le_refl _) (Nat.le_refl _) (Nat.le_of_ble_eq_true rfl) (fun c3 h => ?_)
  refine g_aload_n F (pc := 8) d_Thing_become_8 0 rfl (gc_getR F (pc := 9) d_Thing_become_9 fi_Thing_20 o2 (g_aload_n F (pc := 12) d_Thing_become_12 1 rfl (gc_getR F (pc := 13) d_Thing_become_13 fi_Thing_20 o1 (g_iconst (v := 0) F (pc := 16) d_Thing_become_16 (by decide) (g_aload_n F (pc := 17) d_Thing_become_17 1 rfl ?_)))))
  refine gc_getR F (pc := 18) d_Thing_become_18 fi_Thing_20 o1 ?_
  obtain ⟨o4, h⟩ := h
  refine gc_getI F (pc := 21) d_Thing_become_21 fi_Thing_34 o4 ?_
  obtain ⟨o5, h⟩ := h
  refine gc_callVI (As := [.ref (rf x1 1), .int 0, .int (c3 (rf x1 1) 1)]) (st := []) F (pc := 24) d_Thing_become_24 cb_Thing_37 iv_Row_putPart np_Row_putPart o5 vc_1 (c_Row_putPart h) rfl (by decide) (Nat.le_refl _) (Nat.le_refl _) (Nat.le_of_ble_eq_true rfl) (fun v7 c6 h => ?_)
  refine g_pop F (pc := 27) d_Thing_become_27 rfl (g_aload_n F (pc := 28) d_Thing_become_28 1 rfl (gc_getR F (pc := 29) d_Thing_become_29 fi_Thing_24 o1 (g_iconst (v := 0) F (pc := 32) d_Thing_become_32 (by decide) (g_aload_n F (pc := 33) d_Thing_become_33 0 rfl (gc_getR F (pc := 34) d_Thing_become_34 fi_Thing_24 o2 ?_)))))
  refine g_iconst (v := 0) F (pc := 37) d_Thing_become_37 (by decide) (g_iconst (v := 5) F (pc := 38) d_Thing_become_38 (by decide) ?_)
  obtain ⟨o8, h⟩ := h
  obtain ⟨o9, h⟩ := h
  obtain ⟨o10, h⟩ := h
  obtain ⟨o11, h⟩ := h
  refine gc_copy F (pc := 39) d_Thing_become_39 ml_Thing_41 ac_2 ac_3 ac_4 o11 o8 (by decide) (by decide) (by decide) o9 o10 (by decide) (Nat.le_of_ble_eq_true rfl) ?_
  obtain ⟨c12, ec12⟩ : ∃ c12 : cM, c12 = c_row c6 (rf x0 2) (c_cp (c6 (rf x1 2)) (c6 (rf x0 2)) (Int32.toNatClampNeg 0) (Int32.toNatClampNeg 0) (Int32.toNatClampNeg 5)) := ⟨_, rfl⟩
  rw [← ec12]
  replace h := h c12 ec12
  exact g_vret T (pc := 42) d_Thing_become_42 rfl (Nat.le_refl _) (Nat.le_refl _) (poV h)
theorem d_Store_moveDown_0 : decode M_Store_moveDown.2.1 0 = .ok (.iload_n 1, 1) := by decide +kernel
theorem d_Store_moveDown_1 : decode M_Store_moveDown.2.1 1 = .ok (.iload_n 2, 1) := by decide +kernel
theorem d_Store_moveDown_2 : decode M_Store_moveDown.2.1 2 = .ok (.if_icmp .ne 4, 3) := by decide +kernel
theorem d_Store_moveDown_5 : decode M_Store_moveDown.2.1 5 = .ok (.return_, 1) := by decide +kernel
theorem d_Store_moveDown_6 : decode M_Store_moveDown.2.1 6 = .ok (.aload_n 0, 1) := by decide +kernel
theorem d_Store_moveDown_7 : decode M_Store_moveDown.2.1 7 = .ok (.getfield 11, 3) := by decide +kernel
theorem d_Store_moveDown_10 : decode M_Store_moveDown.2.1 10 = .ok (.iload_n 2, 1) := by decide +kernel
theorem d_Store_moveDown_11 : decode M_Store_moveDown.2.1 11 = .ok (.aaload, 1) := by decide +kernel
theorem d_Store_moveDown_12 : decode M_Store_moveDown.2.1 12 = .ok (.aload_n 0, 1) := by decide +kernel
theorem d_Store_moveDown_13 : decode M_Store_moveDown.2.1 13 = .ok (.getfield 11, 3) := by decide +kernel
theorem d_Store_moveDown_16 : decode M_Store_moveDown.2.1 16 = .ok (.iload_n 1, 1) := by decide +kernel
theorem d_Store_moveDown_17 : decode M_Store_moveDown.2.1 17 = .ok (.aaload, 1) := by decide +kernel
theorem d_Store_moveDown_18 : decode M_Store_moveDown.2.1 18 = .ok (.invokevirtual 57, 3) := by decide +kernel
theorem d_Store_moveDown_21 : decode M_Store_moveDown.2.1 21 = .ok (.iconst 0, 1) := by decide +kernel
theorem d_Store_moveDown_22 : decode M_Store_moveDown.2.1 22 = .ok (.istore_n 3, 1) := by decide +kernel
theorem d_Store_moveDown_23 : decode M_Store_moveDown.2.1 23 = .ok (.iload_n 3, 1) := by decide +kernel
theorem d_Store_moveDown_24 : decode M_Store_moveDown.2.1 24 = .ok (.iconst 4, 1) := by decide +kernel
theorem d_Store_moveDown_25 : decode M_Store_moveDown.2.1 25 = .ok (.if_icmp .ge 26, 3) := by decide +kernel
theorem d_Store_moveDown_28 : decode M_Store_moveDown.2.1 28 = .ok (.aload_n 0, 1) := by decide +kernel
theorem d_Store_moveDown_29 : decode M_Store_moveDown.2.1 29 = .ok (.getfield 22, 3) := by decide +kernel
theorem d_Store_moveDown_32 : decode M_Store_moveDown.2.1 32 = .ok (.iload_n 3, 1) := by decide +kernel
theorem d_Store_moveDown_33 : decode M_Store_moveDown.2.1 33 = .ok (.iaload, 1) := by decide +kernel
theorem d_Store_moveDown_34 : decode M_Store_moveDown.2.1 34 = .ok (.iload_n 1, 1) := by decide +kernel
theorem d_Store_moveDown_35 : decode M_Store_moveDown.2.1 35 = .ok (.if_icmp .ne 10, 3) := by decide +kernel
theorem d_Store_moveDown_38 : decode M_Store_moveDown.2.1 38 = .ok (.aload_n 0, 1) := by decide +kernel
theorem d_Store_moveDown_39 : decode M_Store_moveDown.2.1 39 = .ok (.getfield 22, 3) := by decide +kernel
theorem d_Store_moveDown_42 : decode M_Store_moveDown.2.1 42 = .ok (.iload_n 3, 1) := by decide +kernel
theorem d_Store_moveDown_43 : decode M_Store_moveDown.2.1 43 = .ok (.iload_n 2, 1) := by decide +kernel
theorem d_Store_moveDown_44 : decode M_Store_moveDown.2.1 44 = .ok (.iastore, 1) := by decide +kernel
theorem d_Store_moveDown_45 : decode M_Store_moveDown.2.1 45 = .ok (.iinc 3 1, 3) := by decide +kernel
theorem d_Store_moveDown_48 : decode M_Store_moveDown.2.1 48 = .ok (.goto (-25), 3) := by decide +kernel
theorem d_Store_moveDown_51 : decode M_Store_moveDown.2.1 51 = .ok (.return_, 1) := by decide +kernel
def f_Store_moveDown (x0 : Nat) (x1 : Int32) (x2 : Int32) (c : cM) (K : cM → Prop) : Prop :=
  ((¬ x1 = x2) → (kd x0 = 4 ∧ (kd (rf x0 0) = 102 ∧ (vp_in x2 (ln (rf x0 0)) ∧ (vp_in x1 (ln (rf x0 0)) ∧ (kd (rf (rf x0 0) (Int32.toNatClampNeg x2)) = 3 ∧ (f_Thing_become (rf (rf x0 0) (Int32.toNatClampNeg x2)) (rf (rf x0 0) (Int32.toNatClampNeg x1)) c (fun c7 => ∃ I8 : Nat → Int32 → cM → Prop, (∃ n, I8 n 0 c7) ∧ ∀ (n9 : Nat) (y12 : Int32) (c13 : cM), I8 n9 y12 c13 → (((4 ≤ y12) → (K c13)) ∧ (¬ (4 ≤ y12) → (kd (rf x0 2) = 100 ∧ (vp_in y12 (ln (rf x0 2)) ∧ (∃ J20 : cM → Prop, (∀ (c19 : cM), J20 c19 → (∃ m, m < n9 ∧ I8 m (y12 + 1) c19)) ∧ (((¬ (c13 (rf x0 2) (Int32.toNatClampNeg y12)) = x1) → (J20 c13)) ∧ ((c13 (rf x0 2) (Int32.toNatClampNeg y12)) = x1 → (∀ c22 : cM, c22 = c_up c13 (rf x0 2) (Int32.toNatClampNeg y12) x2 → (J20 c22))))))))))))))))) ∧ (x1 = x2 → (K c))
theorem c_Store_moveDown {x0 : Nat} {x1 : Int32} {x2 : Int32} {c : cM} {K : cM → Prop} (h : f_Store_moveDown x0 x1 x2 c K) : Ct M_Store_moveDown 3 0 0 (wd c) [.ref x0, .int x1, .int x2] (PoV K) := by
  refine Ct.of (by decide +kernel) (Nat.le_of_ble_eq_true rfl) (fun Z T => ?_)
  have F := T.F
  unfold f_Store_moveDown at h
  show Z (wd c) 0 [(0, .ref x0), (1, .int x1), (2, .int x2)] [] 0 0
  refine g_iload_n F (pc := 0) d_Store_moveDown_0 1 rfl (g_iload_n F (pc := 1) d_Store_moveDown_1 2 rfl ?_)
  refine g_icmp_ne (tgt := 6) F (pc := 2) d_Store_moveDown_2 (by decide) (fun b1 => ?_) (fun b1 => ?_)
  · replace h := h.1 b1
    refine g_aload_n F (pc := 6) d_Store_moveDown_6 0 rfl ?_
    obtain ⟨o2, h⟩ := h
    refine gc_getR F (pc := 7) d_Store_moveDown_7 fi_Store_11 o2 (g_iload_n F (pc := 10) d_Store_moveDown_10 2 rfl ?_)
    obtain ⟨o3, h⟩ := h
    obtain ⟨o4, h⟩ := h
    refine gc_aald F (pc := 11) d_Store_moveDown_11 o3 o4 (g_aload_n F (pc := 12) d_Store_moveDown_12 0 rfl (gc_getR F (pc := 13) d_Store_moveDown_13 fi_Store_11 o2 (g_iload_n F (pc := 16) d_Store_moveDown_16 1 rfl ?_)))
    obtain ⟨o5, h⟩ := h
    refine gc_aald F (pc := 17) d_Store_moveDown_17 o3 o5 ?_
    obtain ⟨o6, h⟩ := h
    refine gc_callVV (As := [.ref (rf (rf x0 0) (Int32.toNatClampNeg x1))]) (st := []) F (pc := 18) d_Store_moveDown_18 cb_Store_57 iv_Thing_become np_Thing_become o6 vc_3 (c_Thing_become h) rfl (by decide) (Nat.le_refl _) (Nat.le_refl _) (Nat.le_of_ble_eq_true rfl) (fun c7 h => ?_)
    refine g_iconst (v := 0) F (pc := 21) d_Store_moveDown_21 (by decide) (g_istore_n (lv' := [(3, .int 0), (0, .ref x0), (1, .int x1), (2, .int x2)]) F (pc := 22) d_Store_moveDown_22 (by decide) rfl ?_)
    refine g_lv (lv' := [(0, .ref x0), (1, .int x1), (2, .int x2), (3, .int 0)]) F [1, 2, 3, 0] rfl ?_
    obtain ⟨I8, ⟨n0, h⟩, hI8⟩ := h
    have lp11 : ∀ (n9 : Nat) (y12 : Int32) (c13 : cM), I8 n9 y12 c13 → Z (wd c13) 23 [(0, .ref x0), (1, .int x1), (2, .int x2), (3, .int y12)] [] 0 0 := by
      intro n9
      induction n9 using Nat.strongRecOn with
      | _ n9 ih10 =>
        intro y12 c13 h
        replace h := hI8 n9 y12 c13 h
        refine g_iload_n F (pc := 23) d_Store_moveDown_23 3 rfl (g_iconst (v := 4) F (pc := 24) d_Store_moveDown_24 (by decide) ?_)
        refine g_icmp_ge (tgt := 51) F (pc := 25) d_Store_moveDown_25 (by decide) (fun b14 => ?_) (fun b14 => ?_)
        · replace h := h.1 b14
          exact g_vret T (pc := 51) d_Store_moveDown_51 rfl (Nat.le_refl _) (Nat.le_refl _) (poV h)
        · replace h := h.2 b14
          refine g_aload_n F (pc := 28) d_Store_moveDown_28 0 rfl (gc_getR F (pc := 29) d_Store_moveDown_29 fi_Store_22 o2 (g_iload_n F (pc := 32) d_Store_moveDown_32 3 rfl ?_))
          obtain ⟨o15, h⟩ := h
          obtain ⟨o16, h⟩ := h
          refine gc_iald F (pc := 33) d_Store_moveDown_33 o15 o16 (g_iload_n F (pc := 34) d_Store_moveDown_34 1 rfl ?_)
          obtain ⟨J20, hJ20, h⟩ := h
          have jn21 : ∀ (c19 : cM), J20 c19 → Z (wd c19) 45 [(0, .ref x0), (1, .int x1), (2, .int x2), (3, .int y12)] [] 0 0 := by
            intro c19 h
            replace h := hJ20 c19 h
            refine g_iinc (v := (y12 + 1)) (lv' := [(3, .int (y12 + 1)), (0, .ref x0), (1, .int x1), (2, .int x2)]) F (pc := 45) d_Store_moveDown_45 3 rfl (sk_inc (by decide)) (by decide) rfl (g_goto (tgt := 23) F (pc := 48) d_Store_moveDown_48 (by decide) ?_)
            refine g_lv (lv' := [(0, .ref x0), (1, .int x1), (2, .int x2), (3, .int (y12 + 1))]) F [1, 2, 3, 0] rfl ?_
            obtain ⟨m, hm, h⟩ := h
            exact ih10 m hm _ _ h
          refine g_icmp_ne (tgt := 45) F (pc := 35) d_Store_moveDown_35 (by decide) (fun b17 => ?_) (fun b17 => ?_)
          · replace h := h.1 b17
            exact jn21 _ h
          · replace h := h.2 b17
            refine g_aload_n F (pc := 38) d_Store_moveDown_38 0 rfl (gc_getR F (pc := 39) d_Store_moveDown_39 fi_Store_22 o2 (g_iload_n F (pc := 42) d_Store_moveDown_42 3 rfl (g_iload_n F (pc := 43) d_Store_moveDown_43 2 rfl (gc_iast F (pc := 44) d_Store_moveDown_44 o15 o16 ?_))))
            obtain ⟨c22, ec22⟩ : ∃ c22 : cM, c22 = c_up c13 (rf x0 2) (Int32.toNatClampNeg y12) x2 := ⟨_, rfl⟩
            rw [← ec22]
            replace h := h c22 ec22
            exact jn21 _ h
    exact lp11 n0 _ _ h
  · replace h := h.2 b1
    exact g_vret T (pc := 5) d_Store_moveDown_5 rfl (Nat.le_refl _) (Nat.le_refl _) (poV h)
theorem d_Store_dropUnreached_0 : decode M_Store_dropUnreached.2.1 0 = .ok (.aload_n 0, 1) := by decide +kernel
theorem d_Store_dropUnreached_1 : decode M_Store_dropUnreached.2.1 1 = .ok (.invokevirtual 68, 3) := by decide +kernel
theorem d_Store_dropUnreached_4 : decode M_Store_dropUnreached.2.1 4 = .ok (.iconst 0, 1) := by decide +kernel
theorem d_Store_dropUnreached_5 : decode M_Store_dropUnreached.2.1 5 = .ok (.istore_n 1, 1) := by decide +kernel
theorem d_Store_dropUnreached_6 : decode M_Store_dropUnreached.2.1 6 = .ok (.iconst 0, 1) := by decide +kernel
theorem d_Store_dropUnreached_7 : decode M_Store_dropUnreached.2.1 7 = .ok (.istore_n 2, 1) := by decide +kernel
theorem d_Store_dropUnreached_8 : decode M_Store_dropUnreached.2.1 8 = .ok (.iload_n 2, 1) := by decide +kernel
theorem d_Store_dropUnreached_9 : decode M_Store_dropUnreached.2.1 9 = .ok (.aload_n 0, 1) := by decide +kernel
theorem d_Store_dropUnreached_10 : decode M_Store_dropUnreached.2.1 10 = .ok (.getfield 18, 3) := by decide +kernel
theorem d_Store_dropUnreached_13 : decode M_Store_dropUnreached.2.1 13 = .ok (.if_icmp .ge 27, 3) := by decide +kernel
theorem d_Store_dropUnreached_16 : decode M_Store_dropUnreached.2.1 16 = .ok (.aload_n 0, 1) := by decide +kernel
theorem d_Store_dropUnreached_17 : decode M_Store_dropUnreached.2.1 17 = .ok (.getfield 32, 3) := by decide +kernel
theorem d_Store_dropUnreached_20 : decode M_Store_dropUnreached.2.1 20 = .ok (.iload_n 2, 1) := by decide +kernel
theorem d_Store_dropUnreached_21 : decode M_Store_dropUnreached.2.1 21 = .ok (.baload, 1) := by decide +kernel
theorem d_Store_dropUnreached_22 : decode M_Store_dropUnreached.2.1 22 = .ok (.ifCond .eq 12, 3) := by decide +kernel
theorem d_Store_dropUnreached_25 : decode M_Store_dropUnreached.2.1 25 = .ok (.aload_n 0, 1) := by decide +kernel
theorem d_Store_dropUnreached_26 : decode M_Store_dropUnreached.2.1 26 = .ok (.iload_n 2, 1) := by decide +kernel
theorem d_Store_dropUnreached_27 : decode M_Store_dropUnreached.2.1 27 = .ok (.iload_n 1, 1) := by decide +kernel
theorem d_Store_dropUnreached_28 : decode M_Store_dropUnreached.2.1 28 = .ok (.invokevirtual 71, 3) := by decide +kernel
theorem d_Store_dropUnreached_31 : decode M_Store_dropUnreached.2.1 31 = .ok (.iinc 1 1, 3) := by decide +kernel
theorem d_Store_dropUnreached_34 : decode M_Store_dropUnreached.2.1 34 = .ok (.iinc 2 1, 3) := by decide +kernel
theorem d_Store_dropUnreached_37 : decode M_Store_dropUnreached.2.1 37 = .ok (.goto (-29), 3) := by decide +kernel
theorem d_Store_dropUnreached_40 : decode M_Store_dropUnreached.2.1 40 = .ok (.aload_n 0, 1) := by decide +kernel
theorem d_Store_dropUnreached_41 : decode M_Store_dropUnreached.2.1 41 = .ok (.getfield 18, 3) := by decide +kernel
theorem d_Store_dropUnreached_44 : decode M_Store_dropUnreached.2.1 44 = .ok (.iload_n 1, 1) := by decide +kernel
theorem d_Store_dropUnreached_45 : decode M_Store_dropUnreached.2.1 45 = .ok (.isub, 1) := by decide +kernel
theorem d_Store_dropUnreached_46 : decode M_Store_dropUnreached.2.1 46 = .ok (.istore_n 2, 1) := by decide +kernel
theorem d_Store_dropUnreached_47 : decode M_Store_dropUnreached.2.1 47 = .ok (.aload_n 0, 1) := by decide +kernel
theorem d_Store_dropUnreached_48 : decode M_Store_dropUnreached.2.1 48 = .ok (.iload_n 1, 1) := by decide +kernel
theorem d_Store_dropUnreached_49 : decode M_Store_dropUnreached.2.1 49 = .ok (.putfield 18, 3) := by decide +kernel
theorem d_Store_dropUnreached_52 : decode M_Store_dropUnreached.2.1 52 = .ok (.iload_n 2, 1) := by decide +kernel
theorem d_Store_dropUnreached_53 : decode M_Store_dropUnreached.2.1 53 = .ok (.ireturn, 1) := by decide +kernel
def f_Store_dropUnreached (x0 : Nat) (c : cM) (K : Int32 → cM → Prop) : Prop :=
  kd x0 = 4 ∧ (f_Store_markReached x0 c (fun c2 => ∃ I3 : Nat → Int32 → Int32 → cM → Prop, (∃ n, I3 n 0 0 c2) ∧ ∀ (n4 : Nat) (y7 : Int32) (y8 : Int32) (c9 : cM), I3 n4 y7 y8 c9 → ((((c9 x0 1) ≤ y8) → (∀ c11 : cM, c11 = c_up c9 x0 1 y7 → (K ((c9 x0 1) - y7) c11))) ∧ (¬ ((c9 x0 1) ≤ y8) → (kd (rf x0 3) = 101 ∧ (vp_in y8 (ln (rf x0 3)) ∧ (∃ J18 : Int32 → cM → Prop, (∀ (y16 : Int32) (c17 : cM), J18 y16 c17 → (∃ m, m < n4 ∧ I3 m y16 (y8 + 1) c17)) ∧ ((((c9 (rf x0 3) (Int32.toNatClampNeg y8)) = 0) → (J18 y7 c9)) ∧ (¬ ((c9 (rf x0 3) (Int32.toNatClampNeg y8)) = 0) → (f_Store_moveDown x0 y8 y7 c9 (fun c20 => J18 (y7 + 1) c20)))))))))))
theorem c_Store_dropUnreached {x0 : Nat} {c : cM} {K : Int32 → cM → Prop} (h : f_Store_dropUnreached x0 c K) : Ct M_Store_dropUnreached 5 0 0 (wd c) [.ref x0] (PoI K) := by
  refine Ct.of (by decide +kernel) (Nat.le_of_ble_eq_true rfl) (fun Z T => ?_)
  have F := T.F
  unfold f_Store_dropUnreached at h
  show Z (wd c) 0 [(0, .ref x0)] [] 0 0
  refine g_aload_n F (pc := 0) d_Store_dropUnreached_0 0 rfl ?_
  obtain ⟨o1, h⟩ := h
  refine gc_callVV (As := []) (st := []) F (pc := 1) d_Store_dropUnreached_1 cb_Store_68 iv_Store_markReached np_Store_markReached o1 vc_4 (c_Store_markReached h) rfl (by decide) (Nat.le_refl _) (Nat.le_refl _) (Nat.le_of_ble_eq_true rfl) (fun c2 h => ?_)
  refine g_iconst (v := 0) F (pc := 4) d_Store_dropUnreached_4 (by decide) (g_istore_n (lv' := [(1, .int 0), (0, .ref x0)]) F (pc := 5) d_Store_dropUnreached_5 (by decide) rfl (g_iconst (v := 0) F (pc := 6) d_Store_dropUnreached_6 (by decide) (g_istore_n (lv' := [(2, .int 0), (1, .int 0), (0, .ref x0)]) F (pc := 7) d_Store_dropUnreached_7 (by decide) rfl ?_)))
  refine g_lv (lv' := [(0, .ref x0), (1, .int 0), (2, .int 0)]) F [2, 1, 0] rfl ?_
  obtain ⟨I3, ⟨n0, h⟩, hI3⟩ := h
  have lp6 : ∀ (n4 : Nat) (y7 : Int32) (y8 : Int32) (c9 : cM), I3 n4 y7 y8 c9 → Z (wd c9) 8 [(0, .ref x0), (1, .int y7), (2, .int y8)] [] 0 0 := by
    intro n4
    induction n4 using Nat.strongRecOn with
    | _ n4 ih5 =>
      intro y7 y8 c9 h
      replace h := hI3 n4 y7 y8 c9 h
      refine g_iload_n F (pc := 8) d_Store_dropUnreached_8 2 rfl (g_aload_n F (pc := 9) d_Store_dropUnreached_9 0 rfl (gc_getI F (pc := 10) d_Store_dropUnreached_10 fi_Store_18 o1 ?_))
      refine g_icmp_ge (tgt := 40) F (pc := 13) d_Store_dropUnreached_13 (by decide) (fun b10 => ?_) (fun b10 => ?_)
      · replace h := h.1 b10
        refine g_aload_n F (pc := 40) d_Store_dropUnreached_40 0 rfl (gc_getI F (pc := 41) d_Store_dropUnreached_41 fi_Store_18 o1 (g_iload_n F (pc := 44) d_Store_dropUnreached_44 1 rfl (g_isub F (pc := 45) d_Store_dropUnreached_45 (g_istore_n (lv' := [(2, .int ((c9 x0 1) - y7)), (0, .ref x0), (1, .int y7)]) F (pc := 46) d_Store_dropUnreached_46 (by decide) rfl (g_aload_n F (pc := 47) d_Store_dropUnreached_47 1 rfl ?_)))))
        refine g_iload_n F (pc := 48) d_Store_dropUnreached_48 2 rfl (gc_putI F (pc := 49) d_Store_dropUnreached_49 pi_Store_18 o1 ?_)
        obtain ⟨c11, ec11⟩ : ∃ c11 : cM, c11 = c_up c9 x0 1 y7 := ⟨_, rfl⟩
        rw [← ec11]
        replace h := h c11 ec11
        refine g_iload_n F (pc := 52) d_Store_dropUnreached_52 0 rfl ?_
        exact g_iret T (pc := 53) d_Store_dropUnreached_53 rfl (Nat.le_refl _) (Nat.le_refl _) (poI h)
      · replace h := h.2 b10
        refine g_aload_n F (pc := 16) d_Store_dropUnreached_16 0 rfl (gc_getR F (pc := 17) d_Store_dropUnreached_17 fi_Store_32 o1 (g_iload_n F (pc := 20) d_Store_dropUnreached_20 2 rfl ?_))
        obtain ⟨o12, h⟩ := h
        obtain ⟨o13, h⟩ := h
        refine gc_zald F (pc := 21) d_Store_dropUnreached_21 o12 o13 ?_
        obtain ⟨J18, hJ18, h⟩ := h
        have jn19 : ∀ (y16 : Int32) (c17 : cM), J18 y16 c17 → Z (wd c17) 34 [(0, .ref x0), (1, .int y16), (2, .int y8)] [] 0 0 := by
          intro y16 c17 h
          replace h := hJ18 y16 c17 h
          refine g_iinc (v := (y8 + 1)) (lv' := [(2, .int (y8 + 1)), (0, .ref x0), (1, .int y16)]) F (pc := 34) d_Store_dropUnreached_34 2 rfl (sk_inc (by decide)) (by decide) rfl (g_goto (tgt := 8) F (pc := 37) d_Store_dropUnreached_37 (by decide) ?_)
          refine g_lv (lv' := [(0, .ref x0), (1, .int y16), (2, .int (y8 + 1))]) F [1, 2, 0] rfl ?_
          obtain ⟨m, hm, h⟩ := h
          exact ih5 m hm _ _ _ h
        refine g_if_eq (tgt := 34) F (pc := 22) d_Store_dropUnreached_22 (by decide) (fun b14 => ?_) (fun b14 => ?_)
        · replace h := h.1 b14
          exact jn19 _ _ h
        · replace h := h.2 b14
          refine g_aload_n F (pc := 25) d_Store_dropUnreached_25 0 rfl (g_iload_n F (pc := 26) d_Store_dropUnreached_26 2 rfl (g_iload_n F (pc := 27) d_Store_dropUnreached_27 1 rfl ?_))
          refine gc_callVV (As := [.int y8, .int y7]) (st := []) F (pc := 28) d_Store_dropUnreached_28 cb_Store_71 iv_Store_moveDown np_Store_moveDown o1 vc_4 (c_Store_moveDown h) rfl (by decide) (Nat.le_refl _) (Nat.le_refl _) (Nat.le_of_ble_eq_true rfl) (fun c20 h => ?_)
          refine g_iinc (v := (y7 + 1)) (lv' := [(1, .int (y7 + 1)), (0, .ref x0), (2, .int y8)]) F (pc := 31) d_Store_dropUnreached_31 1 rfl (sk_inc (by decide)) (by decide) rfl ?_
          refine g_lv (lv' := [(0, .ref x0), (1, .int (y7 + 1)), (2, .int y8)]) F [1, 0, 2] rfl ?_
          exact jn19 _ _ h
  exact lp6 n0 _ _ _ h
theorem d_Thing_isNamedAs_0 : decode M_Thing_isNamedAs.2.1 0 = .ok (.iconst 0, 1) := by decide +kernel
theorem d_Thing_isNamedAs_1 : decode M_Thing_isNamedAs.2.1 1 = .ok (.istore_n 2, 1) := by decide +kernel
theorem d_Thing_isNamedAs_2 : decode M_Thing_isNamedAs.2.1 2 = .ok (.iload_n 2, 1) := by decide +kernel
theorem d_Thing_isNamedAs_3 : decode M_Thing_isNamedAs.2.1 3 = .ok (.iconst 5, 1) := by decide +kernel
theorem d_Thing_isNamedAs_4 : decode M_Thing_isNamedAs.2.1 4 = .ok (.if_icmp .ge 26, 3) := by decide +kernel
theorem d_Thing_isNamedAs_7 : decode M_Thing_isNamedAs.2.1 7 = .ok (.aload_n 0, 1) := by decide +kernel
theorem d_Thing_isNamedAs_8 : decode M_Thing_isNamedAs.2.1 8 = .ok (.getfield 24, 3) := by decide +kernel
theorem d_Thing_isNamedAs_11 : decode M_Thing_isNamedAs.2.1 11 = .ok (.iload_n 2, 1) := by decide +kernel
theorem d_Thing_isNamedAs_12 : decode M_Thing_isNamedAs.2.1 12 = .ok (.iaload, 1) := by decide +kernel
theorem d_Thing_isNamedAs_13 : decode M_Thing_isNamedAs.2.1 13 = .ok (.aload_n 1, 1) := by decide +kernel
theorem d_Thing_isNamedAs_14 : decode M_Thing_isNamedAs.2.1 14 = .ok (.getfield 24, 3) := by decide +kernel
theorem d_Thing_isNamedAs_17 : decode M_Thing_isNamedAs.2.1 17 = .ok (.iload_n 2, 1) := by decide +kernel
theorem d_Thing_isNamedAs_18 : decode M_Thing_isNamedAs.2.1 18 = .ok (.iaload, 1) := by decide +kernel
theorem d_Thing_isNamedAs_19 : decode M_Thing_isNamedAs.2.1 19 = .ok (.if_icmp .eq 5, 3) := by decide +kernel
theorem d_Thing_isNamedAs_22 : decode M_Thing_isNamedAs.2.1 22 = .ok (.iconst 0, 1) := by decide +kernel
theorem d_Thing_isNamedAs_23 : decode M_Thing_isNamedAs.2.1 23 = .ok (.ireturn, 1) := by decide +kernel
theorem d_Thing_isNamedAs_24 : decode M_Thing_isNamedAs.2.1 24 = .ok (.iinc 2 1, 3) := by decide +kernel
theorem d_Thing_isNamedAs_27 : decode M_Thing_isNamedAs.2.1 27 = .ok (.goto (-25), 3) := by decide +kernel
theorem d_Thing_isNamedAs_30 : decode M_Thing_isNamedAs.2.1 30 = .ok (.iconst 1, 1) := by decide +kernel
theorem d_Thing_isNamedAs_31 : decode M_Thing_isNamedAs.2.1 31 = .ok (.ireturn, 1) := by decide +kernel
def f_Thing_isNamedAs (x0 : Nat) (x1 : Nat) (c : cM) (K : Int32 → cM → Prop) : Prop :=
  ∃ I1 : Nat → Int32 → Prop, (∃ n, I1 n 0) ∧ ∀ (n2 : Nat) (y5 : Int32), I1 n2 y5 → (((5 ≤ y5) → (K 1 c)) ∧ (¬ (5 ≤ y5) → (kd x0 = 3 ∧ (kd (rf x0 2) = 100 ∧ (vp_in y5 (ln (rf x0 2)) ∧ (kd x1 = 3 ∧ (kd (rf x1 2) = 100 ∧ (vp_in y5 (ln (rf x1 2)) ∧ ((((c (rf x0 2) (Int32.toNatClampNeg y5)) = (c (rf x1 2) (Int32.toNatClampNeg y5))) → (∃ m, m < n2 ∧ I1 m (y5 + 1))) ∧ (¬ ((c (rf x0 2) (Int32.toNatClampNeg y5)) = (c (rf x1 2) (Int32.toNatClampNeg y5))) → (K 0 c)))))))))))
theorem c_Thing_isNamedAs {x0 : Nat} {x1 : Nat} {c : cM} {K : Int32 → cM → Prop} (h : f_Thing_isNamedAs x0 x1 c K) : Ct M_Thing_isNamedAs 0 0 0 (wd c) [.ref x0, .ref x1] (PoI K) := by
  refine Ct.of (by decide +kernel) (Nat.le_of_ble_eq_true rfl) (fun Z T => ?_)
  have F := T.F
  unfold f_Thing_isNamedAs at h
  show Z (wd c) 0 [(0, .ref x0), (1, .ref x1)] [] 0 0
  refine g_iconst (v := 0) F (pc := 0) d_Thing_isNamedAs_0 (by decide) (g_istore_n (lv' := [(2, .int 0), (0, .ref x0), (1, .ref x1)]) F (pc := 1) d_Thing_isNamedAs_1 (by decide) rfl ?_)
  refine g_lv (lv' := [(0, .ref x0), (1, .ref x1), (2, .int 0)]) F [1, 2, 0] rfl ?_
  obtain ⟨I1, ⟨n0, h⟩, hI1⟩ := h
  have lp4 : ∀ (n2 : Nat) (y5 : Int32), I1 n2 y5 → Z (wd c) 2 [(0, .ref x0), (1, .ref x1), (2, .int y5)] [] 0 0 := by
    intro n2
    induction n2 using Nat.strongRecOn with
    | _ n2 ih3 =>
      intro y5 h
      replace h := hI1 n2 y5 h
      refine g_iload_n F (pc := 2) d_Thing_isNamedAs_2 2 rfl (g_iconst (v := 5) F (pc := 3) d_Thing_isNamedAs_3 (by decide) ?_)
      refine g_icmp_ge (tgt := 30) F (pc := 4) d_Thing_isNamedAs_4 (by decide) (fun b6 => ?_) (fun b6 => ?_)
      · replace h := h.1 b6
        refine g_iconst (v := 1) F (pc := 30) d_Thing_isNamedAs_30 (by decide) ?_
        exact g_zret T (pc := 31) d_Thing_isNamedAs_31 rfl (by decide) (Nat.le_refl _) (Nat.le_refl _) (poI h)
      · replace h := h.2 b6
        refine g_aload_n F (pc := 7) d_Thing_isNamedAs_7 0 rfl ?_
        obtain ⟨o7, h⟩ := h
        refine gc_getR F (pc := 8) d_Thing_isNamedAs_8 fi_Thing_24 o7 (g_iload_n F (pc := 11) d_Thing_isNamedAs_11 2 rfl ?_)
        obtain ⟨o8, h⟩ := h
        obtain ⟨o9, h⟩ := h
        refine gc_iald F (pc := 12) d_Thing_isNamedAs_12 o8 o9 (g_aload_n F (pc := 13) d_Thing_isNamedAs_13 1 rfl ?_)
        obtain ⟨o10, h⟩ := h
        refine gc_getR F (pc := 14) d_Thing_isNamedAs_14 fi_Thing_24 o10 (g_iload_n F (pc := 17) d_Thing_isNamedAs_17 2 rfl ?_)
        obtain ⟨o11, h⟩ := h
        obtain ⟨o12, h⟩ := h
        refine gc_iald F (pc := 18) d_Thing_isNamedAs_18 o11 o12 ?_
        refine g_icmp_eq (tgt := 24) F (pc := 19) d_Thing_isNamedAs_19 (by decide) (fun b13 => ?_) (fun b13 => ?_)
        · replace h := h.1 b13
          refine g_iinc (v := (y5 + 1)) (lv' := [(2, .int (y5 + 1)), (0, .ref x0), (1, .ref x1)]) F (pc := 24) d_Thing_isNamedAs_24 2 rfl (sk_inc (by decide)) (by decide) rfl (g_goto (tgt := 2) F (pc := 27) d_Thing_isNamedAs_27 (by decide) ?_)
          refine g_lv (lv' := [(0, .ref x0), (1, .ref x1), (2, .int (y5 + 1))]) F [1, 2, 0] rfl ?_
          obtain ⟨m, hm, h⟩ := h
          exact ih3 m hm _ h
        · replace h := h.2 b13
          refine g_iconst (v := 0) F (pc := 22) d_Thing_isNamedAs_22 (by decide) ?_
          exact g_zret T (pc := 23) d_Thing_isNamedAs_23 rfl (by decide) (Nat.le_refl _) (Nat.le_refl _) (poI h)
  exact lp4 n0 _ h
theorem d_Store_numberOf_0 : decode M_Store_numberOf.2.1 0 = .ok (.iconst 0, 1) := by decide +kernel
theorem d_Store_numberOf_1 : decode M_Store_numberOf.2.1 1 = .ok (.istore_n 2, 1) := by decide +kernel
theorem d_Store_numberOf_2 : decode M_Store_numberOf.2.1 2 = .ok (.iload_n 2, 1) := by decide +kernel
theorem d_Store_numberOf_3 : decode M_Store_numberOf.2.1 3 = .ok (.aload_n 0, 1) := by decide +kernel
theorem d_Store_numberOf_4 : decode M_Store_numberOf.2.1 4 = .ok (.getfield 18, 3) := by decide +kernel
theorem d_Store_numberOf_7 : decode M_Store_numberOf.2.1 7 = .ok (.if_icmp .ge 24, 3) := by decide +kernel
theorem d_Store_numberOf_10 : decode M_Store_numberOf.2.1 10 = .ok (.aload_n 0, 1) := by decide +kernel
theorem d_Store_numberOf_11 : decode M_Store_numberOf.2.1 11 = .ok (.getfield 11, 3) := by decide +kernel
theorem d_Store_numberOf_14 : decode M_Store_numberOf.2.1 14 = .ok (.iload_n 2, 1) := by decide +kernel
theorem d_Store_numberOf_15 : decode M_Store_numberOf.2.1 15 = .ok (.aaload, 1) := by decide +kernel
theorem d_Store_numberOf_16 : decode M_Store_numberOf.2.1 16 = .ok (.aload_n 1, 1) := by decide +kernel
theorem d_Store_numberOf_17 : decode M_Store_numberOf.2.1 17 = .ok (.invokevirtual 49, 3) := by decide +kernel
theorem d_Store_numberOf_20 : decode M_Store_numberOf.2.1 20 = .ok (.ifCond .eq 5, 3) := by decide +kernel
theorem d_Store_numberOf_23 : decode M_Store_numberOf.2.1 23 = .ok (.iload_n 2, 1) := by decide +kernel
theorem d_Store_numberOf_24 : decode M_Store_numberOf.2.1 24 = .ok (.ireturn, 1) := by decide +kernel
theorem d_Store_numberOf_25 : decode M_Store_numberOf.2.1 25 = .ok (.iinc 2 1, 3) := by decide +kernel
theorem d_Store_numberOf_28 : decode M_Store_numberOf.2.1 28 = .ok (.goto (-26), 3) := by decide +kernel
theorem d_Store_numberOf_31 : decode M_Store_numberOf.2.1 31 = .ok (.iconst (-1), 1) := by decide +kernel
theorem d_Store_numberOf_32 : decode M_Store_numberOf.2.1 32 = .ok (.ireturn, 1) := by decide +kernel
def f_Store_numberOf (x0 : Nat) (x1 : Nat) (c : cM) (K : Int32 → cM → Prop) : Prop :=
  ∃ I1 : Nat → Int32 → cM → Prop, (∃ n, I1 n 0 c) ∧ ∀ (n2 : Nat) (y5 : Int32) (c6 : cM), I1 n2 y5 c6 → (kd x0 = 4 ∧ ((((c6 x0 1) ≤ y5) → (K (-1) c6)) ∧ (¬ ((c6 x0 1) ≤ y5) → (kd (rf x0 0) = 102 ∧ (vp_in y5 (ln (rf x0 0)) ∧ (kd (rf (rf x0 0) (Int32.toNatClampNeg y5)) = 3 ∧ (f_Thing_isNamedAs (rf (rf x0 0) (Int32.toNatClampNeg y5)) x1 c6 (fun v13 c12 => ((v13 = 0) → (∃ m, m < n2 ∧ I1 m (y5 + 1) c12)) ∧ (¬ (v13 = 0) → (K y5 c12))))))))))
theorem c_Store_numberOf {x0 : Nat} {x1 : Nat} {c : cM} {K : Int32 → cM → Prop} (h : f_Store_numberOf x0 x1 c K) : Ct M_Store_numberOf 1 0 0 (wd c) [.ref x0, .ref x1] (PoI K) := by
  refine Ct.of (by decide +kernel) (Nat.le_of_ble_eq_true rfl) (fun Z T => ?_)
  have F := T.F
  unfold f_Store_numberOf at h
  show Z (wd c) 0 [(0, .ref x0), (1, .ref x1)] [] 0 0
  refine g_iconst (v := 0) F (pc := 0) d_Store_numberOf_0 (by decide) (g_istore_n (lv' := [(2, .int 0), (0, .ref x0), (1, .ref x1)]) F (pc := 1) d_Store_numberOf_1 (by decide) rfl ?_)
  refine g_lv (lv' := [(0, .ref x0), (1, .ref x1), (2, .int 0)]) F [1, 2, 0] rfl ?_
  obtain ⟨I1, ⟨n0, h⟩, hI1⟩ := h
  have lp4 : ∀ (n2 : Nat) (y5 : Int32) (c6 : cM), I1 n2 y5 c6 → Z (wd c6) 2 [(0, .ref x0), (1, .ref x1), (2, .int y5)] [] 0 0 := by
    intro n2
    induction n2 using Nat.strongRecOn with
    | _ n2 ih3 =>
      intro y5 c6 h
      replace h := hI1 n2 y5 c6 h
      refine g_iload_n F (pc := 2) d_Store_numberOf_2 2 rfl (g_aload_n F (pc := 3) d_Store_numberOf_3 0 rfl ?_)
      obtain ⟨o7, h⟩ := h
      refine gc_getI F (pc := 4) d_Store_numberOf_4 fi_Store_18 o7 ?_
      refine g_icmp_ge (tgt := 31) F (pc := 7) d_Store_numberOf_7 (by decide) (fun b8 => ?_) (fun b8 => ?_)
      · replace h := h.1 b8
        refine g_iconst (v := (-1)) F (pc := 31) d_Store_numberOf_31 (by decide) ?_
        exact g_iret T (pc := 32) d_Store_numberOf_32 rfl (Nat.le_refl _) (Nat.le_refl _) (poI h)
      · replace h := h.2 b8
        refine g_aload_n F (pc := 10) d_Store_numberOf_10 0 rfl (gc_getR F (pc := 11) d_Store_numberOf_11 fi_Store_11 o7 (g_iload_n F (pc := 14) d_Store_numberOf_14 2 rfl ?_))
        obtain ⟨o9, h⟩ := h
        obtain ⟨o10, h⟩ := h
        refine gc_aald F (pc := 15) d_Store_numberOf_15 o9 o10 (g_aload_n F (pc := 16) d_Store_numberOf_16 1 rfl ?_)
        obtain ⟨o11, h⟩ := h
        refine gc_callVI (As := [.ref x1]) (st := []) F (pc := 17) d_Store_numberOf_17 cb_Store_49 iv_Thing_isNamedAs np_Thing_isNamedAs o11 vc_3 (c_Thing_isNamedAs h) rfl (by decide) (Nat.le_refl _) (Nat.le_refl _) (Nat.le_of_ble_eq_true rfl) (fun v13 c12 h => ?_)
        refine g_if_eq (tgt := 25) F (pc := 20) d_Store_numberOf_20 (by decide) (fun b14 => ?_) (fun b14 => ?_)
        · replace h := h.1 b14
          refine g_iinc (v := (y5 + 1)) (lv' := [(2, .int (y5 + 1)), (0, .ref x0), (1, .ref x1)]) F (pc := 25) d_Store_numberOf_25 2 rfl (sk_inc (by decide)) (by decide) rfl (g_goto (tgt := 2) F (pc := 28) d_Store_numberOf_28 (by decide) ?_)
          refine g_lv (lv' := [(0, .ref x0), (1, .ref x1), (2, .int (y5 + 1))]) F [1, 2, 0] rfl ?_
          obtain ⟨m, hm, h⟩ := h
          exact ih3 m hm _ _ h
        · replace h := h.2 b14
          refine g_iload_n F (pc := 23) d_Store_numberOf_23 2 rfl ?_
          exact g_iret T (pc := 24) d_Store_numberOf_24 rfl (Nat.le_refl _) (Nat.le_refl _) (poI h)
  exact lp4 n0 _ _ h
theorem d_Store_bring_0 : decode M_Store_bring.2.1 0 = .ok (.aload_n 0, 1) := by decide +kernel
theorem d_Store_bring_1 : decode M_Store_bring.2.1 1 = .ok (.aload_n 1, 1) := by decide +kernel
theorem d_Store_bring_2 : decode M_Store_bring.2.1 2 = .ok (.invokevirtual 53, 3) := by decide +kernel
theorem d_Store_bring_5 : decode M_Store_bring.2.1 5 = .ok (.istore_n 2, 1) := by decide +kernel
theorem d_Store_bring_6 : decode M_Store_bring.2.1 6 = .ok (.iload_n 2, 1) := by decide +kernel
theorem d_Store_bring_7 : decode M_Store_bring.2.1 7 = .ok (.iconst (-1), 1) := by decide +kernel
theorem d_Store_bring_8 : decode M_Store_bring.2.1 8 = .ok (.if_icmp .eq 5, 3) := by decide +kernel
theorem d_Store_bring_11 : decode M_Store_bring.2.1 11 = .ok (.iload_n 2, 1) := by decide +kernel
theorem d_Store_bring_12 : decode M_Store_bring.2.1 12 = .ok (.ireturn, 1) := by decide +kernel
theorem d_Store_bring_13 : decode M_Store_bring.2.1 13 = .ok (.aload_n 0, 1) := by decide +kernel
theorem d_Store_bring_14 : decode M_Store_bring.2.1 14 = .ok (.getfield 18, 3) := by decide +kernel
theorem d_Store_bring_17 : decode M_Store_bring.2.1 17 = .ok (.bipush 16, 2) := by decide +kernel
theorem d_Store_bring_19 : decode M_Store_bring.2.1 19 = .ok (.if_icmp .lt 6, 3) := by decide +kernel
theorem d_Store_bring_22 : decode M_Store_bring.2.1 22 = .ok (.bipush (-2), 2) := by decide +kernel
theorem d_Store_bring_24 : decode M_Store_bring.2.1 24 = .ok (.ireturn, 1) := by decide +kernel
theorem d_Store_bring_25 : decode M_Store_bring.2.1 25 = .ok (.aload_n 0, 1) := by decide +kernel
theorem d_Store_bring_26 : decode M_Store_bring.2.1 26 = .ok (.getfield 11, 3) := by decide +kernel
theorem d_Store_bring_29 : decode M_Store_bring.2.1 29 = .ok (.aload_n 0, 1) := by decide +kernel
theorem d_Store_bring_30 : decode M_Store_bring.2.1 30 = .ok (.getfield 18, 3) := by decide +kernel
theorem d_Store_bring_33 : decode M_Store_bring.2.1 33 = .ok (.aaload, 1) := by decide +kernel
theorem d_Store_bring_34 : decode M_Store_bring.2.1 34 = .ok (.aload_n 1, 1) := by decide +kernel
theorem d_Store_bring_35 : decode M_Store_bring.2.1 35 = .ok (.invokevirtual 57, 3) := by decide +kernel
theorem d_Store_bring_38 : decode M_Store_bring.2.1 38 = .ok (.aload_n 0, 1) := by decide +kernel
theorem d_Store_bring_39 : decode M_Store_bring.2.1 39 = .ok (.dup, 1) := by decide +kernel
theorem d_Store_bring_40 : decode M_Store_bring.2.1 40 = .ok (.getfield 18, 3) := by decide +kernel
theorem d_Store_bring_43 : decode M_Store_bring.2.1 43 = .ok (.iconst 1, 1) := by decide +kernel
theorem d_Store_bring_44 : decode M_Store_bring.2.1 44 = .ok (.iadd, 1) := by decide +kernel
theorem d_Store_bring_45 : decode M_Store_bring.2.1 45 = .ok (.putfield 18, 3) := by decide +kernel
theorem d_Store_bring_48 : decode M_Store_bring.2.1 48 = .ok (.aload_n 0, 1) := by decide +kernel
theorem d_Store_bring_49 : decode M_Store_bring.2.1 49 = .ok (.getfield 18, 3) := by decide +kernel
theorem d_Store_bring_52 : decode M_Store_bring.2.1 52 = .ok (.iconst 1, 1) := by decide +kernel
theorem d_Store_bring_53 : decode M_Store_bring.2.1 53 = .ok (.isub, 1) := by decide +kernel
theorem d_Store_bring_54 : decode M_Store_bring.2.1 54 = .ok (.ireturn, 1) := by decide +kernel
def f_Store_bring (x0 : Nat) (x1 : Nat) (c : cM) (K : Int32 → cM → Prop) : Prop :=
  kd x0 = 4 ∧ (f_Store_numberOf x0 x1 c (fun v3 c2 => ((v3 = (-1)) → ((((c2 x0 1) < 16) → (kd (rf x0 0) = 102 ∧ (vp_in (c2 x0 1) (ln (rf x0 0)) ∧ (kd (rf (rf x0 0) (Int32.toNatClampNeg (c2 x0 1))) = 3 ∧ (f_Thing_become (rf (rf x0 0) (Int32.toNatClampNeg (c2 x0 1))) x1 c2 (fun c9 => ∀ c10 : cM, c10 = c_up c9 x0 1 ((c9 x0 1) + 1) → (K ((c10 x0 1) - 1) c10))))))) ∧ (¬ ((c2 x0 1) < 16) → (K (-2) c2)))) ∧ (¬ (v3 = (-1)) → (K v3 c2))))
theorem c_Store_bring {x0 : Nat} {x1 : Nat} {c : cM} {K : Int32 → cM → Prop} (h : f_Store_bring x0 x1 c K) : Ct M_Store_bring 3 0 0 (wd c) [.ref x0, .ref x1] (PoI K) := by
  refine Ct.of (by decide +kernel) (Nat.le_of_ble_eq_true rfl) (fun Z T => ?_)
  have F := T.F
  unfold f_Store_bring at h
  show Z (wd c) 0 [(0, .ref x0), (1, .ref x1)] [] 0 0
  refine g_aload_n F (pc := 0) d_Store_bring_0 0 rfl (g_aload_n F (pc := 1) d_Store_bring_1 1 rfl ?_)
  obtain ⟨o1, h⟩ := h
  refine gc_callVI (As := [.ref x1]) (st := []) F (pc := 2) d_Store_bring_2 cb_Store_53 iv_Store_numberOf np_Store_numberOf o1 vc_4 (c_Store_numberOf h) rfl (by decide) (Nat.le_refl _) (Nat.le_refl _) (Nat.le_of_ble_eq_true rfl) (fun v3 c2 h => ?_)
  refine g_istore_n (lv' := [(2, .int v3), (0, .ref x0), (1, .ref x1)]) F (pc := 5) d_Store_bring_5 (by decide) rfl (g_iload_n F (pc := 6) d_Store_bring_6 0 rfl (g_iconst (v := (-1)) F (pc := 7) d_Store_bring_7 (by decide) ?_))
  refine g_icmp_eq (tgt := 13) F (pc := 8) d_Store_bring_8 (by decide) (fun b4 => ?_) (fun b4 => ?_)
  · replace h := h.1 b4
    refine g_aload_n F (pc := 13) d_Store_bring_13 1 rfl (gc_getI F (pc := 14) d_Store_bring_14 fi_Store_18 o1 (g_bipush (v := 16) F (pc := 17) d_Store_bring_17 (by decide) ?_))
    refine g_icmp_lt (tgt := 25) F (pc := 19) d_Store_bring_19 (by decide) (fun b5 => ?_) (fun b5 => ?_)
    · replace h := h.1 b5
      refine g_aload_n F (pc := 25) d_Store_bring_25 1 rfl (gc_getR F (pc := 26) d_Store_bring_26 fi_Store_11 o1 (g_aload_n F (pc := 29) d_Store_bring_29 1 rfl (gc_getI F (pc := 30) d_Store_bring_30 fi_Store_18 o1 ?_)))
      obtain ⟨o6, h⟩ := h
      obtain ⟨o7, h⟩ := h
      refine gc_aald F (pc := 33) d_Store_bring_33 o6 o7 (g_aload_n F (pc := 34) d_Store_bring_34 2 rfl ?_)
      obtain ⟨o8, h⟩ := h
      refine gc_callVV (As := [.ref x1]) (st := []) F (pc := 35) d_Store_bring_35 cb_Store_57 iv_Thing_become np_Thing_become o8 vc_3 (c_Thing_become h) rfl (by decide) (Nat.le_refl _) (Nat.le_refl _) (Nat.le_of_ble_eq_true rfl) (fun c9 h => ?_)
      refine g_aload_n F (pc := 38) d_Store_bring_38 1 rfl (g_dup F (pc := 39) d_Store_bring_39 rfl (gc_getI F (pc := 40) d_Store_bring_40 fi_Store_18 o1 (g_iconst (v := 1) F (pc := 43) d_Store_bring_43 (by decide) (g_iadd F (pc := 44) d_Store_bring_44 (gc_putI F (pc := 45) d_Store_bring_45 pi_Store_18 o1 ?_)))))
      obtain ⟨c10, ec10⟩ : ∃ c10 : cM, c10 = c_up c9 x0 1 ((c9 x0 1) + 1) := ⟨_, rfl⟩
      rw [← ec10]
      replace h := h c10 ec10
      refine g_aload_n F (pc := 48) d_Store_bring_48 1 rfl (gc_getI F (pc := 49) d_Store_bring_49 fi_Store_18 o1 (g_iconst (v := 1) F (pc := 52) d_Store_bring_52 (by decide) (g_isub F (pc := 53) d_Store_bring_53 ?_)))
      exact g_iret T (pc := 54) d_Store_bring_54 rfl (Nat.le_refl _) (Nat.le_refl _) (poI h)
    · replace h := h.2 b5
      refine g_bipush (v := (-2)) F (pc := 22) d_Store_bring_22 (by decide) ?_
      exact g_iret T (pc := 24) d_Store_bring_24 rfl (Nat.le_refl _) (Nat.le_refl _) (poI h)
  · replace h := h.2 b4
    refine g_iload_n F (pc := 11) d_Store_bring_11 0 rfl ?_
    exact g_iret T (pc := 12) d_Store_bring_12 rfl (Nat.le_refl _) (Nat.le_refl _) (poI h)
