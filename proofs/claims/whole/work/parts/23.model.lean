theorem d_Mo_packByte_0 : decode M_Mo_packByte.2.1 0 = .ok (.iload_n 1, 1) := by decide +kernel
theorem d_Mo_packByte_1 : decode M_Mo_packByte.2.1 1 = .ok (.ifCond .lt 20, 3) := by decide +kernel
theorem d_Mo_packByte_4 : decode M_Mo_packByte.2.1 4 = .ok (.iload_n 1, 1) := by decide +kernel
theorem d_Mo_packByte_5 : decode M_Mo_packByte.2.1 5 = .ok (.aload_n 0, 1) := by decide +kernel
theorem d_Mo_packByte_6 : decode M_Mo_packByte.2.1 6 = .ok (.getfield 148, 3) := by decide +kernel
theorem d_Mo_packByte_9 : decode M_Mo_packByte.2.1 9 = .ok (.if_icmp .ge 12, 3) := by decide +kernel
theorem d_Mo_packByte_12 : decode M_Mo_packByte.2.1 12 = .ok (.aload_n 0, 1) := by decide +kernel
theorem d_Mo_packByte_13 : decode M_Mo_packByte.2.1 13 = .ok (.getfield 50, 3) := by decide +kernel
theorem d_Mo_packByte_16 : decode M_Mo_packByte.2.1 16 = .ok (.iload_n 1, 1) := by decide +kernel
theorem d_Mo_packByte_17 : decode M_Mo_packByte.2.1 17 = .ok (.iaload, 1) := by decide +kernel
theorem d_Mo_packByte_18 : decode M_Mo_packByte.2.1 18 = .ok (.goto 4, 3) := by decide +kernel
theorem d_Mo_packByte_21 : decode M_Mo_packByte.2.1 21 = .ok (.iconst (-1), 1) := by decide +kernel
theorem d_Mo_packByte_22 : decode M_Mo_packByte.2.1 22 = .ok (.ireturn, 1) := by decide +kernel
def f_Mo_packByte (x0 : Nat) (x1 : Int32) (c : cM) (K : Int32 → cM → Prop) : Prop :=
  ((x1 < 0) → (K (-1) c)) ∧ (¬ (x1 < 0) → (kd x0 = 7 ∧ ((((c x0 17) ≤ x1) → (K (-1) c)) ∧ (¬ ((c x0 17) ≤ x1) → (kd (rf x0 18) = 100 ∧ (vp_in x1 (ln (rf x0 18)) ∧ (K (c (rf x0 18) (Int32.toNatClampNeg x1)) c)))))))
theorem c_Mo_packByte {x0 : Nat} {x1 : Int32} {c : cM} {K : Int32 → cM → Prop} (h : f_Mo_packByte x0 x1 c K) : Ct M_Mo_packByte 0 0 0 (wd c) [.ref x0, .int x1] (PoI K) := by
  refine Ct.of (by decide +kernel) (Nat.le_of_ble_eq_true rfl) (fun Z T => ?_)
  have F := T.F
  unfold f_Mo_packByte at h
  show Z (wd c) 0 [(0, .ref x0), (1, .int x1)] [] 0 0
  refine g_iload_n F (pc := 0) d_Mo_packByte_0 1 rfl ?_
  refine g_if_lt (tgt := 21) F (pc := 1) d_Mo_packByte_1 (by decide) (fun b1 => ?_) (fun b1 => ?_)
  · replace h := h.1 b1
    refine g_iconst (v := (-1)) F (pc := 21) d_Mo_packByte_21 (by decide) ?_
    exact g_iret T (pc := 22) d_Mo_packByte_22 rfl (Nat.le_refl _) (Nat.le_refl _) (poI h)
  · replace h := h.2 b1
    refine g_iload_n F (pc := 4) d_Mo_packByte_4 1 rfl (g_aload_n F (pc := 5) d_Mo_packByte_5 0 rfl ?_)
    obtain ⟨o2, h⟩ := h
    refine gc_getI F (pc := 6) d_Mo_packByte_6 fi_Mo_148 o2 ?_
    refine g_icmp_ge (tgt := 21) F (pc := 9) d_Mo_packByte_9 (by decide) (fun b3 => ?_) (fun b3 => ?_)
    · replace h := h.1 b3
      refine g_iconst (v := (-1)) F (pc := 21) d_Mo_packByte_21 (by decide) ?_
      exact g_iret T (pc := 22) d_Mo_packByte_22 rfl (Nat.le_refl _) (Nat.le_refl _) (poI h)
    · replace h := h.2 b3
      refine g_aload_n F (pc := 12) d_Mo_packByte_12 0 rfl (gc_getR F (pc := 13) d_Mo_packByte_13 fi_Mo_50 o2 (g_iload_n F (pc := 16) d_Mo_packByte_16 1 rfl ?_))
      obtain ⟨o4, h⟩ := h
      obtain ⟨o5, h⟩ := h
      refine gc_iald F (pc := 17) d_Mo_packByte_17 o4 o5 (g_goto (tgt := 22) F (pc := 18) d_Mo_packByte_18 (by decide) ?_)
      exact g_iret T (pc := 22) d_Mo_packByte_22 rfl (Nat.le_refl _) (Nat.le_refl _) (poI h)
theorem d_Mo_alter_0 : decode M_Mo_alter.2.1 0 = .ok (.iload_n 1, 1) := by decide +kernel
theorem d_Mo_alter_1 : decode M_Mo_alter.2.1 1 = .ok (.ifCond .lt 22, 3) := by decide +kernel
theorem d_Mo_alter_4 : decode M_Mo_alter.2.1 4 = .ok (.iload_n 1, 1) := by decide +kernel
theorem d_Mo_alter_5 : decode M_Mo_alter.2.1 5 = .ok (.aload_n 0, 1) := by decide +kernel
theorem d_Mo_alter_6 : decode M_Mo_alter.2.1 6 = .ok (.getfield 148, 3) := by decide +kernel
theorem d_Mo_alter_9 : decode M_Mo_alter.2.1 9 = .ok (.if_icmp .ge 14, 3) := by decide +kernel
theorem d_Mo_alter_12 : decode M_Mo_alter.2.1 12 = .ok (.iload_n 2, 1) := by decide +kernel
theorem d_Mo_alter_13 : decode M_Mo_alter.2.1 13 = .ok (.ifCond .lt 10, 3) := by decide +kernel
theorem d_Mo_alter_16 : decode M_Mo_alter.2.1 16 = .ok (.iload_n 2, 1) := by decide +kernel
theorem d_Mo_alter_17 : decode M_Mo_alter.2.1 17 = .ok (.sipush 255, 3) := by decide +kernel
theorem d_Mo_alter_20 : decode M_Mo_alter.2.1 20 = .ok (.if_icmp .le 5, 3) := by decide +kernel
theorem d_Mo_alter_23 : decode M_Mo_alter.2.1 23 = .ok (.iconst 0, 1) := by decide +kernel
theorem d_Mo_alter_24 : decode M_Mo_alter.2.1 24 = .ok (.ireturn, 1) := by decide +kernel
theorem d_Mo_alter_25 : decode M_Mo_alter.2.1 25 = .ok (.aload_n 0, 1) := by decide +kernel
theorem d_Mo_alter_26 : decode M_Mo_alter.2.1 26 = .ok (.getfield 50, 3) := by decide +kernel
theorem d_Mo_alter_29 : decode M_Mo_alter.2.1 29 = .ok (.iload_n 1, 1) := by decide +kernel
theorem d_Mo_alter_30 : decode M_Mo_alter.2.1 30 = .ok (.iload_n 2, 1) := by decide +kernel
theorem d_Mo_alter_31 : decode M_Mo_alter.2.1 31 = .ok (.iastore, 1) := by decide +kernel
theorem d_Mo_alter_32 : decode M_Mo_alter.2.1 32 = .ok (.iconst 1, 1) := by decide +kernel
theorem d_Mo_alter_33 : decode M_Mo_alter.2.1 33 = .ok (.ireturn, 1) := by decide +kernel
def f_Mo_alter (x0 : Nat) (x1 : Int32) (x2 : Int32) (c : cM) (K : Int32 → cM → Prop) : Prop :=
  ((x1 < 0) → (K 0 c)) ∧ (¬ (x1 < 0) → (kd x0 = 7 ∧ ((((c x0 17) ≤ x1) → (K 0 c)) ∧ (¬ ((c x0 17) ≤ x1) → (((x2 < 0) → (K 0 c)) ∧ (¬ (x2 < 0) → (((x2 ≤ 255) → (kd (rf x0 18) = 100 ∧ (vp_in x1 (ln (rf x0 18)) ∧ (∀ c8 : cM, c8 = c_up c (rf x0 18) (Int32.toNatClampNeg x1) x2 → (K 1 c8))))) ∧ (¬ (x2 ≤ 255) → (K 0 c)))))))))
theorem c_Mo_alter {x0 : Nat} {x1 : Int32} {x2 : Int32} {c : cM} {K : Int32 → cM → Prop} (h : f_Mo_alter x0 x1 x2 c K) : Ct M_Mo_alter 0 0 0 (wd c) [.ref x0, .int x1, .int x2] (PoI K) := by
  refine Ct.of (by decide +kernel) (Nat.le_of_ble_eq_true rfl) (fun Z T => ?_)
  have F := T.F
  unfold f_Mo_alter at h
  show Z (wd c) 0 [(0, .ref x0), (1, .int x1), (2, .int x2)] [] 0 0
  refine g_iload_n F (pc := 0) d_Mo_alter_0 1 rfl ?_
  refine g_if_lt (tgt := 23) F (pc := 1) d_Mo_alter_1 (by decide) (fun b1 => ?_) (fun b1 => ?_)
  · replace h := h.1 b1
    refine g_iconst (v := 0) F (pc := 23) d_Mo_alter_23 (by decide) ?_
    exact g_zret T (pc := 24) d_Mo_alter_24 rfl (by decide) (Nat.le_refl _) (Nat.le_refl _) (poI h)
  · replace h := h.2 b1
    refine g_iload_n F (pc := 4) d_Mo_alter_4 1 rfl (g_aload_n F (pc := 5) d_Mo_alter_5 0 rfl ?_)
    obtain ⟨o2, h⟩ := h
    refine gc_getI F (pc := 6) d_Mo_alter_6 fi_Mo_148 o2 ?_
    refine g_icmp_ge (tgt := 23) F (pc := 9) d_Mo_alter_9 (by decide) (fun b3 => ?_) (fun b3 => ?_)
    · replace h := h.1 b3
      refine g_iconst (v := 0) F (pc := 23) d_Mo_alter_23 (by decide) ?_
      exact g_zret T (pc := 24) d_Mo_alter_24 rfl (by decide) (Nat.le_refl _) (Nat.le_refl _) (poI h)
    · replace h := h.2 b3
      refine g_iload_n F (pc := 12) d_Mo_alter_12 2 rfl ?_
      refine g_if_lt (tgt := 23) F (pc := 13) d_Mo_alter_13 (by decide) (fun b4 => ?_) (fun b4 => ?_)
      · replace h := h.1 b4
        refine g_iconst (v := 0) F (pc := 23) d_Mo_alter_23 (by decide) ?_
        exact g_zret T (pc := 24) d_Mo_alter_24 rfl (by decide) (Nat.le_refl _) (Nat.le_refl _) (poI h)
      · replace h := h.2 b4
        refine g_iload_n F (pc := 16) d_Mo_alter_16 2 rfl (g_sipush (v := 255) F (pc := 17) d_Mo_alter_17 (by decide) ?_)
        refine g_icmp_le (tgt := 25) F (pc := 20) d_Mo_alter_20 (by decide) (fun b5 => ?_) (fun b5 => ?_)
        · replace h := h.1 b5
          refine g_aload_n F (pc := 25) d_Mo_alter_25 0 rfl (gc_getR F (pc := 26) d_Mo_alter_26 fi_Mo_50 o2 (g_iload_n F (pc := 29) d_Mo_alter_29 1 rfl (g_iload_n F (pc := 30) d_Mo_alter_30 2 rfl ?_)))
          obtain ⟨o6, h⟩ := h
          obtain ⟨o7, h⟩ := h
          refine gc_iast F (pc := 31) d_Mo_alter_31 o6 o7 ?_
          obtain ⟨c8, ec8⟩ : ∃ c8 : cM, c8 = c_up c (rf x0 18) (Int32.toNatClampNeg x1) x2 := ⟨_, rfl⟩
          rw [← ec8]
          replace h := h c8 ec8
          refine g_iconst (v := 1) F (pc := 32) d_Mo_alter_32 (by decide) ?_
          exact g_zret T (pc := 33) d_Mo_alter_33 rfl (by decide) (Nat.le_refl _) (Nat.le_refl _) (poI h)
        · replace h := h.2 b5
          refine g_iconst (v := 0) F (pc := 23) d_Mo_alter_23 (by decide) ?_
          exact g_zret T (pc := 24) d_Mo_alter_24 rfl (by decide) (Nat.le_refl _) (Nat.le_refl _) (poI h)
theorem d_Mo_cut_0 : decode M_Mo_cut.2.1 0 = .ok (.iload_n 1, 1) := by decide +kernel
theorem d_Mo_cut_1 : decode M_Mo_cut.2.1 1 = .ok (.iconst 1, 1) := by decide +kernel
theorem d_Mo_cut_2 : decode M_Mo_cut.2.1 2 = .ok (.if_icmp .lt 11, 3) := by decide +kernel
theorem d_Mo_cut_5 : decode M_Mo_cut.2.1 5 = .ok (.iload_n 1, 1) := by decide +kernel
theorem d_Mo_cut_6 : decode M_Mo_cut.2.1 6 = .ok (.aload_n 0, 1) := by decide +kernel
theorem d_Mo_cut_7 : decode M_Mo_cut.2.1 7 = .ok (.getfield 148, 3) := by decide +kernel
theorem d_Mo_cut_10 : decode M_Mo_cut.2.1 10 = .ok (.if_icmp .le 5, 3) := by decide +kernel
theorem d_Mo_cut_13 : decode M_Mo_cut.2.1 13 = .ok (.iconst 0, 1) := by decide +kernel
theorem d_Mo_cut_14 : decode M_Mo_cut.2.1 14 = .ok (.ireturn, 1) := by decide +kernel
theorem d_Mo_cut_15 : decode M_Mo_cut.2.1 15 = .ok (.aload_n 0, 1) := by decide +kernel
theorem d_Mo_cut_16 : decode M_Mo_cut.2.1 16 = .ok (.dup, 1) := by decide +kernel
theorem d_Mo_cut_17 : decode M_Mo_cut.2.1 17 = .ok (.getfield 148, 3) := by decide +kernel
theorem d_Mo_cut_20 : decode M_Mo_cut.2.1 20 = .ok (.iload_n 1, 1) := by decide +kernel
theorem d_Mo_cut_21 : decode M_Mo_cut.2.1 21 = .ok (.isub, 1) := by decide +kernel
theorem d_Mo_cut_22 : decode M_Mo_cut.2.1 22 = .ok (.putfield 148, 3) := by decide +kernel
theorem d_Mo_cut_25 : decode M_Mo_cut.2.1 25 = .ok (.iconst 1, 1) := by decide +kernel
theorem d_Mo_cut_26 : decode M_Mo_cut.2.1 26 = .ok (.ireturn, 1) := by decide +kernel
def f_Mo_cut (x0 : Nat) (x1 : Int32) (c : cM) (K : Int32 → cM → Prop) : Prop :=
  ((x1 < 1) → (K 0 c)) ∧ (¬ (x1 < 1) → (kd x0 = 7 ∧ (((x1 ≤ (c x0 17)) → (∀ c4 : cM, c4 = c_up c x0 17 ((c x0 17) - x1) → (K 1 c4))) ∧ (¬ (x1 ≤ (c x0 17)) → (K 0 c)))))
theorem c_Mo_cut {x0 : Nat} {x1 : Int32} {c : cM} {K : Int32 → cM → Prop} (h : f_Mo_cut x0 x1 c K) : Ct M_Mo_cut 0 0 0 (wd c) [.ref x0, .int x1] (PoI K) := by
  refine Ct.of (by decide +kernel) (Nat.le_of_ble_eq_true rfl) (fun Z T => ?_)
  have F := T.F
  unfold f_Mo_cut at h
  show Z (wd c) 0 [(0, .ref x0), (1, .int x1)] [] 0 0
  refine g_iload_n F (pc := 0) d_Mo_cut_0 1 rfl (g_iconst (v := 1) F (pc := 1) d_Mo_cut_1 (by decide) ?_)
  refine g_icmp_lt (tgt := 13) F (pc := 2) d_Mo_cut_2 (by decide) (fun b1 => ?_) (fun b1 => ?_)
  · replace h := h.1 b1
    refine g_iconst (v := 0) F (pc := 13) d_Mo_cut_13 (by decide) ?_
    exact g_zret T (pc := 14) d_Mo_cut_14 rfl (by decide) (Nat.le_refl _) (Nat.le_refl _) (poI h)
  · replace h := h.2 b1
    refine g_iload_n F (pc := 5) d_Mo_cut_5 1 rfl (g_aload_n F (pc := 6) d_Mo_cut_6 0 rfl ?_)
    obtain ⟨o2, h⟩ := h
    refine gc_getI F (pc := 7) d_Mo_cut_7 fi_Mo_148 o2 ?_
    refine g_icmp_le (tgt := 15) F (pc := 10) d_Mo_cut_10 (by decide) (fun b3 => ?_) (fun b3 => ?_)
    · replace h := h.1 b3
      refine g_aload_n F (pc := 15) d_Mo_cut_15 0 rfl (g_dup F (pc := 16) d_Mo_cut_16 rfl (gc_getI F (pc := 17) d_Mo_cut_17 fi_Mo_148 o2 (g_iload_n F (pc := 20) d_Mo_cut_20 1 rfl (g_isub F (pc := 21) d_Mo_cut_21 (gc_putI F (pc := 22) d_Mo_cut_22 pi_Mo_148 o2 ?_)))))
      obtain ⟨c4, ec4⟩ : ∃ c4 : cM, c4 = c_up c x0 17 ((c x0 17) - x1) := ⟨_, rfl⟩
      rw [← ec4]
      replace h := h c4 ec4
      refine g_iconst (v := 1) F (pc := 25) d_Mo_cut_25 (by decide) ?_
      exact g_zret T (pc := 26) d_Mo_cut_26 rfl (by decide) (Nat.le_refl _) (Nat.le_refl _) (poI h)
    · replace h := h.2 b3
      refine g_iconst (v := 0) F (pc := 13) d_Mo_cut_13 (by decide) ?_
      exact g_zret T (pc := 14) d_Mo_cut_14 rfl (by decide) (Nat.le_refl _) (Nat.le_refl _) (poI h)
theorem d_Mo_seal_0 : decode M_Mo_seal.2.1 0 = .ok (.aload_n 0, 1) := by decide +kernel
theorem d_Mo_seal_1 : decode M_Mo_seal.2.1 1 = .ok (.getfield 148, 3) := by decide +kernel
theorem d_Mo_seal_4 : decode M_Mo_seal.2.1 4 = .ok (.bipush 20, 2) := by decide +kernel
theorem d_Mo_seal_6 : decode M_Mo_seal.2.1 6 = .ok (.if_icmp .ge 5, 3) := by decide +kernel
theorem d_Mo_seal_9 : decode M_Mo_seal.2.1 9 = .ok (.iconst 0, 1) := by decide +kernel
theorem d_Mo_seal_10 : decode M_Mo_seal.2.1 10 = .ok (.ireturn, 1) := by decide +kernel
theorem d_Mo_seal_11 : decode M_Mo_seal.2.1 11 = .ok (.aload_n 0, 1) := by decide +kernel
theorem d_Mo_seal_12 : decode M_Mo_seal.2.1 12 = .ok (.invokevirtual 171, 3) := by decide +kernel
theorem d_Mo_seal_15 : decode M_Mo_seal.2.1 15 = .ok (.iconst 1, 1) := by decide +kernel
theorem d_Mo_seal_16 : decode M_Mo_seal.2.1 16 = .ok (.ireturn, 1) := by decide +kernel
def f_Mo_seal (x0 : Nat) (c : cM) (K : Int32 → cM → Prop) : Prop :=
  kd x0 = 7 ∧ (((20 ≤ (c x0 17)) → (f_Mo_sealPack x0 c (fun c3 => K 1 c3))) ∧ (¬ (20 ≤ (c x0 17)) → (K 0 c)))
theorem c_Mo_seal {x0 : Nat} {c : cM} {K : Int32 → cM → Prop} (h : f_Mo_seal x0 c K) : Ct M_Mo_seal 4 0 0 (wd c) [.ref x0] (PoI K) := by
  refine Ct.of (by decide +kernel) (Nat.le_of_ble_eq_true rfl) (fun Z T => ?_)
  have F := T.F
  unfold f_Mo_seal at h
  show Z (wd c) 0 [(0, .ref x0)] [] 0 0
  refine g_aload_n F (pc := 0) d_Mo_seal_0 0 rfl ?_
  obtain ⟨o1, h⟩ := h
  refine gc_getI F (pc := 1) d_Mo_seal_1 fi_Mo_148 o1 (g_bipush (v := 20) F (pc := 4) d_Mo_seal_4 (by decide) ?_)
  refine g_icmp_ge (tgt := 11) F (pc := 6) d_Mo_seal_6 (by decide) (fun b2 => ?_) (fun b2 => ?_)
  · replace h := h.1 b2
    refine g_aload_n F (pc := 11) d_Mo_seal_11 0 rfl ?_
    refine gc_callVV (As := []) (st := []) F (pc := 12) d_Mo_seal_12 cb_Mo_171 iv_Mo_sealPack np_Mo_sealPack o1 vc_7 (c_Mo_sealPack h) rfl (by decide) (Nat.le_refl _) (Nat.le_refl _) (Nat.le_of_ble_eq_true rfl) (fun c3 h => ?_)
    refine g_iconst (v := 1) F (pc := 15) d_Mo_seal_15 (by decide) ?_
    exact g_zret T (pc := 16) d_Mo_seal_16 rfl (by decide) (Nat.le_refl _) (Nat.le_refl _) (poI h)
  · replace h := h.2 b2
    refine g_iconst (v := 0) F (pc := 9) d_Mo_seal_9 (by decide) ?_
    exact g_zret T (pc := 10) d_Mo_seal_10 rfl (by decide) (Nat.le_refl _) (Nat.le_refl _) (poI h)
theorem d_Mo_next_0 : decode M_Mo_next.2.1 0 = .ok (.aload_n 0, 1) := by decide +kernel
theorem d_Mo_next_1 : decode M_Mo_next.2.1 1 = .ok (.getfield 174, 3) := by decide +kernel
theorem d_Mo_next_4 : decode M_Mo_next.2.1 4 = .ok (.ifCond .ne 20, 3) := by decide +kernel
theorem d_Mo_next_7 : decode M_Mo_next.2.1 7 = .ok (.aload_n 0, 1) := by decide +kernel
theorem d_Mo_next_8 : decode M_Mo_next.2.1 8 = .ok (.getfield 177, 3) := by decide +kernel
theorem d_Mo_next_11 : decode M_Mo_next.2.1 11 = .ok (.aload_n 0, 1) := by decide +kernel
theorem d_Mo_next_12 : decode M_Mo_next.2.1 12 = .ok (.getfield 180, 3) := by decide +kernel
theorem d_Mo_next_15 : decode M_Mo_next.2.1 15 = .ok (.if_icmp .ne 9, 3) := by decide +kernel
theorem d_Mo_next_18 : decode M_Mo_next.2.1 18 = .ok (.aload_n 0, 1) := by decide +kernel
theorem d_Mo_next_19 : decode M_Mo_next.2.1 19 = .ok (.bipush (-5), 2) := by decide +kernel
theorem d_Mo_next_21 : decode M_Mo_next.2.1 21 = .ok (.putfield 174, 3) := by decide +kernel
theorem d_Mo_next_24 : decode M_Mo_next.2.1 24 = .ok (.aload_n 0, 1) := by decide +kernel
theorem d_Mo_next_25 : decode M_Mo_next.2.1 25 = .ok (.getfield 174, 3) := by decide +kernel
theorem d_Mo_next_28 : decode M_Mo_next.2.1 28 = .ok (.ifCond .eq 5, 3) := by decide +kernel
theorem d_Mo_next_31 : decode M_Mo_next.2.1 31 = .ok (.iconst 0, 1) := by decide +kernel
theorem d_Mo_next_32 : decode M_Mo_next.2.1 32 = .ok (.ireturn, 1) := by decide +kernel
theorem d_Mo_next_33 : decode M_Mo_next.2.1 33 = .ok (.aload_n 0, 1) := by decide +kernel
theorem d_Mo_next_34 : decode M_Mo_next.2.1 34 = .ok (.dup, 1) := by decide +kernel
theorem d_Mo_next_35 : decode M_Mo_next.2.1 35 = .ok (.getfield 177, 3) := by decide +kernel
theorem d_Mo_next_38 : decode M_Mo_next.2.1 38 = .ok (.iconst 1, 1) := by decide +kernel
theorem d_Mo_next_39 : decode M_Mo_next.2.1 39 = .ok (.iadd, 1) := by decide +kernel
theorem d_Mo_next_40 : decode M_Mo_next.2.1 40 = .ok (.putfield 177, 3) := by decide +kernel
theorem d_Mo_next_43 : decode M_Mo_next.2.1 43 = .ok (.aload_n 0, 1) := by decide +kernel
theorem d_Mo_next_44 : decode M_Mo_next.2.1 44 = .ok (.getfield 50, 3) := by decide +kernel
theorem d_Mo_next_47 : decode M_Mo_next.2.1 47 = .ok (.aload_n 0, 1) := by decide +kernel
theorem d_Mo_next_48 : decode M_Mo_next.2.1 48 = .ok (.getfield 177, 3) := by decide +kernel
theorem d_Mo_next_51 : decode M_Mo_next.2.1 51 = .ok (.iconst 1, 1) := by decide +kernel
theorem d_Mo_next_52 : decode M_Mo_next.2.1 52 = .ok (.isub, 1) := by decide +kernel
theorem d_Mo_next_53 : decode M_Mo_next.2.1 53 = .ok (.iaload, 1) := by decide +kernel
theorem d_Mo_next_54 : decode M_Mo_next.2.1 54 = .ok (.ireturn, 1) := by decide +kernel
def f_Mo_next (x0 : Nat) (c : cM) (K : Int32 → cM → Prop) : Prop :=
  kd x0 = 7 ∧ (∃ J6 : cM → Prop, (∀ (c5 : cM), J6 c5 → ((((c5 x0 22) = 0) → (∀ c9 : cM, c9 = c_up c5 x0 20 ((c5 x0 20) + 1) → (kd (rf x0 18) = 100 ∧ (vp_in ((c9 x0 20) - 1) (ln (rf x0 18)) ∧ (K (c9 (rf x0 18) (Int32.toNatClampNeg ((c9 x0 20) - 1))) c9))))) ∧ (¬ ((c5 x0 22) = 0) → (K 0 c5)))) ∧ (((¬ (c x0 22) = 0) → (J6 c)) ∧ ((c x0 22) = 0 → (((¬ (c x0 20) = (c x0 21)) → (J6 c)) ∧ ((c x0 20) = (c x0 21) → (∀ c13 : cM, c13 = c_up c x0 22 (-5) → (J6 c13)))))))
theorem c_Mo_next {x0 : Nat} {c : cM} {K : Int32 → cM → Prop} (h : f_Mo_next x0 c K) : Ct M_Mo_next 0 0 0 (wd c) [.ref x0] (PoI K) := by
  refine Ct.of (by decide +kernel) (Nat.le_of_ble_eq_true rfl) (fun Z T => ?_)
  have F := T.F
  unfold f_Mo_next at h
  show Z (wd c) 0 [(0, .ref x0)] [] 0 0
  refine g_aload_n F (pc := 0) d_Mo_next_0 0 rfl ?_
  obtain ⟨o1, h⟩ := h
  refine gc_getI F (pc := 1) d_Mo_next_1 fi_Mo_174 o1 ?_
  obtain ⟨J6, hJ6, h⟩ := h
  have jn7 : ∀ (c5 : cM), J6 c5 → Z (wd c5) 24 [(0, .ref x0)] [] 0 0 := by
    intro c5 h
    replace h := hJ6 c5 h
    refine g_aload_n F (pc := 24) d_Mo_next_24 0 rfl (gc_getI F (pc := 25) d_Mo_next_25 fi_Mo_174 o1 ?_)
    refine g_if_eq (tgt := 33) F (pc := 28) d_Mo_next_28 (by decide) (fun b8 => ?_) (fun b8 => ?_)
    · replace h := h.1 b8
      refine g_aload_n F (pc := 33) d_Mo_next_33 0 rfl (g_dup F (pc := 34) d_Mo_next_34 rfl (gc_getI F (pc := 35) d_Mo_next_35 fi_Mo_177 o1 (g_iconst (v := 1) F (pc := 38) d_Mo_next_38 (by decide) (g_iadd F (pc := 39) d_Mo_next_39 (gc_putI F (pc := 40) d_Mo_next_40 pi_Mo_177 o1 ?_)))))
      obtain ⟨c9, ec9⟩ : ∃ c9 : cM, c9 = c_up c5 x0 20 ((c5 x0 20) + 1) := ⟨_, rfl⟩
      rw [← ec9]
      replace h := h c9 ec9
      refine g_aload_n F (pc := 43) d_Mo_next_43 0 rfl (gc_getR F (pc := 44) d_Mo_next_44 fi_Mo_50 o1 (g_aload_n F (pc := 47) d_Mo_next_47 0 rfl (gc_getI F (pc := 48) d_Mo_next_48 fi_Mo_177 o1 (g_iconst (v := 1) F (pc := 51) d_Mo_next_51 (by decide) (g_isub F (pc := 52) d_Mo_next_52 ?_)))))
      obtain ⟨o10, h⟩ := h
      obtain ⟨o11, h⟩ := h
      refine gc_iald F (pc := 53) d_Mo_next_53 o10 o11 ?_
      exact g_iret T (pc := 54) d_Mo_next_54 rfl (Nat.le_refl _) (Nat.le_refl _) (poI h)
    · replace h := h.2 b8
      refine g_iconst (v := 0) F (pc := 31) d_Mo_next_31 (by decide) ?_
      exact g_iret T (pc := 32) d_Mo_next_32 rfl (Nat.le_refl _) (Nat.le_refl _) (poI h)
  refine g_if_ne (tgt := 24) F (pc := 4) d_Mo_next_4 (by decide) (fun b2 => ?_) (fun b2 => ?_)
  · replace h := h.1 b2
    exact jn7 _ h
  · replace h := h.2 b2
    refine g_aload_n F (pc := 7) d_Mo_next_7 0 rfl (gc_getI F (pc := 8) d_Mo_next_8 fi_Mo_177 o1 (g_aload_n F (pc := 11) d_Mo_next_11 0 rfl (gc_getI F (pc := 12) d_Mo_next_12 fi_Mo_180 o1 ?_)))
    refine g_icmp_ne (tgt := 24) F (pc := 15) d_Mo_next_15 (by decide) (fun b12 => ?_) (fun b12 => ?_)
    · replace h := h.1 b12
      exact jn7 _ h
    · replace h := h.2 b12
      refine g_aload_n F (pc := 18) d_Mo_next_18 0 rfl (g_bipush (v := (-5)) F (pc := 19) d_Mo_next_19 (by decide) (gc_putI F (pc := 21) d_Mo_next_21 pi_Mo_174 o1 ?_))
      obtain ⟨c13, ec13⟩ : ∃ c13 : cM, c13 = c_up c x0 22 (-5) := ⟨_, rfl⟩
      rw [← ec13]
      replace h := h c13 ec13
      exact jn7 _ h
theorem d_Mo_expect_0 : decode M_Mo_expect.2.1 0 = .ok (.aload_n 0, 1) := by decide +kernel
theorem d_Mo_expect_1 : decode M_Mo_expect.2.1 1 = .ok (.invokevirtual 183, 3) := by decide +kernel
theorem d_Mo_expect_4 : decode M_Mo_expect.2.1 4 = .ok (.istore_n 2, 1) := by decide +kernel
theorem d_Mo_expect_5 : decode M_Mo_expect.2.1 5 = .ok (.aload_n 0, 1) := by decide +kernel
theorem d_Mo_expect_6 : decode M_Mo_expect.2.1 6 = .ok (.getfield 174, 3) := by decide +kernel
theorem d_Mo_expect_9 : decode M_Mo_expect.2.1 9 = .ok (.ifCond .ne 18, 3) := by decide +kernel
theorem d_Mo_expect_12 : decode M_Mo_expect.2.1 12 = .ok (.iload_n 2, 1) := by decide +kernel
theorem d_Mo_expect_13 : decode M_Mo_expect.2.1 13 = .ok (.iload_n 1, 1) := by decide +kernel
theorem d_Mo_expect_14 : decode M_Mo_expect.2.1 14 = .ok (.sipush 255, 3) := by decide +kernel
theorem d_Mo_expect_17 : decode M_Mo_expect.2.1 17 = .ok (.iand, 1) := by decide +kernel
theorem d_Mo_expect_18 : decode M_Mo_expect.2.1 18 = .ok (.if_icmp .eq 9, 3) := by decide +kernel
theorem d_Mo_expect_21 : decode M_Mo_expect.2.1 21 = .ok (.aload_n 0, 1) := by decide +kernel
theorem d_Mo_expect_22 : decode M_Mo_expect.2.1 22 = .ok (.bipush (-9), 2) := by decide +kernel
theorem d_Mo_expect_24 : decode M_Mo_expect.2.1 24 = .ok (.putfield 174, 3) := by decide +kernel
theorem d_Mo_expect_27 : decode M_Mo_expect.2.1 27 = .ok (.return_, 1) := by decide +kernel
def f_Mo_expect (x0 : Nat) (x1 : Int32) (c : cM) (K : cM → Prop) : Prop :=
  kd x0 = 7 ∧ (f_Mo_next x0 c (fun v3 c2 => ((¬ (c2 x0 22) = 0) → (K c2)) ∧ ((c2 x0 22) = 0 → (((v3 = (x1 &&& 255)) → (K c2)) ∧ (¬ (v3 = (x1 &&& 255)) → (∀ c6 : cM, c6 = c_up c2 x0 22 (-9) → (K c6)))))))
theorem c_Mo_expect {x0 : Nat} {x1 : Int32} {c : cM} {K : cM → Prop} (h : f_Mo_expect x0 x1 c K) : Ct M_Mo_expect 1 0 0 (wd c) [.ref x0, .int x1] (PoV K) := by
  refine Ct.of (by decide +kernel) (Nat.le_of_ble_eq_true rfl) (fun Z T => ?_)
  have F := T.F
  unfold f_Mo_expect at h
  show Z (wd c) 0 [(0, .ref x0), (1, .int x1)] [] 0 0
  refine g_aload_n F (pc := 0) d_Mo_expect_0 0 rfl ?_
  obtain ⟨o1, h⟩ := h
  refine gc_callVI (As := []) (st := []) F (pc := 1) d_Mo_expect_1 cb_Mo_183 iv_Mo_next np_Mo_next o1 vc_7 (c_Mo_next h) rfl (by decide) (Nat.le_refl _) (Nat.le_refl _) (Nat.le_of_ble_eq_true rfl) (fun v3 c2 h => ?_)
  refine g_istore_n (lv' := [(2, .int v3), (0, .ref x0), (1, .int x1)]) F (pc := 4) d_Mo_expect_4 (by decide) rfl (g_aload_n F (pc := 5) d_Mo_expect_5 1 rfl (gc_getI F (pc := 6) d_Mo_expect_6 fi_Mo_174 o1 ?_))
  refine g_if_ne (tgt := 27) F (pc := 9) d_Mo_expect_9 (by decide) (fun b4 => ?_) (fun b4 => ?_)
  · replace h := h.1 b4
    exact g_vret T (pc := 27) d_Mo_expect_27 rfl (Nat.le_refl _) (Nat.le_refl _) (poV h)
  · replace h := h.2 b4
    refine g_iload_n F (pc := 12) d_Mo_expect_12 0 rfl (g_iload_n F (pc := 13) d_Mo_expect_13 2 rfl (g_sipush (v := 255) F (pc := 14) d_Mo_expect_14 (by decide) (g_iand F (pc := 17) d_Mo_expect_17 ?_)))
    refine g_icmp_eq (tgt := 27) F (pc := 18) d_Mo_expect_18 (by decide) (fun b5 => ?_) (fun b5 => ?_)
    · replace h := h.1 b5
      exact g_vret T (pc := 27) d_Mo_expect_27 rfl (Nat.le_refl _) (Nat.le_refl _) (poV h)
    · replace h := h.2 b5
      refine g_aload_n F (pc := 21) d_Mo_expect_21 1 rfl (g_bipush (v := (-9)) F (pc := 22) d_Mo_expect_22 (by decide) (gc_putI F (pc := 24) d_Mo_expect_24 pi_Mo_174 o1 ?_))
      obtain ⟨c6, ec6⟩ : ∃ c6 : cM, c6 = c_up c2 x0 22 (-9) := ⟨_, rfl⟩
      rw [← ec6]
      replace h := h c6 ec6
      exact g_vret T (pc := 27) d_Mo_expect_27 rfl (Nat.le_refl _) (Nat.le_refl _) (poV h)
theorem d_Mo_isSealed_0 : decode M_Mo_isSealed.2.1 0 = .ok (.aload_n 0, 1) := by decide +kernel
theorem d_Mo_isSealed_1 : decode M_Mo_isSealed.2.1 1 = .ok (.iconst 0, 1) := by decide +kernel
theorem d_Mo_isSealed_2 : decode M_Mo_isSealed.2.1 2 = .ok (.putfield 59, 3) := by decide +kernel
theorem d_Mo_isSealed_5 : decode M_Mo_isSealed.2.1 5 = .ok (.iconst 0, 1) := by decide +kernel
theorem d_Mo_isSealed_6 : decode M_Mo_isSealed.2.1 6 = .ok (.istore_n 1, 1) := by decide +kernel
theorem d_Mo_isSealed_7 : decode M_Mo_isSealed.2.1 7 = .ok (.iload_n 1, 1) := by decide +kernel
theorem d_Mo_isSealed_8 : decode M_Mo_isSealed.2.1 8 = .ok (.aload_n 0, 1) := by decide +kernel
theorem d_Mo_isSealed_9 : decode M_Mo_isSealed.2.1 9 = .ok (.getfield 148, 3) := by decide +kernel
theorem d_Mo_isSealed_12 : decode M_Mo_isSealed.2.1 12 = .ok (.bipush 20, 2) := by decide +kernel
theorem d_Mo_isSealed_14 : decode M_Mo_isSealed.2.1 14 = .ok (.isub, 1) := by decide +kernel
theorem d_Mo_isSealed_15 : decode M_Mo_isSealed.2.1 15 = .ok (.if_icmp .ge 19, 3) := by decide +kernel
theorem d_Mo_isSealed_18 : decode M_Mo_isSealed.2.1 18 = .ok (.aload_n 0, 1) := by decide +kernel
theorem d_Mo_isSealed_19 : decode M_Mo_isSealed.2.1 19 = .ok (.aload_n 0, 1) := by decide +kernel
theorem d_Mo_isSealed_20 : decode M_Mo_isSealed.2.1 20 = .ok (.getfield 50, 3) := by decide +kernel
theorem d_Mo_isSealed_23 : decode M_Mo_isSealed.2.1 23 = .ok (.iload_n 1, 1) := by decide +kernel
theorem d_Mo_isSealed_24 : decode M_Mo_isSealed.2.1 24 = .ok (.iaload, 1) := by decide +kernel
theorem d_Mo_isSealed_25 : decode M_Mo_isSealed.2.1 25 = .ok (.invokevirtual 63, 3) := by decide +kernel
theorem d_Mo_isSealed_28 : decode M_Mo_isSealed.2.1 28 = .ok (.iinc 1 1, 3) := by decide +kernel
theorem d_Mo_isSealed_31 : decode M_Mo_isSealed.2.1 31 = .ok (.goto (-24), 3) := by decide +kernel
theorem d_Mo_isSealed_34 : decode M_Mo_isSealed.2.1 34 = .ok (.aload_n 0, 1) := by decide +kernel
theorem d_Mo_isSealed_35 : decode M_Mo_isSealed.2.1 35 = .ok (.invokevirtual 90, 3) := by decide +kernel
theorem d_Mo_isSealed_38 : decode M_Mo_isSealed.2.1 38 = .ok (.iconst 1, 1) := by decide +kernel
theorem d_Mo_isSealed_39 : decode M_Mo_isSealed.2.1 39 = .ok (.istore_n 1, 1) := by decide +kernel
theorem d_Mo_isSealed_40 : decode M_Mo_isSealed.2.1 40 = .ok (.iconst 0, 1) := by decide +kernel
theorem d_Mo_isSealed_41 : decode M_Mo_isSealed.2.1 41 = .ok (.istore_n 2, 1) := by decide +kernel
theorem d_Mo_isSealed_42 : decode M_Mo_isSealed.2.1 42 = .ok (.iload_n 2, 1) := by decide +kernel
theorem d_Mo_isSealed_43 : decode M_Mo_isSealed.2.1 43 = .ok (.bipush 20, 2) := by decide +kernel
theorem d_Mo_isSealed_45 : decode M_Mo_isSealed.2.1 45 = .ok (.if_icmp .ge 58, 3) := by decide +kernel
theorem d_Mo_isSealed_48 : decode M_Mo_isSealed.2.1 48 = .ok (.iload_n 1, 1) := by decide +kernel
theorem d_Mo_isSealed_49 : decode M_Mo_isSealed.2.1 49 = .ok (.ifCond .eq 46, 3) := by decide +kernel
theorem d_Mo_isSealed_52 : decode M_Mo_isSealed.2.1 52 = .ok (.aload_n 0, 1) := by decide +kernel
theorem d_Mo_isSealed_53 : decode M_Mo_isSealed.2.1 53 = .ok (.getfield 50, 3) := by decide +kernel
theorem d_Mo_isSealed_56 : decode M_Mo_isSealed.2.1 56 = .ok (.aload_n 0, 1) := by decide +kernel
theorem d_Mo_isSealed_57 : decode M_Mo_isSealed.2.1 57 = .ok (.getfield 148, 3) := by decide +kernel
theorem d_Mo_isSealed_60 : decode M_Mo_isSealed.2.1 60 = .ok (.bipush 20, 2) := by decide +kernel
theorem d_Mo_isSealed_62 : decode M_Mo_isSealed.2.1 62 = .ok (.isub, 1) := by decide +kernel
theorem d_Mo_isSealed_63 : decode M_Mo_isSealed.2.1 63 = .ok (.iload_n 2, 1) := by decide +kernel
theorem d_Mo_isSealed_64 : decode M_Mo_isSealed.2.1 64 = .ok (.iadd, 1) := by decide +kernel
theorem d_Mo_isSealed_65 : decode M_Mo_isSealed.2.1 65 = .ok (.iaload, 1) := by decide +kernel
theorem d_Mo_isSealed_66 : decode M_Mo_isSealed.2.1 66 = .ok (.aload_n 0, 1) := by decide +kernel
theorem d_Mo_isSealed_67 : decode M_Mo_isSealed.2.1 67 = .ok (.getfield 47, 3) := by decide +kernel
theorem d_Mo_isSealed_70 : decode M_Mo_isSealed.2.1 70 = .ok (.iload_n 2, 1) := by decide +kernel
theorem d_Mo_isSealed_71 : decode M_Mo_isSealed.2.1 71 = .ok (.iconst 4, 1) := by decide +kernel
theorem d_Mo_isSealed_72 : decode M_Mo_isSealed.2.1 72 = .ok (.idiv, 1) := by decide +kernel
theorem d_Mo_isSealed_73 : decode M_Mo_isSealed.2.1 73 = .ok (.iaload, 1) := by decide +kernel
theorem d_Mo_isSealed_74 : decode M_Mo_isSealed.2.1 74 = .ok (.bipush 24, 2) := by decide +kernel
theorem d_Mo_isSealed_76 : decode M_Mo_isSealed.2.1 76 = .ok (.bipush 8, 2) := by decide +kernel
theorem d_Mo_isSealed_78 : decode M_Mo_isSealed.2.1 78 = .ok (.iload_n 2, 1) := by decide +kernel
theorem d_Mo_isSealed_79 : decode M_Mo_isSealed.2.1 79 = .ok (.iconst 4, 1) := by decide +kernel
theorem d_Mo_isSealed_80 : decode M_Mo_isSealed.2.1 80 = .ok (.irem, 1) := by decide +kernel
theorem d_Mo_isSealed_81 : decode M_Mo_isSealed.2.1 81 = .ok (.imul, 1) := by decide +kernel
theorem d_Mo_isSealed_82 : decode M_Mo_isSealed.2.1 82 = .ok (.isub, 1) := by decide +kernel
theorem d_Mo_isSealed_83 : decode M_Mo_isSealed.2.1 83 = .ok (.iushr, 1) := by decide +kernel
theorem d_Mo_isSealed_84 : decode M_Mo_isSealed.2.1 84 = .ok (.sipush 255, 3) := by decide +kernel
theorem d_Mo_isSealed_87 : decode M_Mo_isSealed.2.1 87 = .ok (.iand, 1) := by decide +kernel
theorem d_Mo_isSealed_88 : decode M_Mo_isSealed.2.1 88 = .ok (.if_icmp .ne 7, 3) := by decide +kernel
theorem d_Mo_isSealed_91 : decode M_Mo_isSealed.2.1 91 = .ok (.iconst 1, 1) := by decide +kernel
theorem d_Mo_isSealed_92 : decode M_Mo_isSealed.2.1 92 = .ok (.goto 4, 3) := by decide +kernel
theorem d_Mo_isSealed_95 : decode M_Mo_isSealed.2.1 95 = .ok (.iconst 0, 1) := by decide +kernel
theorem d_Mo_isSealed_96 : decode M_Mo_isSealed.2.1 96 = .ok (.istore_n 1, 1) := by decide +kernel
theorem d_Mo_isSealed_97 : decode M_Mo_isSealed.2.1 97 = .ok (.iinc 2 1, 3) := by decide +kernel
theorem d_Mo_isSealed_100 : decode M_Mo_isSealed.2.1 100 = .ok (.goto (-58), 3) := by decide +kernel
theorem d_Mo_isSealed_103 : decode M_Mo_isSealed.2.1 103 = .ok (.iload_n 1, 1) := by decide +kernel
theorem d_Mo_isSealed_104 : decode M_Mo_isSealed.2.1 104 = .ok (.ireturn, 1) := by decide +kernel
def f_Mo_isSealed (x0 : Nat) (c : cM) (K : Int32 → cM → Prop) : Prop :=
  kd x0 = 7 ∧ (∀ c2 : cM, c2 = c_up c x0 13 0 → (∃ I3 : Nat → Int32 → cM → Prop, (∃ n, I3 n 0 c2) ∧ ∀ (n4 : Nat) (y7 : Int32) (c8 : cM), I3 n4 y7 c8 → (((((c8 x0 17) - 20) ≤ y7) → (f_Mo_sum x0 c8 (fun c10 => ∃ I11 : Nat → Int32 → Int32 → Prop, (∃ n, I11 n 1 0) ∧ ∀ (n12 : Nat) (y15 : Int32) (y16 : Int32), I11 n12 y15 y16 → (((20 ≤ y16) → (bz y15 ∧ (K y15 c10))) ∧ (¬ (20 ≤ y16) → (∃ J26 : Int32 → Prop, (∀ (s25 : Int32), J26 s25 → (∃ m, m < n12 ∧ I11 m s25 (y16 + 1))) ∧ (∃ J33 : Prop, (J33  → (J26 0)) ∧ (((y15 = 0) → (J33)) ∧ (¬ (y15 = 0) → (kd (rf x0 18) = 100 ∧ (vp_in (((c10 x0 17) - 20) + y16) (ln (rf x0 18)) ∧ (kd (rf x0 16) = 100 ∧ (vp_in (y16 / 4) (ln (rf x0 16)) ∧ (((¬ (c10 (rf x0 18) (Int32.toNatClampNeg (((c10 x0 17) - 20) + y16))) = ((c_ushr (c10 (rf x0 16) (Int32.toNatClampNeg (y16 / 4))) (24 - (8 * (c_rem y16 4)))) &&& 255)) → (J33)) ∧ ((c10 (rf x0 18) (Int32.toNatClampNeg (((c10 x0 17) - 20) + y16))) = ((c_ushr (c10 (rf x0 16) (Int32.toNatClampNeg (y16 / 4))) (24 - (8 * (c_rem y16 4)))) &&& 255) → (J26 1)))))))))))))))) ∧ (¬ (((c8 x0 17) - 20) ≤ y7) → (kd (rf x0 18) = 100 ∧ (vp_in y7 (ln (rf x0 18)) ∧ (f_Mo_put x0 (c8 (rf x0 18) (Int32.toNatClampNeg y7)) c8 (fun c42 => ∃ m, m < n4 ∧ I3 m (y7 + 1) c42))))))))
theorem c_Mo_isSealed {x0 : Nat} {c : cM} {K : Int32 → cM → Prop} (h : f_Mo_isSealed x0 c K) : Ct M_Mo_isSealed 3 0 0 (wd c) [.ref x0] (PoI K) := by
  refine Ct.of (by decide +kernel) (Nat.le_of_ble_eq_true rfl) (fun Z T => ?_)
  have F := T.F
  unfold f_Mo_isSealed at h
  show Z (wd c) 0 [(0, .ref x0)] [] 0 0
  refine g_aload_n F (pc := 0) d_Mo_isSealed_0 0 rfl (g_iconst (v := 0) F (pc := 1) d_Mo_isSealed_1 (by decide) ?_)
  obtain ⟨o1, h⟩ := h
  refine gc_putI F (pc := 2) d_Mo_isSealed_2 pi_Mo_59 o1 ?_
  obtain ⟨c2, ec2⟩ : ∃ c2 : cM, c2 = c_up c x0 13 0 := ⟨_, rfl⟩
  rw [← ec2]
  replace h := h c2 ec2
  refine g_iconst (v := 0) F (pc := 5) d_Mo_isSealed_5 (by decide) (g_istore_n (lv' := [(1, .int 0), (0, .ref x0)]) F (pc := 6) d_Mo_isSealed_6 (by decide) rfl ?_)
  refine g_lv (lv' := [(0, .ref x0), (1, .int 0)]) F [1, 0] rfl ?_
  obtain ⟨I3, ⟨n0, h⟩, hI3⟩ := h
  have lp6 : ∀ (n4 : Nat) (y7 : Int32) (c8 : cM), I3 n4 y7 c8 → Z (wd c8) 7 [(0, .ref x0), (1, .int y7)] [] 0 0 := by
    intro n4
    induction n4 using Nat.strongRecOn with
    | _ n4 ih5 =>
      intro y7 c8 h
      replace h := hI3 n4 y7 c8 h
      refine g_iload_n F (pc := 7) d_Mo_isSealed_7 1 rfl (g_aload_n F (pc := 8) d_Mo_isSealed_8 0 rfl (gc_getI F (pc := 9) d_Mo_isSealed_9 fi_Mo_148 o1 (g_bipush (v := 20) F (pc := 12) d_Mo_isSealed_12 (by decide) (g_isub F (pc := 14) d_Mo_isSealed_14 ?_))))
      refine g_icmp_ge (tgt := 34) F (pc := 15) d_Mo_isSealed_15 (by decide) (fun b9 => ?_) (fun b9 => ?_)
      · replace h := h.1 b9
        refine g_aload_n F (pc := 34) d_Mo_isSealed_34 0 rfl ?_
        refine gc_callVV (As := []) (st := []) F (pc := 35) d_Mo_isSealed_35 cb_Mo_90 iv_Mo_sum np_Mo_sum o1 vc_7 (c_Mo_sum h) rfl (by decide) (Nat.le_refl _) (Nat.le_refl _) (Nat.le_of_ble_eq_true rfl) (fun c10 h => ?_)
        refine g_iconst (v := 1) F (pc := 38) d_Mo_isSealed_38 (by decide) (g_istore_n (lv' := [(1, .int 1), (0, .ref x0)]) F (pc := 39) d_Mo_isSealed_39 (by decide) rfl (g_iconst (v := 0) F (pc := 40) d_Mo_isSealed_40 (by decide) (g_istore_n (lv' := [(2, .int 0), (1, .int 1), (0, .ref x0)]) F (pc := 41) d_Mo_isSealed_41 (by decide) rfl ?_)))
        refine g_lv (lv' := [(0, .ref x0), (1, .int 1), (2, .int 0)]) F [2, 1, 0] rfl ?_
        obtain ⟨I11, ⟨n0, h⟩, hI11⟩ := h
        have lp14 : ∀ (n12 : Nat) (y15 : Int32) (y16 : Int32), I11 n12 y15 y16 → Z (wd c10) 42 [(0, .ref x0), (1, .int y15), (2, .int y16)] [] 0 0 := by
          intro n12
          induction n12 using Nat.strongRecOn with
          | _ n12 ih13 =>
            intro y15 y16 h
            replace h := hI11 n12 y15 y16 h
            refine g_iload_n F (pc := 42) d_Mo_isSealed_42 2 rfl (g_bipush (v := 20) F (pc := 43) d_Mo_isSealed_43 (by decide) ?_)
            refine g_icmp_ge (tgt := 103) F (pc := 45) d_Mo_isSealed_45 (by decide) (fun b17 => ?_) (fun b17 => ?_)
            · replace h := h.1 b17
              refine g_iload_n F (pc := 103) d_Mo_isSealed_103 1 rfl ?_
              obtain ⟨o18, h⟩ := h
              exact g_zret T (pc := 104) d_Mo_isSealed_104 rfl (bz_n o18) (Nat.le_refl _) (Nat.le_refl _) (poI h)
            · replace h := h.2 b17
              refine g_iload_n F (pc := 48) d_Mo_isSealed_48 1 rfl ?_
              obtain ⟨J26, hJ26, h⟩ := h
              have jn27 : ∀ (s25 : Int32), J26 s25 → Z (wd c10) 96 [(0, .ref x0), (2, .int y16)] [.int s25] 0 0 := by
                intro s25 h
                replace h := hJ26 s25 h
                refine g_istore_n (lv' := [(1, .int s25), (0, .ref x0), (2, .int y16)]) F (pc := 96) d_Mo_isSealed_96 (by decide) rfl (g_iinc (v := (y16 + 1)) (lv' := [(2, .int (y16 + 1)), (1, .int s25), (0, .ref x0)]) F (pc := 97) d_Mo_isSealed_97 2 rfl (sk_inc (by decide)) (by decide) rfl (g_goto (tgt := 42) F (pc := 100) d_Mo_isSealed_100 (by decide) ?_))
                refine g_lv (lv' := [(0, .ref x0), (1, .int s25), (2, .int (y16 + 1))]) F [2, 1, 0] rfl ?_
                obtain ⟨m, hm, h⟩ := h
                exact ih13 m hm _ _ h
              obtain ⟨J33, hJ33, h⟩ := h
              have jn34 : J33  → Z (wd c10) 95 [(0, .ref x0), (2, .int y16)] [] 0 0 := by
                intro  h
                replace h := hJ33  h
                refine g_iconst (v := 0) F (pc := 95) d_Mo_isSealed_95 (by decide) ?_
                exact jn27 _ h
              refine g_if_eq (tgt := 95) F (pc := 49) d_Mo_isSealed_49 (by decide) (fun b19 => ?_) (fun b19 => ?_)
              · replace h := h.1 b19
                refine g_lv (lv' := [(0, .ref x0), (2, .int y16)]) F [0, 2] rfl ?_
                exact jn34  h
              · replace h := h.2 b19
                refine g_aload_n F (pc := 52) d_Mo_isSealed_52 0 rfl (gc_getR F (pc := 53) d_Mo_isSealed_53 fi_Mo_50 o1 (g_aload_n F (pc := 56) d_Mo_isSealed_56 0 rfl (gc_getI F (pc := 57) d_Mo_isSealed_57 fi_Mo_148 o1 (g_bipush (v := 20) F (pc := 60) d_Mo_isSealed_60 (by decide) (g_isub F (pc := 62) d_Mo_isSealed_62 ?_)))))
                refine g_iload_n F (pc := 63) d_Mo_isSealed_63 2 rfl (g_iadd F (pc := 64) d_Mo_isSealed_64 ?_)
                obtain ⟨o35, h⟩ := h
                obtain ⟨o36, h⟩ := h
                refine gc_iald F (pc := 65) d_Mo_isSealed_65 o35 o36 (g_aload_n F (pc := 66) d_Mo_isSealed_66 0 rfl (gc_getR F (pc := 67) d_Mo_isSealed_67 fi_Mo_47 o1 (g_iload_n F (pc := 70) d_Mo_isSealed_70 2 rfl (g_iconst (v := 4) F (pc := 71) d_Mo_isSealed_71 (by decide) (g_idiv F (pc := 72) d_Mo_isSealed_72 (by decide) ?_)))))
                obtain ⟨o37, h⟩ := h
                obtain ⟨o38, h⟩ := h
                refine gc_iald F (pc := 73) d_Mo_isSealed_73 o37 o38 (g_bipush (v := 24) F (pc := 74) d_Mo_isSealed_74 (by decide) (g_bipush (v := 8) F (pc := 76) d_Mo_isSealed_76 (by decide) (g_iload_n F (pc := 78) d_Mo_isSealed_78 2 rfl (g_iconst (v := 4) F (pc := 79) d_Mo_isSealed_79 (by decide) (g_irem F (pc := 80) d_Mo_isSealed_80 (by decide) ?_)))))
                refine g_imul F (pc := 81) d_Mo_isSealed_81 (g_isub F (pc := 82) d_Mo_isSealed_82 (g_iushr F (pc := 83) d_Mo_isSealed_83 (g_sipush (v := 255) F (pc := 84) d_Mo_isSealed_84 (by decide) (g_iand F (pc := 87) d_Mo_isSealed_87 ?_))))
                refine g_icmp_ne (tgt := 95) F (pc := 88) d_Mo_isSealed_88 (by decide) (fun b39 => ?_) (fun b39 => ?_)
                · replace h := h.1 b39
                  refine g_lv (lv' := [(0, .ref x0), (2, .int y16)]) F [0, 2] rfl ?_
                  exact jn34  h
                · replace h := h.2 b39
                  refine g_iconst (v := 1) F (pc := 91) d_Mo_isSealed_91 (by decide) (g_goto (tgt := 96) F (pc := 92) d_Mo_isSealed_92 (by decide) ?_)
                  refine g_lv (lv' := [(0, .ref x0), (2, .int y16)]) F [0, 2] rfl ?_
                  exact jn27 _ h
        exact lp14 n0 _ _ h
      · replace h := h.2 b9
        refine g_aload_n F (pc := 18) d_Mo_isSealed_18 0 rfl (g_aload_n F (pc := 19) d_Mo_isSealed_19 0 rfl (gc_getR F (pc := 20) d_Mo_isSealed_20 fi_Mo_50 o1 (g_iload_n F (pc := 23) d_Mo_isSealed_23 1 rfl ?_)))
        obtain ⟨o40, h⟩ := h
        obtain ⟨o41, h⟩ := h
        refine gc_iald F (pc := 24) d_Mo_isSealed_24 o40 o41 ?_
        refine gc_callVV (As := [.int (c8 (rf x0 18) (Int32.toNatClampNeg y7))]) (st := []) F (pc := 25) d_Mo_isSealed_25 cb_Mo_63 iv_Mo_put np_Mo_put o1 vc_7 (c_Mo_put h) rfl (by decide) (Nat.le_refl _) (Nat.le_refl _) (Nat.le_of_ble_eq_true rfl) (fun c42 h => ?_)
        refine g_iinc (v := (y7 + 1)) (lv' := [(1, .int (y7 + 1)), (0, .ref x0)]) F (pc := 28) d_Mo_isSealed_28 1 rfl (sk_inc (by decide)) (by decide) rfl (g_goto (tgt := 7) F (pc := 31) d_Mo_isSealed_31 (by decide) ?_)
        refine g_lv (lv' := [(0, .ref x0), (1, .int (y7 + 1))]) F [1, 0] rfl ?_
        obtain ⟨m, hm, h⟩ := h
        exact ih5 m hm _ _ h
  exact lp6 n0 _ _ h
theorem d_Mo_begins_0 : decode M_Mo_begins.2.1 0 = .ok (.aload_n 0, 1) := by decide +kernel
theorem d_Mo_begins_1 : decode M_Mo_begins.2.1 1 = .ok (.getfield 148, 3) := by decide +kernel
theorem d_Mo_begins_4 : decode M_Mo_begins.2.1 4 = .ok (.bipush 32, 2) := by decide +kernel
theorem d_Mo_begins_6 : decode M_Mo_begins.2.1 6 = .ok (.if_icmp .lt 90, 3) := by decide +kernel
theorem d_Mo_begins_9 : decode M_Mo_begins.2.1 9 = .ok (.aload_n 0, 1) := by decide +kernel
theorem d_Mo_begins_10 : decode M_Mo_begins.2.1 10 = .ok (.getfield 50, 3) := by decide +kernel
theorem d_Mo_begins_13 : decode M_Mo_begins.2.1 13 = .ok (.iconst 0, 1) := by decide +kernel
theorem d_Mo_begins_14 : decode M_Mo_begins.2.1 14 = .ok (.iaload, 1) := by decide +kernel
theorem d_Mo_begins_15 : decode M_Mo_begins.2.1 15 = .ok (.bipush 80, 2) := by decide +kernel
theorem d_Mo_begins_17 : decode M_Mo_begins.2.1 17 = .ok (.if_icmp .ne 79, 3) := by decide +kernel
theorem d_Mo_begins_20 : decode M_Mo_begins.2.1 20 = .ok (.aload_n 0, 1) := by decide +kernel
theorem d_Mo_begins_21 : decode M_Mo_begins.2.1 21 = .ok (.getfield 50, 3) := by decide +kernel
theorem d_Mo_begins_24 : decode M_Mo_begins.2.1 24 = .ok (.iconst 1, 1) := by decide +kernel
theorem d_Mo_begins_25 : decode M_Mo_begins.2.1 25 = .ok (.iaload, 1) := by decide +kernel
theorem d_Mo_begins_26 : decode M_Mo_begins.2.1 26 = .ok (.bipush 65, 2) := by decide +kernel
theorem d_Mo_begins_28 : decode M_Mo_begins.2.1 28 = .ok (.if_icmp .ne 68, 3) := by decide +kernel
theorem d_Mo_begins_31 : decode M_Mo_begins.2.1 31 = .ok (.aload_n 0, 1) := by decide +kernel
theorem d_Mo_begins_32 : decode M_Mo_begins.2.1 32 = .ok (.getfield 50, 3) := by decide +kernel
theorem d_Mo_begins_35 : decode M_Mo_begins.2.1 35 = .ok (.iconst 2, 1) := by decide +kernel
theorem d_Mo_begins_36 : decode M_Mo_begins.2.1 36 = .ok (.iaload, 1) := by decide +kernel
theorem d_Mo_begins_37 : decode M_Mo_begins.2.1 37 = .ok (.bipush 67, 2) := by decide +kernel
theorem d_Mo_begins_39 : decode M_Mo_begins.2.1 39 = .ok (.if_icmp .ne 57, 3) := by decide +kernel
theorem d_Mo_begins_42 : decode M_Mo_begins.2.1 42 = .ok (.aload_n 0, 1) := by decide +kernel
theorem d_Mo_begins_43 : decode M_Mo_begins.2.1 43 = .ok (.getfield 50, 3) := by decide +kernel
theorem d_Mo_begins_46 : decode M_Mo_begins.2.1 46 = .ok (.iconst 3, 1) := by decide +kernel
theorem d_Mo_begins_47 : decode M_Mo_begins.2.1 47 = .ok (.iaload, 1) := by decide +kernel
theorem d_Mo_begins_48 : decode M_Mo_begins.2.1 48 = .ok (.bipush 75, 2) := by decide +kernel
theorem d_Mo_begins_50 : decode M_Mo_begins.2.1 50 = .ok (.if_icmp .ne 46, 3) := by decide +kernel
theorem d_Mo_begins_53 : decode M_Mo_begins.2.1 53 = .ok (.aload_n 0, 1) := by decide +kernel
theorem d_Mo_begins_54 : decode M_Mo_begins.2.1 54 = .ok (.getfield 50, 3) := by decide +kernel
theorem d_Mo_begins_57 : decode M_Mo_begins.2.1 57 = .ok (.iconst 4, 1) := by decide +kernel
theorem d_Mo_begins_58 : decode M_Mo_begins.2.1 58 = .ok (.iaload, 1) := by decide +kernel
theorem d_Mo_begins_59 : decode M_Mo_begins.2.1 59 = .ok (.ifCond .ne 37, 3) := by decide +kernel
theorem d_Mo_begins_62 : decode M_Mo_begins.2.1 62 = .ok (.aload_n 0, 1) := by decide +kernel
theorem d_Mo_begins_63 : decode M_Mo_begins.2.1 63 = .ok (.getfield 50, 3) := by decide +kernel
theorem d_Mo_begins_66 : decode M_Mo_begins.2.1 66 = .ok (.iconst 5, 1) := by decide +kernel
theorem d_Mo_begins_67 : decode M_Mo_begins.2.1 67 = .ok (.iaload, 1) := by decide +kernel
theorem d_Mo_begins_68 : decode M_Mo_begins.2.1 68 = .ok (.ifCond .ne 28, 3) := by decide +kernel
theorem d_Mo_begins_71 : decode M_Mo_begins.2.1 71 = .ok (.aload_n 0, 1) := by decide +kernel
theorem d_Mo_begins_72 : decode M_Mo_begins.2.1 72 = .ok (.getfield 50, 3) := by decide +kernel
theorem d_Mo_begins_75 : decode M_Mo_begins.2.1 75 = .ok (.bipush 6, 2) := by decide +kernel
theorem d_Mo_begins_77 : decode M_Mo_begins.2.1 77 = .ok (.iaload, 1) := by decide +kernel
theorem d_Mo_begins_78 : decode M_Mo_begins.2.1 78 = .ok (.ifCond .ne 18, 3) := by decide +kernel
theorem d_Mo_begins_81 : decode M_Mo_begins.2.1 81 = .ok (.aload_n 0, 1) := by decide +kernel
theorem d_Mo_begins_82 : decode M_Mo_begins.2.1 82 = .ok (.getfield 50, 3) := by decide +kernel
theorem d_Mo_begins_85 : decode M_Mo_begins.2.1 85 = .ok (.bipush 7, 2) := by decide +kernel
theorem d_Mo_begins_87 : decode M_Mo_begins.2.1 87 = .ok (.iaload, 1) := by decide +kernel
theorem d_Mo_begins_88 : decode M_Mo_begins.2.1 88 = .ok (.iconst 2, 1) := by decide +kernel
theorem d_Mo_begins_89 : decode M_Mo_begins.2.1 89 = .ok (.if_icmp .ne 7, 3) := by decide +kernel
theorem d_Mo_begins_92 : decode M_Mo_begins.2.1 92 = .ok (.iconst 1, 1) := by decide +kernel
theorem d_Mo_begins_93 : decode M_Mo_begins.2.1 93 = .ok (.goto 4, 3) := by decide +kernel
theorem d_Mo_begins_96 : decode M_Mo_begins.2.1 96 = .ok (.iconst 0, 1) := by decide +kernel
theorem d_Mo_begins_97 : decode M_Mo_begins.2.1 97 = .ok (.ireturn, 1) := by decide +kernel
def f_Mo_begins (x0 : Nat) (c : cM) (K : Int32 → cM → Prop) : Prop :=
  kd x0 = 7 ∧ ((((c x0 17) < 32) → (K 0 c)) ∧ (¬ ((c x0 17) < 32) → (kd (rf x0 18) = 100 ∧ (vp_in 0 (ln (rf x0 18)) ∧ (((¬ (c (rf x0 18) (Int32.toNatClampNeg 0)) = 80) → (K 0 c)) ∧ ((c (rf x0 18) (Int32.toNatClampNeg 0)) = 80 → (vp_in 1 (ln (rf x0 18)) ∧ (((¬ (c (rf x0 18) (Int32.toNatClampNeg 1)) = 65) → (K 0 c)) ∧ ((c (rf x0 18) (Int32.toNatClampNeg 1)) = 65 → (vp_in 2 (ln (rf x0 18)) ∧ (((¬ (c (rf x0 18) (Int32.toNatClampNeg 2)) = 67) → (K 0 c)) ∧ ((c (rf x0 18) (Int32.toNatClampNeg 2)) = 67 → (vp_in 3 (ln (rf x0 18)) ∧ (((¬ (c (rf x0 18) (Int32.toNatClampNeg 3)) = 75) → (K 0 c)) ∧ ((c (rf x0 18) (Int32.toNatClampNeg 3)) = 75 → (vp_in 4 (ln (rf x0 18)) ∧ (((¬ (c (rf x0 18) (Int32.toNatClampNeg 4)) = 0) → (K 0 c)) ∧ ((c (rf x0 18) (Int32.toNatClampNeg 4)) = 0 → (vp_in 5 (ln (rf x0 18)) ∧ (((¬ (c (rf x0 18) (Int32.toNatClampNeg 5)) = 0) → (K 0 c)) ∧ ((c (rf x0 18) (Int32.toNatClampNeg 5)) = 0 → (vp_in 6 (ln (rf x0 18)) ∧ (((¬ (c (rf x0 18) (Int32.toNatClampNeg 6)) = 0) → (K 0 c)) ∧ ((c (rf x0 18) (Int32.toNatClampNeg 6)) = 0 → (vp_in 7 (ln (rf x0 18)) ∧ (((¬ (c (rf x0 18) (Int32.toNatClampNeg 7)) = 2) → (K 0 c)) ∧ ((c (rf x0 18) (Int32.toNatClampNeg 7)) = 2 → (K 1 c))))))))))))))))))))))))))))
theorem c_Mo_begins {x0 : Nat} {c : cM} {K : Int32 → cM → Prop} (h : f_Mo_begins x0 c K) : Ct M_Mo_begins 0 0 0 (wd c) [.ref x0] (PoI K) := by
  refine Ct.of (by decide +kernel) (Nat.le_of_ble_eq_true rfl) (fun Z T => ?_)
  have F := T.F
  unfold f_Mo_begins at h
  show Z (wd c) 0 [(0, .ref x0)] [] 0 0
  refine g_aload_n F (pc := 0) d_Mo_begins_0 0 rfl ?_
  obtain ⟨o1, h⟩ := h
  refine gc_getI F (pc := 1) d_Mo_begins_1 fi_Mo_148 o1 (g_bipush (v := 32) F (pc := 4) d_Mo_begins_4 (by decide) ?_)
  refine g_icmp_lt (tgt := 96) F (pc := 6) d_Mo_begins_6 (by decide) (fun b2 => ?_) (fun b2 => ?_)
  · replace h := h.1 b2
    refine g_iconst (v := 0) F (pc := 96) d_Mo_begins_96 (by decide) ?_
    exact g_zret T (pc := 97) d_Mo_begins_97 rfl (by decide) (Nat.le_refl _) (Nat.le_refl _) (poI h)
  · replace h := h.2 b2
    refine g_aload_n F (pc := 9) d_Mo_begins_9 0 rfl (gc_getR F (pc := 10) d_Mo_begins_10 fi_Mo_50 o1 (g_iconst (v := 0) F (pc := 13) d_Mo_begins_13 (by decide) ?_))
    obtain ⟨o3, h⟩ := h
    obtain ⟨o4, h⟩ := h
    refine gc_iald F (pc := 14) d_Mo_begins_14 o3 o4 (g_bipush (v := 80) F (pc := 15) d_Mo_begins_15 (by decide) ?_)
    refine g_icmp_ne (tgt := 96) F (pc := 17) d_Mo_begins_17 (by decide) (fun b5 => ?_) (fun b5 => ?_)
    · replace h := h.1 b5
      refine g_iconst (v := 0) F (pc := 96) d_Mo_begins_96 (by decide) ?_
      exact g_zret T (pc := 97) d_Mo_begins_97 rfl (by decide) (Nat.le_refl _) (Nat.le_refl _) (poI h)
    · replace h := h.2 b5
      refine g_aload_n F (pc := 20) d_Mo_begins_20 0 rfl (gc_getR F (pc := 21) d_Mo_begins_21 fi_Mo_50 o1 (g_iconst (v := 1) F (pc := 24) d_Mo_begins_24 (by decide) ?_))
      obtain ⟨o6, h⟩ := h
      refine gc_iald F (pc := 25) d_Mo_begins_25 o3 o6 (g_bipush (v := 65) F (pc := 26) d_Mo_begins_26 (by decide) ?_)
      refine g_icmp_ne (tgt := 96) F (pc := 28) d_Mo_begins_28 (by decide) (fun b7 => ?_) (fun b7 => ?_)
      · replace h := h.1 b7
        refine g_iconst (v := 0) F (pc := 96) d_Mo_begins_96 (by decide) ?_
        exact g_zret T (pc := 97) d_Mo_begins_97 rfl (by decide) (Nat.le_refl _) (Nat.le_refl _) (poI h)
      · replace h := h.2 b7
        refine g_aload_n F (pc := 31) d_Mo_begins_31 0 rfl (gc_getR F (pc := 32) d_Mo_begins_32 fi_Mo_50 o1 (g_iconst (v := 2) F (pc := 35) d_Mo_begins_35 (by decide) ?_))
        obtain ⟨o8, h⟩ := h
        refine gc_iald F (pc := 36) d_Mo_begins_36 o3 o8 (g_bipush (v := 67) F (pc := 37) d_Mo_begins_37 (by decide) ?_)
        refine g_icmp_ne (tgt := 96) F (pc := 39) d_Mo_begins_39 (by decide) (fun b9 => ?_) (fun b9 => ?_)
        · replace h := h.1 b9
          refine g_iconst (v := 0) F (pc := 96) d_Mo_begins_96 (by decide) ?_
          exact g_zret T (pc := 97) d_Mo_begins_97 rfl (by decide) (Nat.le_refl _) (Nat.le_refl _) (poI h)
        · replace h := h.2 b9
          refine g_aload_n F (pc := 42) d_Mo_begins_42 0 rfl (gc_getR F (pc := 43) d_Mo_begins_43 fi_Mo_50 o1 (g_iconst (v := 3) F (pc := 46) d_Mo_begins_46 (by decide) ?_))
          obtain ⟨o10, h⟩ := h
          refine gc_iald F (pc := 47) d_Mo_begins_47 o3 o10 (g_bipush (v := 75) F (pc := 48) d_Mo_begins_48 (by decide) ?_)
          refine g_icmp_ne (tgt := 96) F (pc := 50) d_Mo_begins_50 (by decide) (fun b11 => ?_) (fun b11 => ?_)
          · replace h := h.1 b11
            refine g_iconst (v := 0) F (pc := 96) d_Mo_begins_96 (by decide) ?_
            exact g_zret T (pc := 97) d_Mo_begins_97 rfl (by decide) (Nat.le_refl _) (Nat.le_refl _) (poI h)
          · replace h := h.2 b11
            refine g_aload_n F (pc := 53) d_Mo_begins_53 0 rfl (gc_getR F (pc := 54) d_Mo_begins_54 fi_Mo_50 o1 (g_iconst (v := 4) F (pc := 57) d_Mo_begins_57 (by decide) ?_))
            obtain ⟨o12, h⟩ := h
            refine gc_iald F (pc := 58) d_Mo_begins_58 o3 o12 ?_
            refine g_if_ne (tgt := 96) F (pc := 59) d_Mo_begins_59 (by decide) (fun b13 => ?_) (fun b13 => ?_)
            · replace h := h.1 b13
              refine g_iconst (v := 0) F (pc := 96) d_Mo_begins_96 (by decide) ?_
              exact g_zret T (pc := 97) d_Mo_begins_97 rfl (by decide) (Nat.le_refl _) (Nat.le_refl _) (poI h)
            · replace h := h.2 b13
              refine g_aload_n F (pc := 62) d_Mo_begins_62 0 rfl (gc_getR F (pc := 63) d_Mo_begins_63 fi_Mo_50 o1 (g_iconst (v := 5) F (pc := 66) d_Mo_begins_66 (by decide) ?_))
              obtain ⟨o14, h⟩ := h
              refine gc_iald F (pc := 67) d_Mo_begins_67 o3 o14 ?_
              refine g_if_ne (tgt := 96) F (pc := 68) d_Mo_begins_68 (by decide) (fun b15 => ?_) (fun b15 => ?_)
              · replace h := h.1 b15
                refine g_iconst (v := 0) F (pc := 96) d_Mo_begins_96 (by decide) ?_
                exact g_zret T (pc := 97) d_Mo_begins_97 rfl (by decide) (Nat.le_refl _) (Nat.le_refl _) (poI h)
              · replace h := h.2 b15
                refine g_aload_n F (pc := 71) d_Mo_begins_71 0 rfl (gc_getR F (pc := 72) d_Mo_begins_72 fi_Mo_50 o1 (g_bipush (v := 6) F (pc := 75) d_Mo_begins_75 (by decide) ?_))
                obtain ⟨o16, h⟩ := h
                refine gc_iald F (pc := 77) d_Mo_begins_77 o3 o16 ?_
                refine g_if_ne (tgt := 96) F (pc := 78) d_Mo_begins_78 (by decide) (fun b17 => ?_) (fun b17 => ?_)
                · replace h := h.1 b17
                  refine g_iconst (v := 0) F (pc := 96) d_Mo_begins_96 (by decide) ?_
                  exact g_zret T (pc := 97) d_Mo_begins_97 rfl (by decide) (Nat.le_refl _) (Nat.le_refl _) (poI h)
                · replace h := h.2 b17
                  refine g_aload_n F (pc := 81) d_Mo_begins_81 0 rfl (gc_getR F (pc := 82) d_Mo_begins_82 fi_Mo_50 o1 (g_bipush (v := 7) F (pc := 85) d_Mo_begins_85 (by decide) ?_))
                  obtain ⟨o18, h⟩ := h
                  refine gc_iald F (pc := 87) d_Mo_begins_87 o3 o18 (g_iconst (v := 2) F (pc := 88) d_Mo_begins_88 (by decide) ?_)
                  refine g_icmp_ne (tgt := 96) F (pc := 89) d_Mo_begins_89 (by decide) (fun b19 => ?_) (fun b19 => ?_)
                  · replace h := h.1 b19
                    refine g_iconst (v := 0) F (pc := 96) d_Mo_begins_96 (by decide) ?_
                    exact g_zret T (pc := 97) d_Mo_begins_97 rfl (by decide) (Nat.le_refl _) (Nat.le_refl _) (poI h)
                  · replace h := h.2 b19
                    refine g_iconst (v := 1) F (pc := 92) d_Mo_begins_92 (by decide) (g_goto (tgt := 97) F (pc := 93) d_Mo_begins_93 (by decide) ?_)
                    exact g_zret T (pc := 97) d_Mo_begins_97 rfl (by decide) (Nat.le_refl _) (Nat.le_refl _) (poI h)
theorem d_Mo_readSize_0 : decode M_Mo_readSize.2.1 0 = .ok (.iload_n 1, 1) := by decide +kernel
theorem d_Mo_readSize_1 : decode M_Mo_readSize.2.1 1 = .ok (.bipush 15, 2) := by decide +kernel
theorem d_Mo_readSize_3 : decode M_Mo_readSize.2.1 3 = .ok (.iand, 1) := by decide +kernel
theorem d_Mo_readSize_4 : decode M_Mo_readSize.2.1 4 = .ok (.istore_n 2, 1) := by decide +kernel
theorem d_Mo_readSize_5 : decode M_Mo_readSize.2.1 5 = .ok (.iconst 4, 1) := by decide +kernel
theorem d_Mo_readSize_6 : decode M_Mo_readSize.2.1 6 = .ok (.istore_n 3, 1) := by decide +kernel
theorem d_Mo_readSize_7 : decode M_Mo_readSize.2.1 7 = .ok (.iload_n 1, 1) := by decide +kernel
theorem d_Mo_readSize_8 : decode M_Mo_readSize.2.1 8 = .ok (.istore 4, 2) := by decide +kernel
theorem d_Mo_readSize_10 : decode M_Mo_readSize.2.1 10 = .ok (.iload 4, 2) := by decide +kernel
theorem d_Mo_readSize_12 : decode M_Mo_readSize.2.1 12 = .ok (.bipush 127, 2) := by decide +kernel
theorem d_Mo_readSize_14 : decode M_Mo_readSize.2.1 14 = .ok (.if_icmp .le 84, 3) := by decide +kernel
theorem d_Mo_readSize_17 : decode M_Mo_readSize.2.1 17 = .ok (.aload_n 0, 1) := by decide +kernel
theorem d_Mo_readSize_18 : decode M_Mo_readSize.2.1 18 = .ok (.getfield 174, 3) := by decide +kernel
theorem d_Mo_readSize_21 : decode M_Mo_readSize.2.1 21 = .ok (.ifCond .ne 77, 3) := by decide +kernel
theorem d_Mo_readSize_24 : decode M_Mo_readSize.2.1 24 = .ok (.aload_n 0, 1) := by decide +kernel
theorem d_Mo_readSize_25 : decode M_Mo_readSize.2.1 25 = .ok (.invokevirtual 183, 3) := by decide +kernel
theorem d_Mo_readSize_28 : decode M_Mo_readSize.2.1 28 = .ok (.istore 4, 2) := by decide +kernel
theorem d_Mo_readSize_30 : decode M_Mo_readSize.2.1 30 = .ok (.iload 4, 2) := by decide +kernel
theorem d_Mo_readSize_32 : decode M_Mo_readSize.2.1 32 = .ok (.bipush 127, 2) := by decide +kernel
theorem d_Mo_readSize_34 : decode M_Mo_readSize.2.1 34 = .ok (.iand, 1) := by decide +kernel
theorem d_Mo_readSize_35 : decode M_Mo_readSize.2.1 35 = .ok (.istore 5, 2) := by decide +kernel
theorem d_Mo_readSize_37 : decode M_Mo_readSize.2.1 37 = .ok (.iload 5, 2) := by decide +kernel
theorem d_Mo_readSize_39 : decode M_Mo_readSize.2.1 39 = .ok (.ifCond .ne 7, 3) := by decide +kernel
theorem d_Mo_readSize_42 : decode M_Mo_readSize.2.1 42 = .ok (.iload_n 2, 1) := by decide +kernel
theorem d_Mo_readSize_43 : decode M_Mo_readSize.2.1 43 = .ok (.goto 21, 3) := by decide +kernel
theorem d_Mo_readSize_46 : decode M_Mo_readSize.2.1 46 = .ok (.iload_n 3, 1) := by decide +kernel
theorem d_Mo_readSize_47 : decode M_Mo_readSize.2.1 47 = .ok (.bipush 11, 2) := by decide +kernel
theorem d_Mo_readSize_49 : decode M_Mo_readSize.2.1 49 = .ok (.if_icmp .le 9, 3) := by decide +kernel
theorem d_Mo_readSize_52 : decode M_Mo_readSize.2.1 52 = .ok (.sipush 1000, 3) := by decide +kernel
theorem d_Mo_readSize_55 : decode M_Mo_readSize.2.1 55 = .ok (.goto 9, 3) := by decide +kernel
theorem d_Mo_readSize_58 : decode M_Mo_readSize.2.1 58 = .ok (.iload_n 2, 1) := by decide +kernel
theorem d_Mo_readSize_59 : decode M_Mo_readSize.2.1 59 = .ok (.iload 5, 2) := by decide +kernel
theorem d_Mo_readSize_61 : decode M_Mo_readSize.2.1 61 = .ok (.iload_n 3, 1) := by decide +kernel
theorem d_Mo_readSize_62 : decode M_Mo_readSize.2.1 62 = .ok (.ishl, 1) := by decide +kernel
theorem d_Mo_readSize_63 : decode M_Mo_readSize.2.1 63 = .ok (.iadd, 1) := by decide +kernel
theorem d_Mo_readSize_64 : decode M_Mo_readSize.2.1 64 = .ok (.istore_n 2, 1) := by decide +kernel
theorem d_Mo_readSize_65 : decode M_Mo_readSize.2.1 65 = .ok (.iload_n 2, 1) := by decide +kernel
theorem d_Mo_readSize_66 : decode M_Mo_readSize.2.1 66 = .ok (.sipush 1000, 3) := by decide +kernel
theorem d_Mo_readSize_69 : decode M_Mo_readSize.2.1 69 = .ok (.if_icmp .le 9, 3) := by decide +kernel
theorem d_Mo_readSize_72 : decode M_Mo_readSize.2.1 72 = .ok (.sipush 1000, 3) := by decide +kernel
theorem d_Mo_readSize_75 : decode M_Mo_readSize.2.1 75 = .ok (.goto 4, 3) := by decide +kernel
theorem d_Mo_readSize_78 : decode M_Mo_readSize.2.1 78 = .ok (.iload_n 2, 1) := by decide +kernel
theorem d_Mo_readSize_79 : decode M_Mo_readSize.2.1 79 = .ok (.istore_n 2, 1) := by decide +kernel
theorem d_Mo_readSize_80 : decode M_Mo_readSize.2.1 80 = .ok (.iload_n 3, 1) := by decide +kernel
theorem d_Mo_readSize_81 : decode M_Mo_readSize.2.1 81 = .ok (.bipush 11, 2) := by decide +kernel
theorem d_Mo_readSize_83 : decode M_Mo_readSize.2.1 83 = .ok (.if_icmp .le 7, 3) := by decide +kernel
theorem d_Mo_readSize_86 : decode M_Mo_readSize.2.1 86 = .ok (.iload_n 3, 1) := by decide +kernel
theorem d_Mo_readSize_87 : decode M_Mo_readSize.2.1 87 = .ok (.goto 7, 3) := by decide +kernel
theorem d_Mo_readSize_90 : decode M_Mo_readSize.2.1 90 = .ok (.iload_n 3, 1) := by decide +kernel
theorem d_Mo_readSize_91 : decode M_Mo_readSize.2.1 91 = .ok (.bipush 7, 2) := by decide +kernel
theorem d_Mo_readSize_93 : decode M_Mo_readSize.2.1 93 = .ok (.iadd, 1) := by decide +kernel
theorem d_Mo_readSize_94 : decode M_Mo_readSize.2.1 94 = .ok (.istore_n 3, 1) := by decide +kernel
theorem d_Mo_readSize_95 : decode M_Mo_readSize.2.1 95 = .ok (.goto (-85), 3) := by decide +kernel
theorem d_Mo_readSize_98 : decode M_Mo_readSize.2.1 98 = .ok (.iload_n 2, 1) := by decide +kernel
theorem d_Mo_readSize_99 : decode M_Mo_readSize.2.1 99 = .ok (.ireturn, 1) := by decide +kernel
def f_Mo_readSize (x0 : Nat) (x1 : Int32) (c : cM) (K : Int32 → cM → Prop) : Prop :=
  ∃ I1 : Nat → Int32 → Int32 → Int32 → cM → Prop, (∃ n, I1 n (x1 &&& 15) 4 x1 c) ∧ ∀ (n2 : Nat) (y5 : Int32) (y6 : Int32) (y7 : Int32) (c8 : cM), I1 n2 y5 y6 y7 c8 → (((y7 ≤ 127) → (K y5 c8)) ∧ (¬ (y7 ≤ 127) → (kd x0 = 7 ∧ (((¬ (c8 x0 22) = 0) → (K y5 c8)) ∧ ((c8 x0 22) = 0 → (f_Mo_next x0 c8 (fun v13 c12 => ∃ J17 : Int32 → Prop, (∀ (s16 : Int32), J17 s16 → (∃ J21 : Int32 → Prop, (∀ (s20 : Int32), J21 s20 → (∃ J25 : Int32 → Prop, (∀ (s24 : Int32), J25 s24 → (∃ m, m < n2 ∧ I1 m s20 s24 v13 c12)) ∧ (((y6 ≤ 11) → (J25 (y6 + 7))) ∧ (¬ (y6 ≤ 11) → (J25 y6))))) ∧ (((s16 ≤ 1000) → (J21 s16)) ∧ (¬ (s16 ≤ 1000) → (J21 1000))))) ∧ (((¬ (v13 &&& 127) = 0) → (((y6 ≤ 11) → (J17 (y5 + (c_shl (v13 &&& 127) y6)))) ∧ (¬ (y6 ≤ 11) → (J17 1000)))) ∧ ((v13 &&& 127) = 0 → (J17 y5))))))))))
theorem c_Mo_readSize {x0 : Nat} {x1 : Int32} {c : cM} {K : Int32 → cM → Prop} (h : f_Mo_readSize x0 x1 c K) : Ct M_Mo_readSize 1 0 0 (wd c) [.ref x0, .int x1] (PoI K) := by
  refine Ct.of (by decide +kernel) (Nat.le_of_ble_eq_true rfl) (fun Z T => ?_)
  have F := T.F
  unfold f_Mo_readSize at h
  show Z (wd c) 0 [(0, .ref x0), (1, .int x1)] [] 0 0
  refine g_iload_n F (pc := 0) d_Mo_readSize_0 1 rfl (g_bipush (v := 15) F (pc := 1) d_Mo_readSize_1 (by decide) (g_iand F (pc := 3) d_Mo_readSize_3 (g_istore_n (lv' := [(2, .int (x1 &&& 15)), (0, .ref x0), (1, .int x1)]) F (pc := 4) d_Mo_readSize_4 (by decide) rfl (g_iconst (v := 4) F (pc := 5) d_Mo_readSize_5 (by decide) (g_istore_n (lv' := [(3, .int 4), (2, .int (x1 &&& 15)), (0, .ref x0), (1, .int x1)]) F (pc := 6) d_Mo_readSize_6 (by decide) rfl ?_)))))
  refine g_iload_n F (pc := 7) d_Mo_readSize_7 3 rfl (g_istore (lv' := [(4, .int x1), (3, .int 4), (2, .int (x1 &&& 15)), (0, .ref x0), (1, .int x1)]) F (pc := 8) d_Mo_readSize_8 (by decide) rfl ?_)
  refine g_lv (lv' := [(0, .ref x0), (2, .int (x1 &&& 15)), (3, .int 4), (4, .int x1)]) F [3, 2, 1, 0] rfl ?_
  obtain ⟨I1, ⟨n0, h⟩, hI1⟩ := h
  have lp4 : ∀ (n2 : Nat) (y5 : Int32) (y6 : Int32) (y7 : Int32) (c8 : cM), I1 n2 y5 y6 y7 c8 → Z (wd c8) 10 [(0, .ref x0), (2, .int y5), (3, .int y6), (4, .int y7)] [] 0 0 := by
    intro n2
    induction n2 using Nat.strongRecOn with
    | _ n2 ih3 =>
      intro y5 y6 y7 c8 h
      replace h := hI1 n2 y5 y6 y7 c8 h
      refine g_iload F (pc := 10) d_Mo_readSize_10 3 rfl (g_bipush (v := 127) F (pc := 12) d_Mo_readSize_12 (by decide) ?_)
      refine g_icmp_le (tgt := 98) F (pc := 14) d_Mo_readSize_14 (by decide) (fun b9 => ?_) (fun b9 => ?_)
      · replace h := h.1 b9
        refine g_iload_n F (pc := 98) d_Mo_readSize_98 1 rfl ?_
        exact g_iret T (pc := 99) d_Mo_readSize_99 rfl (Nat.le_refl _) (Nat.le_refl _) (poI h)
      · replace h := h.2 b9
        refine g_aload_n F (pc := 17) d_Mo_readSize_17 0 rfl ?_
        obtain ⟨o10, h⟩ := h
        refine gc_getI F (pc := 18) d_Mo_readSize_18 fi_Mo_174 o10 ?_
        refine g_if_ne (tgt := 98) F (pc := 21) d_Mo_readSize_21 (by decide) (fun b11 => ?_) (fun b11 => ?_)
        · replace h := h.1 b11
          refine g_iload_n F (pc := 98) d_Mo_readSize_98 1 rfl ?_
          exact g_iret T (pc := 99) d_Mo_readSize_99 rfl (Nat.le_refl _) (Nat.le_refl _) (poI h)
        · replace h := h.2 b11
          refine g_aload_n F (pc := 24) d_Mo_readSize_24 0 rfl ?_
          refine gc_callVI (As := []) (st := []) F (pc := 25) d_Mo_readSize_25 cb_Mo_183 iv_Mo_next np_Mo_next o10 vc_7 (c_Mo_next h) rfl (by decide) (Nat.le_refl _) (Nat.le_refl _) (Nat.le_of_ble_eq_true rfl) (fun v13 c12 h => ?_)
          refine g_istore (lv' := [(4, .int v13), (0, .ref x0), (2, .int y5), (3, .int y6)]) F (pc := 28) d_Mo_readSize_28 (by decide) rfl (g_iload F (pc := 30) d_Mo_readSize_30 0 rfl (g_bipush (v := 127) F (pc := 32) d_Mo_readSize_32 (by decide) (g_iand F (pc := 34) d_Mo_readSize_34 (g_istore (lv' := [(5, .int (v13 &&& 127)), (4, .int v13), (0, .ref x0), (2, .int y5), (3, .int y6)]) F (pc := 35) d_Mo_readSize_35 (by decide) rfl (g_iload F (pc := 37) d_Mo_readSize_37 0 rfl ?_)))))
          obtain ⟨J17, hJ17, h⟩ := h
          have jn18 : ∀ (s16 : Int32), J17 s16 → Z (wd c12) 64 [(0, .ref x0), (3, .int y6), (4, .int v13)] [.int s16] 0 0 := by
            intro s16 h
            replace h := hJ17 s16 h
            refine g_istore_n (lv' := [(2, .int s16), (0, .ref x0), (3, .int y6), (4, .int v13)]) F (pc := 64) d_Mo_readSize_64 (by decide) rfl (g_iload_n F (pc := 65) d_Mo_readSize_65 0 rfl (g_sipush (v := 1000) F (pc := 66) d_Mo_readSize_66 (by decide) ?_))
            obtain ⟨J21, hJ21, h⟩ := h
            have jn22 : ∀ (s20 : Int32), J21 s20 → Z (wd c12) 79 [(0, .ref x0), (3, .int y6), (4, .int v13)] [.int s20] 0 0 := by
              intro s20 h
              replace h := hJ21 s20 h
              refine g_istore_n (lv' := [(2, .int s20), (0, .ref x0), (3, .int y6), (4, .int v13)]) F (pc := 79) d_Mo_readSize_79 (by decide) rfl (g_iload_n F (pc := 80) d_Mo_readSize_80 2 rfl (g_bipush (v := 11) F (pc := 81) d_Mo_readSize_81 (by decide) ?_))
              obtain ⟨J25, hJ25, h⟩ := h
              have jn26 : ∀ (s24 : Int32), J25 s24 → Z (wd c12) 94 [(0, .ref x0), (2, .int s20), (4, .int v13)] [.int s24] 0 0 := by
                intro s24 h
                replace h := hJ25 s24 h
                refine g_istore_n (lv' := [(3, .int s24), (0, .ref x0), (2, .int s20), (4, .int v13)]) F (pc := 94) d_Mo_readSize_94 (by decide) rfl (g_goto (tgt := 10) F (pc := 95) d_Mo_readSize_95 (by decide) ?_)
                refine g_lv (lv' := [(0, .ref x0), (2, .int s20), (3, .int s24), (4, .int v13)]) F [1, 2, 0, 3] rfl ?_
                obtain ⟨m, hm, h⟩ := h
                exact ih3 m hm _ _ _ _ h
              refine g_icmp_le (tgt := 90) F (pc := 83) d_Mo_readSize_83 (by decide) (fun b23 => ?_) (fun b23 => ?_)
              · replace h := h.1 b23
                refine g_iload_n F (pc := 90) d_Mo_readSize_90 2 rfl (g_bipush (v := 7) F (pc := 91) d_Mo_readSize_91 (by decide) (g_iadd F (pc := 93) d_Mo_readSize_93 ?_))
                refine g_lv (lv' := [(0, .ref x0), (2, .int s20), (4, .int v13)]) F [1, 0, 3] rfl ?_
                exact jn26 _ h
              · replace h := h.2 b23
                refine g_iload_n F (pc := 86) d_Mo_readSize_86 2 rfl (g_goto (tgt := 94) F (pc := 87) d_Mo_readSize_87 (by decide) ?_)
                refine g_lv (lv' := [(0, .ref x0), (2, .int s20), (4, .int v13)]) F [1, 0, 3] rfl ?_
                exact jn26 _ h
            refine g_icmp_le (tgt := 78) F (pc := 69) d_Mo_readSize_69 (by decide) (fun b19 => ?_) (fun b19 => ?_)
            · replace h := h.1 b19
              refine g_iload_n F (pc := 78) d_Mo_readSize_78 0 rfl ?_
              refine g_lv (lv' := [(0, .ref x0), (3, .int y6), (4, .int v13)]) F [1, 2, 3] rfl ?_
              exact jn22 _ h
            · replace h := h.2 b19
              refine g_sipush (v := 1000) F (pc := 72) d_Mo_readSize_72 (by decide) (g_goto (tgt := 79) F (pc := 75) d_Mo_readSize_75 (by decide) ?_)
              refine g_lv (lv' := [(0, .ref x0), (3, .int y6), (4, .int v13)]) F [1, 2, 3] rfl ?_
              exact jn22 _ h
          refine g_if_ne (tgt := 46) F (pc := 39) d_Mo_readSize_39 (by decide) (fun b14 => ?_) (fun b14 => ?_)
          · replace h := h.1 b14
            refine g_iload_n F (pc := 46) d_Mo_readSize_46 4 rfl (g_bipush (v := 11) F (pc := 47) d_Mo_readSize_47 (by decide) ?_)
            refine g_icmp_le (tgt := 58) F (pc := 49) d_Mo_readSize_49 (by decide) (fun b27 => ?_) (fun b27 => ?_)
            · replace h := h.1 b27
              refine g_iload_n F (pc := 58) d_Mo_readSize_58 3 rfl (g_iload F (pc := 59) d_Mo_readSize_59 0 rfl (g_iload_n F (pc := 61) d_Mo_readSize_61 4 rfl (g_ishl F (pc := 62) d_Mo_readSize_62 (g_iadd F (pc := 63) d_Mo_readSize_63 ?_))))
              refine g_lv (lv' := [(0, .ref x0), (3, .int y6), (4, .int v13)]) F [2, 4, 1] rfl ?_
              exact jn18 _ h
            · replace h := h.2 b27
              refine g_sipush (v := 1000) F (pc := 52) d_Mo_readSize_52 (by decide) (g_goto (tgt := 64) F (pc := 55) d_Mo_readSize_55 (by decide) ?_)
              refine g_lv (lv' := [(0, .ref x0), (3, .int y6), (4, .int v13)]) F [2, 4, 1] rfl ?_
              exact jn18 _ h
          · replace h := h.2 b14
            refine g_iload_n F (pc := 42) d_Mo_readSize_42 3 rfl (g_goto (tgt := 64) F (pc := 43) d_Mo_readSize_43 (by decide) ?_)
            refine g_lv (lv' := [(0, .ref x0), (3, .int y6), (4, .int v13)]) F [2, 4, 1] rfl ?_
            exact jn18 _ h
  exact lp4 n0 _ _ _ _ h
theorem d_Mo_readWrapped_0 : decode M_Mo_readWrapped.2.1 0 = .ok (.aload_n 0, 1) := by decide +kernel
theorem d_Mo_readWrapped_1 : decode M_Mo_readWrapped.2.1 1 = .ok (.bipush 120, 2) := by decide +kernel
theorem d_Mo_readWrapped_3 : decode M_Mo_readWrapped.2.1 3 = .ok (.invokevirtual 186, 3) := by decide +kernel
theorem d_Mo_readWrapped_6 : decode M_Mo_readWrapped.2.1 6 = .ok (.aload_n 0, 1) := by decide +kernel
theorem d_Mo_readWrapped_7 : decode M_Mo_readWrapped.2.1 7 = .ok (.iconst 1, 1) := by decide +kernel
theorem d_Mo_readWrapped_8 : decode M_Mo_readWrapped.2.1 8 = .ok (.invokevirtual 186, 3) := by decide +kernel
theorem d_Mo_readWrapped_11 : decode M_Mo_readWrapped.2.1 11 = .ok (.aload_n 0, 1) := by decide +kernel
theorem d_Mo_readWrapped_12 : decode M_Mo_readWrapped.2.1 12 = .ok (.iconst 1, 1) := by decide +kernel
theorem d_Mo_readWrapped_13 : decode M_Mo_readWrapped.2.1 13 = .ok (.invokevirtual 186, 3) := by decide +kernel
theorem d_Mo_readWrapped_16 : decode M_Mo_readWrapped.2.1 16 = .ok (.aload_n 0, 1) := by decide +kernel
theorem d_Mo_readWrapped_17 : decode M_Mo_readWrapped.2.1 17 = .ok (.iload_n 1, 1) := by decide +kernel
theorem d_Mo_readWrapped_18 : decode M_Mo_readWrapped.2.1 18 = .ok (.invokevirtual 186, 3) := by decide +kernel
theorem d_Mo_readWrapped_21 : decode M_Mo_readWrapped.2.1 21 = .ok (.aload_n 0, 1) := by decide +kernel
theorem d_Mo_readWrapped_22 : decode M_Mo_readWrapped.2.1 22 = .ok (.iload_n 1, 1) := by decide +kernel
theorem d_Mo_readWrapped_23 : decode M_Mo_readWrapped.2.1 23 = .ok (.bipush 8, 2) := by decide +kernel
theorem d_Mo_readWrapped_25 : decode M_Mo_readWrapped.2.1 25 = .ok (.ishr, 1) := by decide +kernel
theorem d_Mo_readWrapped_26 : decode M_Mo_readWrapped.2.1 26 = .ok (.invokevirtual 186, 3) := by decide +kernel
theorem d_Mo_readWrapped_29 : decode M_Mo_readWrapped.2.1 29 = .ok (.aload_n 0, 1) := by decide +kernel
theorem d_Mo_readWrapped_30 : decode M_Mo_readWrapped.2.1 30 = .ok (.ldc 157, 2) := by decide +kernel
theorem d_Mo_readWrapped_32 : decode M_Mo_readWrapped.2.1 32 = .ok (.iload_n 1, 1) := by decide +kernel
theorem d_Mo_readWrapped_33 : decode M_Mo_readWrapped.2.1 33 = .ok (.isub, 1) := by decide +kernel
theorem d_Mo_readWrapped_34 : decode M_Mo_readWrapped.2.1 34 = .ok (.invokevirtual 186, 3) := by decide +kernel
theorem d_Mo_readWrapped_37 : decode M_Mo_readWrapped.2.1 37 = .ok (.aload_n 0, 1) := by decide +kernel
theorem d_Mo_readWrapped_38 : decode M_Mo_readWrapped.2.1 38 = .ok (.ldc 157, 2) := by decide +kernel
theorem d_Mo_readWrapped_40 : decode M_Mo_readWrapped.2.1 40 = .ok (.iload_n 1, 1) := by decide +kernel
theorem d_Mo_readWrapped_41 : decode M_Mo_readWrapped.2.1 41 = .ok (.isub, 1) := by decide +kernel
theorem d_Mo_readWrapped_42 : decode M_Mo_readWrapped.2.1 42 = .ok (.bipush 8, 2) := by decide +kernel
theorem d_Mo_readWrapped_44 : decode M_Mo_readWrapped.2.1 44 = .ok (.ishr, 1) := by decide +kernel
theorem d_Mo_readWrapped_45 : decode M_Mo_readWrapped.2.1 45 = .ok (.invokevirtual 186, 3) := by decide +kernel
theorem d_Mo_readWrapped_48 : decode M_Mo_readWrapped.2.1 48 = .ok (.iconst 1, 1) := by decide +kernel
theorem d_Mo_readWrapped_49 : decode M_Mo_readWrapped.2.1 49 = .ok (.istore_n 2, 1) := by decide +kernel
theorem d_Mo_readWrapped_50 : decode M_Mo_readWrapped.2.1 50 = .ok (.iconst 0, 1) := by decide +kernel
theorem d_Mo_readWrapped_51 : decode M_Mo_readWrapped.2.1 51 = .ok (.istore_n 3, 1) := by decide +kernel
theorem d_Mo_readWrapped_52 : decode M_Mo_readWrapped.2.1 52 = .ok (.iconst 0, 1) := by decide +kernel
theorem d_Mo_readWrapped_53 : decode M_Mo_readWrapped.2.1 53 = .ok (.istore 4, 2) := by decide +kernel
theorem d_Mo_readWrapped_55 : decode M_Mo_readWrapped.2.1 55 = .ok (.iload 4, 2) := by decide +kernel
theorem d_Mo_readWrapped_57 : decode M_Mo_readWrapped.2.1 57 = .ok (.iload_n 1, 1) := by decide +kernel
theorem d_Mo_readWrapped_58 : decode M_Mo_readWrapped.2.1 58 = .ok (.if_icmp .ge 47, 3) := by decide +kernel
theorem d_Mo_readWrapped_61 : decode M_Mo_readWrapped.2.1 61 = .ok (.aload_n 0, 1) := by decide +kernel
theorem d_Mo_readWrapped_62 : decode M_Mo_readWrapped.2.1 62 = .ok (.getfield 174, 3) := by decide +kernel
theorem d_Mo_readWrapped_65 : decode M_Mo_readWrapped.2.1 65 = .ok (.ifCond .ne 40, 3) := by decide +kernel
theorem d_Mo_readWrapped_68 : decode M_Mo_readWrapped.2.1 68 = .ok (.aload_n 0, 1) := by decide +kernel
theorem d_Mo_readWrapped_69 : decode M_Mo_readWrapped.2.1 69 = .ok (.getfield 56, 3) := by decide +kernel
theorem d_Mo_readWrapped_72 : decode M_Mo_readWrapped.2.1 72 = .ok (.iload 4, 2) := by decide +kernel
theorem d_Mo_readWrapped_74 : decode M_Mo_readWrapped.2.1 74 = .ok (.aload_n 0, 1) := by decide +kernel
theorem d_Mo_readWrapped_75 : decode M_Mo_readWrapped.2.1 75 = .ok (.invokevirtual 183, 3) := by decide +kernel
theorem d_Mo_readWrapped_78 : decode M_Mo_readWrapped.2.1 78 = .ok (.iastore, 1) := by decide +kernel
theorem d_Mo_readWrapped_79 : decode M_Mo_readWrapped.2.1 79 = .ok (.iload_n 2, 1) := by decide +kernel
theorem d_Mo_readWrapped_80 : decode M_Mo_readWrapped.2.1 80 = .ok (.aload_n 0, 1) := by decide +kernel
theorem d_Mo_readWrapped_81 : decode M_Mo_readWrapped.2.1 81 = .ok (.getfield 56, 3) := by decide +kernel
theorem d_Mo_readWrapped_84 : decode M_Mo_readWrapped.2.1 84 = .ok (.iload 4, 2) := by decide +kernel
theorem d_Mo_readWrapped_86 : decode M_Mo_readWrapped.2.1 86 = .ok (.iaload, 1) := by decide +kernel
theorem d_Mo_readWrapped_87 : decode M_Mo_readWrapped.2.1 87 = .ok (.iadd, 1) := by decide +kernel
theorem d_Mo_readWrapped_88 : decode M_Mo_readWrapped.2.1 88 = .ok (.ldc 158, 2) := by decide +kernel
theorem d_Mo_readWrapped_90 : decode M_Mo_readWrapped.2.1 90 = .ok (.irem, 1) := by decide +kernel
theorem d_Mo_readWrapped_91 : decode M_Mo_readWrapped.2.1 91 = .ok (.istore_n 2, 1) := by decide +kernel
theorem d_Mo_readWrapped_92 : decode M_Mo_readWrapped.2.1 92 = .ok (.iload_n 3, 1) := by decide +kernel
theorem d_Mo_readWrapped_93 : decode M_Mo_readWrapped.2.1 93 = .ok (.iload_n 2, 1) := by decide +kernel
theorem d_Mo_readWrapped_94 : decode M_Mo_readWrapped.2.1 94 = .ok (.iadd, 1) := by decide +kernel
theorem d_Mo_readWrapped_95 : decode M_Mo_readWrapped.2.1 95 = .ok (.ldc 158, 2) := by decide +kernel
theorem d_Mo_readWrapped_97 : decode M_Mo_readWrapped.2.1 97 = .ok (.irem, 1) := by decide +kernel
theorem d_Mo_readWrapped_98 : decode M_Mo_readWrapped.2.1 98 = .ok (.istore_n 3, 1) := by decide +kernel
theorem d_Mo_readWrapped_99 : decode M_Mo_readWrapped.2.1 99 = .ok (.iinc 4 1, 3) := by decide +kernel
theorem d_Mo_readWrapped_102 : decode M_Mo_readWrapped.2.1 102 = .ok (.goto (-47), 3) := by decide +kernel
theorem d_Mo_readWrapped_105 : decode M_Mo_readWrapped.2.1 105 = .ok (.aload_n 0, 1) := by decide +kernel
theorem d_Mo_readWrapped_106 : decode M_Mo_readWrapped.2.1 106 = .ok (.iload_n 3, 1) := by decide +kernel
theorem d_Mo_readWrapped_107 : decode M_Mo_readWrapped.2.1 107 = .ok (.bipush 8, 2) := by decide +kernel
theorem d_Mo_readWrapped_109 : decode M_Mo_readWrapped.2.1 109 = .ok (.ishr, 1) := by decide +kernel
theorem d_Mo_readWrapped_110 : decode M_Mo_readWrapped.2.1 110 = .ok (.invokevirtual 186, 3) := by decide +kernel
theorem d_Mo_readWrapped_113 : decode M_Mo_readWrapped.2.1 113 = .ok (.aload_n 0, 1) := by decide +kernel
theorem d_Mo_readWrapped_114 : decode M_Mo_readWrapped.2.1 114 = .ok (.iload_n 3, 1) := by decide +kernel
theorem d_Mo_readWrapped_115 : decode M_Mo_readWrapped.2.1 115 = .ok (.invokevirtual 186, 3) := by decide +kernel
theorem d_Mo_readWrapped_118 : decode M_Mo_readWrapped.2.1 118 = .ok (.aload_n 0, 1) := by decide +kernel
theorem d_Mo_readWrapped_119 : decode M_Mo_readWrapped.2.1 119 = .ok (.iload_n 2, 1) := by decide +kernel
theorem d_Mo_readWrapped_120 : decode M_Mo_readWrapped.2.1 120 = .ok (.bipush 8, 2) := by decide +kernel
theorem d_Mo_readWrapped_122 : decode M_Mo_readWrapped.2.1 122 = .ok (.ishr, 1) := by decide +kernel
theorem d_Mo_readWrapped_123 : decode M_Mo_readWrapped.2.1 123 = .ok (.invokevirtual 186, 3) := by decide +kernel
theorem d_Mo_readWrapped_126 : decode M_Mo_readWrapped.2.1 126 = .ok (.aload_n 0, 1) := by decide +kernel
theorem d_Mo_readWrapped_127 : decode M_Mo_readWrapped.2.1 127 = .ok (.iload_n 2, 1) := by decide +kernel
theorem d_Mo_readWrapped_128 : decode M_Mo_readWrapped.2.1 128 = .ok (.invokevirtual 186, 3) := by decide +kernel
theorem d_Mo_readWrapped_131 : decode M_Mo_readWrapped.2.1 131 = .ok (.return_, 1) := by decide +kernel
def f_Mo_readWrapped (x0 : Nat) (x1 : Int32) (c : cM) (K : cM → Prop) : Prop :=
  kd x0 = 7 ∧ (f_Mo_expect x0 120 c (fun c2 => f_Mo_expect x0 1 c2 (fun c3 => f_Mo_expect x0 1 c3 (fun c4 => f_Mo_expect x0 x1 c4 (fun c5 => f_Mo_expect x0 (c_shr x1 8) c5 (fun c6 => f_Mo_expect x0 (65535 - x1) c6 (fun c7 => f_Mo_expect x0 (c_shr (65535 - x1) 8) c7 (fun c8 => ∃ I9 : Nat → Int32 → Int32 → Int32 → cM → Prop, (∃ n, I9 n 1 0 0 c8) ∧ ∀ (n10 : Nat) (y13 : Int32) (y14 : Int32) (y15 : Int32) (c16 : cM), I9 n10 y13 y14 y15 c16 → (∃ J24 : Prop, (J24  → (f_Mo_expect x0 (c_shr y14 8) c16 (fun c26 => f_Mo_expect x0 y14 c26 (fun c27 => f_Mo_expect x0 (c_shr y13 8) c27 (fun c28 => f_Mo_expect x0 y13 c28 (fun c29 => K c29)))))) ∧ (((x1 ≤ y15) → (J24)) ∧ (¬ (x1 ≤ y15) → (((¬ (c16 x0 22) = 0) → (J24)) ∧ ((c16 x0 22) = 0 → (f_Mo_next x0 c16 (fun v32 c31 => kd (rf x0 24) = 100 ∧ (vp_in y15 (ln (rf x0 24)) ∧ (∀ c35 : cM, c35 = c_up c31 (rf x0 24) (Int32.toNatClampNeg y15) v32 → (∃ m, m < n10 ∧ I9 m (c_rem (y13 + (c35 (rf x0 24) (Int32.toNatClampNeg y15))) 65521) (c_rem (y14 + (c_rem (y13 + (c35 (rf x0 24) (Int32.toNatClampNeg y15))) 65521)) 65521) (y15 + 1) c35))))))))))))))))))
theorem c_Mo_readWrapped {x0 : Nat} {x1 : Int32} {c : cM} {K : cM → Prop} (h : f_Mo_readWrapped x0 x1 c K) : Ct M_Mo_readWrapped 2 0 0 (wd c) [.ref x0, .int x1] (PoV K) := by
  refine Ct.of (by decide +kernel) (Nat.le_of_ble_eq_true rfl) (fun Z T => ?_)
  have F := T.F
  unfold f_Mo_readWrapped at h
  show Z (wd c) 0 [(0, .ref x0), (1, .int x1)] [] 0 0
  refine g_aload_n F (pc := 0) d_Mo_readWrapped_0 0 rfl (g_bipush (v := 120) F (pc := 1) d_Mo_readWrapped_1 (by decide) ?_)
  obtain ⟨o1, h⟩ := h
  refine gc_callVV (As := [.int 120]) (st := []) F (pc := 3) d_Mo_readWrapped_3 cb_Mo_186 iv_Mo_expect np_Mo_expect o1 vc_7 (c_Mo_expect h) rfl (by decide) (Nat.le_refl _) (Nat.le_refl _) (Nat.le_of_ble_eq_true rfl) (fun c2 h => ?_)
  refine g_aload_n F (pc := 6) d_Mo_readWrapped_6 0 rfl (g_iconst (v := 1) F (pc := 7) d_Mo_readWrapped_7 (by decide) ?_)
  refine gc_callVV (As := [.int 1]) (st := []) F (pc := 8) d_Mo_readWrapped_8 cb_Mo_186 iv_Mo_expect np_Mo_expect o1 vc_7 (c_Mo_expect h) rfl (by decide) (Nat.le_refl _) (Nat.le_refl _) (Nat.le_of_ble_eq_true rfl) (fun c3 h => ?_)
  refine g_aload_n F (pc := 11) d_Mo_readWrapped_11 0 rfl (g_iconst (v := 1) F (pc := 12) d_Mo_readWrapped_12 (by decide) ?_)
  refine gc_callVV (As := [.int 1]) (st := []) F (pc := 13) d_Mo_readWrapped_13 cb_Mo_186 iv_Mo_expect np_Mo_expect o1 vc_7 (c_Mo_expect h) rfl (by decide) (Nat.le_refl _) (Nat.le_refl _) (Nat.le_of_ble_eq_true rfl) (fun c4 h => ?_)
  refine g_aload_n F (pc := 16) d_Mo_readWrapped_16 0 rfl (g_iload_n F (pc := 17) d_Mo_readWrapped_17 1 rfl ?_)
  refine gc_callVV (As := [.int x1]) (st := []) F (pc := 18) d_Mo_readWrapped_18 cb_Mo_186 iv_Mo_expect np_Mo_expect o1 vc_7 (c_Mo_expect h) rfl (by decide) (Nat.le_refl _) (Nat.le_refl _) (Nat.le_of_ble_eq_true rfl) (fun c5 h => ?_)
  refine g_aload_n F (pc := 21) d_Mo_readWrapped_21 0 rfl (g_iload_n F (pc := 22) d_Mo_readWrapped_22 1 rfl (g_bipush (v := 8) F (pc := 23) d_Mo_readWrapped_23 (by decide) (g_ishr F (pc := 25) d_Mo_readWrapped_25 ?_)))
  refine gc_callVV (As := [.int (c_shr x1 8)]) (st := []) F (pc := 26) d_Mo_readWrapped_26 cb_Mo_186 iv_Mo_expect np_Mo_expect o1 vc_7 (c_Mo_expect h) rfl (by decide) (Nat.le_refl _) (Nat.le_refl _) (Nat.le_of_ble_eq_true rfl) (fun c6 h => ?_)
  refine g_aload_n F (pc := 29) d_Mo_readWrapped_29 0 rfl (g_ldc F (pc := 30) d_Mo_readWrapped_30 kc_Mo_157 (g_iload_n F (pc := 32) d_Mo_readWrapped_32 1 rfl (g_isub F (pc := 33) d_Mo_readWrapped_33 ?_)))
  refine gc_callVV (As := [.int (65535 - x1)]) (st := []) F (pc := 34) d_Mo_readWrapped_34 cb_Mo_186 iv_Mo_expect np_Mo_expect o1 vc_7 (c_Mo_expect h) rfl (by decide) (Nat.le_refl _) (Nat.le_refl _) (Nat.le_of_ble_eq_true rfl) (fun c7 h => ?_)
  refine g_aload_n F (pc := 37) d_Mo_readWrapped_37 0 rfl (g_ldc F (pc := 38) d_Mo_readWrapped_38 kc_Mo_157 (g_iload_n F (pc := 40) d_Mo_readWrapped_40 1 rfl (g_isub F (pc := 41) d_Mo_readWrapped_41 (g_bipush (v := 8) F (pc := 42) d_Mo_readWrapped_42 (by decide) (g_ishr F (pc := 44) d_Mo_readWrapped_44 ?_)))))
  refine gc_callVV (As := [.int (c_shr (65535 - x1) 8)]) (st := []) F (pc := 45) d_Mo_readWrapped_45 cb_Mo_186 iv_Mo_expect np_Mo_expect o1 vc_7 (c_Mo_expect h) rfl (by decide) (Nat.le_refl _) (Nat.le_refl _) (Nat.le_of_ble_eq_true rfl) (fun c8 h => ?_)
  refine g_iconst (v := 1) F (pc := 48) d_Mo_readWrapped_48 (by decide) (g_istore_n (lv' := [(2, .int 1), (0, .ref x0), (1, .int x1)]) F (pc := 49) d_Mo_readWrapped_49 (by decide) rfl (g_iconst (v := 0) F (pc := 50) d_Mo_readWrapped_50 (by decide) (g_istore_n (lv' := [(3, .int 0), (2, .int 1), (0, .ref x0), (1, .int x1)]) F (pc := 51) d_Mo_readWrapped_51 (by decide) rfl (g_iconst (v := 0) F (pc := 52) d_Mo_readWrapped_52 (by decide) (g_istore (lv' := [(4, .int 0), (3, .int 0), (2, .int 1), (0, .ref x0), (1, .int x1)]) F (pc := 53) d_Mo_readWrapped_53 (by decide) rfl ?_)))))
  refine g_lv (lv' := [(0, .ref x0), (1, .int x1), (2, .int 1), (3, .int 0), (4, .int 0)]) F [3, 4, 2, 1, 0] rfl ?_
  obtain ⟨I9, ⟨n0, h⟩, hI9⟩ := h
  have lp12 : ∀ (n10 : Nat) (y13 : Int32) (y14 : Int32) (y15 : Int32) (c16 : cM), I9 n10 y13 y14 y15 c16 → Z (wd c16) 55 [(0, .ref x0), (1, .int x1), (2, .int y13), (3, .int y14), (4, .int y15)] [] 0 0 := by
    intro n10
    induction n10 using Nat.strongRecOn with
    | _ n10 ih11 =>
      intro y13 y14 y15 c16 h
      replace h := hI9 n10 y13 y14 y15 c16 h
      refine g_iload F (pc := 55) d_Mo_readWrapped_55 4 rfl (g_iload_n F (pc := 57) d_Mo_readWrapped_57 1 rfl ?_)
      obtain ⟨J24, hJ24, h⟩ := h
      have jn25 : J24  → Z (wd c16) 105 [(0, .ref x0), (2, .int y13), (3, .int y14)] [] 0 0 := by
        intro  h
        replace h := hJ24  h
        refine g_aload_n F (pc := 105) d_Mo_readWrapped_105 0 rfl (g_iload_n F (pc := 106) d_Mo_readWrapped_106 2 rfl (g_bipush (v := 8) F (pc := 107) d_Mo_readWrapped_107 (by decide) (g_ishr F (pc := 109) d_Mo_readWrapped_109 ?_)))
        refine gc_callVV (As := [.int (c_shr y14 8)]) (st := []) F (pc := 110) d_Mo_readWrapped_110 cb_Mo_186 iv_Mo_expect np_Mo_expect o1 vc_7 (c_Mo_expect h) rfl (by decide) (Nat.le_refl _) (Nat.le_refl _) (Nat.le_of_ble_eq_true rfl) (fun c26 h => ?_)
        refine g_aload_n F (pc := 113) d_Mo_readWrapped_113 0 rfl (g_iload_n F (pc := 114) d_Mo_readWrapped_114 2 rfl ?_)
        refine gc_callVV (As := [.int y14]) (st := []) F (pc := 115) d_Mo_readWrapped_115 cb_Mo_186 iv_Mo_expect np_Mo_expect o1 vc_7 (c_Mo_expect h) rfl (by decide) (Nat.le_refl _) (Nat.le_refl _) (Nat.le_of_ble_eq_true rfl) (fun c27 h => ?_)
        refine g_aload_n F (pc := 118) d_Mo_readWrapped_118 0 rfl (g_iload_n F (pc := 119) d_Mo_readWrapped_119 1 rfl (g_bipush (v := 8) F (pc := 120) d_Mo_readWrapped_120 (by decide) (g_ishr F (pc := 122) d_Mo_readWrapped_122 ?_)))
        refine gc_callVV (As := [.int (c_shr y13 8)]) (st := []) F (pc := 123) d_Mo_readWrapped_123 cb_Mo_186 iv_Mo_expect np_Mo_expect o1 vc_7 (c_Mo_expect h) rfl (by decide) (Nat.le_refl _) (Nat.le_refl _) (Nat.le_of_ble_eq_true rfl) (fun c28 h => ?_)
        refine g_aload_n F (pc := 126) d_Mo_readWrapped_126 0 rfl (g_iload_n F (pc := 127) d_Mo_readWrapped_127 1 rfl ?_)
        refine gc_callVV (As := [.int y13]) (st := []) F (pc := 128) d_Mo_readWrapped_128 cb_Mo_186 iv_Mo_expect np_Mo_expect o1 vc_7 (c_Mo_expect h) rfl (by decide) (Nat.le_refl _) (Nat.le_refl _) (Nat.le_of_ble_eq_true rfl) (fun c29 h => ?_)
        exact g_vret T (pc := 131) d_Mo_readWrapped_131 rfl (Nat.le_refl _) (Nat.le_refl _) (poV h)
      refine g_icmp_ge (tgt := 105) F (pc := 58) d_Mo_readWrapped_58 (by decide) (fun b17 => ?_) (fun b17 => ?_)
      · replace h := h.1 b17
        refine g_lv (lv' := [(0, .ref x0), (2, .int y13), (3, .int y14)]) F [0, 2, 3] rfl ?_
        exact jn25  h
      · replace h := h.2 b17
        refine g_aload_n F (pc := 61) d_Mo_readWrapped_61 0 rfl (gc_getI F (pc := 62) d_Mo_readWrapped_62 fi_Mo_174 o1 ?_)
        refine g_if_ne (tgt := 105) F (pc := 65) d_Mo_readWrapped_65 (by decide) (fun b30 => ?_) (fun b30 => ?_)
        · replace h := h.1 b30
          refine g_lv (lv' := [(0, .ref x0), (2, .int y13), (3, .int y14)]) F [0, 2, 3] rfl ?_
          exact jn25  h
        · replace h := h.2 b30
          refine g_aload_n F (pc := 68) d_Mo_readWrapped_68 0 rfl (gc_getR F (pc := 69) d_Mo_readWrapped_69 fi_Mo_56 o1 (g_iload F (pc := 72) d_Mo_readWrapped_72 4 rfl (g_aload_n F (pc := 74) d_Mo_readWrapped_74 0 rfl ?_)))
          refine gc_callVI (As := []) (st := [.int y15, .ref (rf x0 24)]) F (pc := 75) d_Mo_readWrapped_75 cb_Mo_183 iv_Mo_next np_Mo_next o1 vc_7 (c_Mo_next h) rfl (by decide) (Nat.le_refl _) (Nat.le_refl _) (Nat.le_of_ble_eq_true rfl) (fun v32 c31 h => ?_)
          obtain ⟨o33, h⟩ := h
          obtain ⟨o34, h⟩ := h
          refine gc_iast F (pc := 78) d_Mo_readWrapped_78 o33 o34 ?_
          obtain ⟨c35, ec35⟩ : ∃ c35 : cM, c35 = c_up c31 (rf x0 24) (Int32.toNatClampNeg y15) v32 := ⟨_, rfl⟩
          rw [← ec35]
          replace h := h c35 ec35
          refine g_iload_n F (pc := 79) d_Mo_readWrapped_79 2 rfl (g_aload_n F (pc := 80) d_Mo_readWrapped_80 0 rfl (gc_getR F (pc := 81) d_Mo_readWrapped_81 fi_Mo_56 o1 (g_iload F (pc := 84) d_Mo_readWrapped_84 4 rfl (gc_iald F (pc := 86) d_Mo_readWrapped_86 o33 o34 (g_iadd F (pc := 87) d_Mo_readWrapped_87 ?_)))))
          refine g_ldc F (pc := 88) d_Mo_readWrapped_88 kc_Mo_158 (g_irem F (pc := 90) d_Mo_readWrapped_90 (by decide) (g_istore_n (lv' := [(2, .int (c_rem (y13 + (c35 (rf x0 24) (Int32.toNatClampNeg y15))) 65521)), (0, .ref x0), (1, .int x1), (3, .int y14), (4, .int y15)]) F (pc := 91) d_Mo_readWrapped_91 (by decide) rfl (g_iload_n F (pc := 92) d_Mo_readWrapped_92 3 rfl (g_iload_n F (pc := 93) d_Mo_readWrapped_93 0 rfl (g_iadd F (pc := 94) d_Mo_readWrapped_94 ?_)))))
          refine g_ldc F (pc := 95) d_Mo_readWrapped_95 kc_Mo_158 (g_irem F (pc := 97) d_Mo_readWrapped_97 (by decide) (g_istore_n (lv' := [(3, .int (c_rem (y14 + (c_rem (y13 + (c35 (rf x0 24) (Int32.toNatClampNeg y15))) 65521)) 65521)), (2, .int (c_rem (y13 + (c35 (rf x0 24) (Int32.toNatClampNeg y15))) 65521)), (0, .ref x0), (1, .int x1), (4, .int y15)]) F (pc := 98) d_Mo_readWrapped_98 (by decide) rfl (g_iinc (v := (y15 + 1)) (lv' := [(4, .int (y15 + 1)), (3, .int (c_rem (y14 + (c_rem (y13 + (c35 (rf x0 24) (Int32.toNatClampNeg y15))) 65521)) 65521)), (2, .int (c_rem (y13 + (c35 (rf x0 24) (Int32.toNatClampNeg y15))) 65521)), (0, .ref x0), (1, .int x1)]) F (pc := 99) d_Mo_readWrapped_99 4 rfl (sk_inc (by decide)) (by decide) rfl (g_goto (tgt := 55) F (pc := 102) d_Mo_readWrapped_102 (by decide) ?_))))
          refine g_lv (lv' := [(0, .ref x0), (1, .int x1), (2, .int (c_rem (y13 + (c35 (rf x0 24) (Int32.toNatClampNeg y15))) 65521)), (3, .int (c_rem (y14 + (c_rem (y13 + (c35 (rf x0 24) (Int32.toNatClampNeg y15))) 65521)) 65521)), (4, .int (y15 + 1))]) F [3, 4, 2, 1, 0] rfl ?_
          obtain ⟨m, hm, h⟩ := h
          exact ih11 m hm _ _ _ _ h
  exact lp12 n0 _ _ _ _ h
theorem d_Mo_carryOut_0 : decode M_Mo_carryOut.2.1 0 = .ok (.aload_n 0, 1) := by decide +kernel
theorem d_Mo_carryOut_1 : decode M_Mo_carryOut.2.1 1 = .ok (.getfield 13, 3) := by decide +kernel
theorem d_Mo_carryOut_4 : decode M_Mo_carryOut.2.1 4 = .ok (.iload_n 3, 1) := by decide +kernel
theorem d_Mo_carryOut_5 : decode M_Mo_carryOut.2.1 5 = .ok (.iconst 0, 1) := by decide +kernel
theorem d_Mo_carryOut_6 : decode M_Mo_carryOut.2.1 6 = .ok (.iastore, 1) := by decide +kernel
theorem d_Mo_carryOut_7 : decode M_Mo_carryOut.2.1 7 = .ok (.iload_n 1, 1) := by decide +kernel
theorem d_Mo_carryOut_8 : decode M_Mo_carryOut.2.1 8 = .ok (.iconst 2, 1) := by decide +kernel
theorem d_Mo_carryOut_9 : decode M_Mo_carryOut.2.1 9 = .ok (.if_icmp .lt 18, 3) := by decide +kernel
theorem d_Mo_carryOut_12 : decode M_Mo_carryOut.2.1 12 = .ok (.aload_n 0, 1) := by decide +kernel
theorem d_Mo_carryOut_13 : decode M_Mo_carryOut.2.1 13 = .ok (.getfield 56, 3) := by decide +kernel
theorem d_Mo_carryOut_16 : decode M_Mo_carryOut.2.1 16 = .ok (.iconst 0, 1) := by decide +kernel
theorem d_Mo_carryOut_17 : decode M_Mo_carryOut.2.1 17 = .ok (.iaload, 1) := by decide +kernel
theorem d_Mo_carryOut_18 : decode M_Mo_carryOut.2.1 18 = .ok (.aload_n 0, 1) := by decide +kernel
theorem d_Mo_carryOut_19 : decode M_Mo_carryOut.2.1 19 = .ok (.getfield 13, 3) := by decide +kernel
theorem d_Mo_carryOut_22 : decode M_Mo_carryOut.2.1 22 = .ok (.iload_n 2, 1) := by decide +kernel
theorem d_Mo_carryOut_23 : decode M_Mo_carryOut.2.1 23 = .ok (.iaload, 1) := by decide +kernel
theorem d_Mo_carryOut_24 : decode M_Mo_carryOut.2.1 24 = .ok (.if_icmp .eq 9, 3) := by decide +kernel
theorem d_Mo_carryOut_27 : decode M_Mo_carryOut.2.1 27 = .ok (.aload_n 0, 1) := by decide +kernel
theorem d_Mo_carryOut_28 : decode M_Mo_carryOut.2.1 28 = .ok (.bipush (-10), 2) := by decide +kernel
theorem d_Mo_carryOut_30 : decode M_Mo_carryOut.2.1 30 = .ok (.putfield 174, 3) := by decide +kernel
theorem d_Mo_carryOut_33 : decode M_Mo_carryOut.2.1 33 = .ok (.iconst 2, 1) := by decide +kernel
theorem d_Mo_carryOut_34 : decode M_Mo_carryOut.2.1 34 = .ok (.istore 4, 2) := by decide +kernel
theorem d_Mo_carryOut_36 : decode M_Mo_carryOut.2.1 36 = .ok (.iload 4, 2) := by decide +kernel
theorem d_Mo_carryOut_38 : decode M_Mo_carryOut.2.1 38 = .ok (.iload_n 1, 1) := by decide +kernel
theorem d_Mo_carryOut_39 : decode M_Mo_carryOut.2.1 39 = .ok (.if_icmp .ge 286, 3) := by decide +kernel
theorem d_Mo_carryOut_42 : decode M_Mo_carryOut.2.1 42 = .ok (.aload_n 0, 1) := by decide +kernel
theorem d_Mo_carryOut_43 : decode M_Mo_carryOut.2.1 43 = .ok (.getfield 174, 3) := by decide +kernel
theorem d_Mo_carryOut_46 : decode M_Mo_carryOut.2.1 46 = .ok (.ifCond .ne 279, 3) := by decide +kernel
theorem d_Mo_carryOut_49 : decode M_Mo_carryOut.2.1 49 = .ok (.aload_n 0, 1) := by decide +kernel
theorem d_Mo_carryOut_50 : decode M_Mo_carryOut.2.1 50 = .ok (.getfield 56, 3) := by decide +kernel
theorem d_Mo_carryOut_53 : decode M_Mo_carryOut.2.1 53 = .ok (.iload 4, 2) := by decide +kernel
theorem d_Mo_carryOut_55 : decode M_Mo_carryOut.2.1 55 = .ok (.iaload, 1) := by decide +kernel
theorem d_Mo_carryOut_56 : decode M_Mo_carryOut.2.1 56 = .ok (.istore 5, 2) := by decide +kernel
theorem d_Mo_carryOut_58 : decode M_Mo_carryOut.2.1 58 = .ok (.iload 5, 2) := by decide +kernel
theorem d_Mo_carryOut_60 : decode M_Mo_carryOut.2.1 60 = .ok (.sipush 145, 3) := by decide +kernel
theorem d_Mo_carryOut_63 : decode M_Mo_carryOut.2.1 63 = .ok (.if_icmp .ne 7, 3) := by decide +kernel
theorem d_Mo_carryOut_66 : decode M_Mo_carryOut.2.1 66 = .ok (.iconst 1, 1) := by decide +kernel
theorem d_Mo_carryOut_67 : decode M_Mo_carryOut.2.1 67 = .ok (.goto 4, 3) := by decide +kernel
theorem d_Mo_carryOut_70 : decode M_Mo_carryOut.2.1 70 = .ok (.iconst 0, 1) := by decide +kernel
theorem d_Mo_carryOut_71 : decode M_Mo_carryOut.2.1 71 = .ok (.istore 6, 2) := by decide +kernel
theorem d_Mo_carryOut_73 : decode M_Mo_carryOut.2.1 73 = .ok (.iload 6, 2) := by decide +kernel
theorem d_Mo_carryOut_75 : decode M_Mo_carryOut.2.1 75 = .ok (.ifCond .eq 27, 3) := by decide +kernel
theorem d_Mo_carryOut_78 : decode M_Mo_carryOut.2.1 78 = .ok (.iload 4, 2) := by decide +kernel
theorem d_Mo_carryOut_80 : decode M_Mo_carryOut.2.1 80 = .ok (.iconst 2, 1) := by decide +kernel
theorem d_Mo_carryOut_81 : decode M_Mo_carryOut.2.1 81 = .ok (.iadd, 1) := by decide +kernel
theorem d_Mo_carryOut_82 : decode M_Mo_carryOut.2.1 82 = .ok (.iload_n 1, 1) := by decide +kernel
theorem d_Mo_carryOut_83 : decode M_Mo_carryOut.2.1 83 = .ok (.if_icmp .ge 15, 3) := by decide +kernel
theorem d_Mo_carryOut_86 : decode M_Mo_carryOut.2.1 86 = .ok (.aload_n 0, 1) := by decide +kernel
theorem d_Mo_carryOut_87 : decode M_Mo_carryOut.2.1 87 = .ok (.getfield 56, 3) := by decide +kernel
theorem d_Mo_carryOut_90 : decode M_Mo_carryOut.2.1 90 = .ok (.iload 4, 2) := by decide +kernel
theorem d_Mo_carryOut_92 : decode M_Mo_carryOut.2.1 92 = .ok (.iconst 2, 1) := by decide +kernel
theorem d_Mo_carryOut_93 : decode M_Mo_carryOut.2.1 93 = .ok (.iadd, 1) := by decide +kernel
theorem d_Mo_carryOut_94 : decode M_Mo_carryOut.2.1 94 = .ok (.iaload, 1) := by decide +kernel
theorem d_Mo_carryOut_95 : decode M_Mo_carryOut.2.1 95 = .ok (.goto 9, 3) := by decide +kernel
theorem d_Mo_carryOut_98 : decode M_Mo_carryOut.2.1 98 = .ok (.iconst (-1), 1) := by decide +kernel
theorem d_Mo_carryOut_99 : decode M_Mo_carryOut.2.1 99 = .ok (.goto 5, 3) := by decide +kernel
theorem d_Mo_carryOut_102 : decode M_Mo_carryOut.2.1 102 = .ok (.iload 5, 2) := by decide +kernel
theorem d_Mo_carryOut_104 : decode M_Mo_carryOut.2.1 104 = .ok (.istore 7, 2) := by decide +kernel
theorem d_Mo_carryOut_106 : decode M_Mo_carryOut.2.1 106 = .ok (.iload 6, 2) := by decide +kernel
theorem d_Mo_carryOut_108 : decode M_Mo_carryOut.2.1 108 = .ok (.ifCond .eq 23, 3) := by decide +kernel
theorem d_Mo_carryOut_111 : decode M_Mo_carryOut.2.1 111 = .ok (.iload 4, 2) := by decide +kernel
theorem d_Mo_carryOut_113 : decode M_Mo_carryOut.2.1 113 = .ok (.iconst 1, 1) := by decide +kernel
theorem d_Mo_carryOut_114 : decode M_Mo_carryOut.2.1 114 = .ok (.iadd, 1) := by decide +kernel
theorem d_Mo_carryOut_115 : decode M_Mo_carryOut.2.1 115 = .ok (.iload_n 1, 1) := by decide +kernel
theorem d_Mo_carryOut_116 : decode M_Mo_carryOut.2.1 116 = .ok (.if_icmp .ge 15, 3) := by decide +kernel
theorem d_Mo_carryOut_119 : decode M_Mo_carryOut.2.1 119 = .ok (.aload_n 0, 1) := by decide +kernel
theorem d_Mo_carryOut_120 : decode M_Mo_carryOut.2.1 120 = .ok (.getfield 56, 3) := by decide +kernel
theorem d_Mo_carryOut_123 : decode M_Mo_carryOut.2.1 123 = .ok (.iload 4, 2) := by decide +kernel
theorem d_Mo_carryOut_125 : decode M_Mo_carryOut.2.1 125 = .ok (.iconst 1, 1) := by decide +kernel
theorem d_Mo_carryOut_126 : decode M_Mo_carryOut.2.1 126 = .ok (.iadd, 1) := by decide +kernel
theorem d_Mo_carryOut_127 : decode M_Mo_carryOut.2.1 127 = .ok (.iaload, 1) := by decide +kernel
theorem d_Mo_carryOut_128 : decode M_Mo_carryOut.2.1 128 = .ok (.goto 4, 3) := by decide +kernel
theorem d_Mo_carryOut_131 : decode M_Mo_carryOut.2.1 131 = .ok (.iconst 0, 1) := by decide +kernel
theorem d_Mo_carryOut_132 : decode M_Mo_carryOut.2.1 132 = .ok (.istore 8, 2) := by decide +kernel
theorem d_Mo_carryOut_134 : decode M_Mo_carryOut.2.1 134 = .ok (.iload 6, 2) := by decide +kernel
theorem d_Mo_carryOut_136 : decode M_Mo_carryOut.2.1 136 = .ok (.ifCond .eq 30, 3) := by decide +kernel
theorem d_Mo_carryOut_139 : decode M_Mo_carryOut.2.1 139 = .ok (.iload 7, 2) := by decide +kernel
theorem d_Mo_carryOut_141 : decode M_Mo_carryOut.2.1 141 = .ok (.ifCond .lt 21, 3) := by decide +kernel
theorem d_Mo_carryOut_144 : decode M_Mo_carryOut.2.1 144 = .ok (.iload 8, 2) := by decide +kernel
theorem d_Mo_carryOut_146 : decode M_Mo_carryOut.2.1 146 = .ok (.iload 7, 2) := by decide +kernel
theorem d_Mo_carryOut_148 : decode M_Mo_carryOut.2.1 148 = .ok (.iadd, 1) := by decide +kernel
theorem d_Mo_carryOut_149 : decode M_Mo_carryOut.2.1 149 = .ok (.aload_n 0, 1) := by decide +kernel
theorem d_Mo_carryOut_150 : decode M_Mo_carryOut.2.1 150 = .ok (.getfield 13, 3) := by decide +kernel
theorem d_Mo_carryOut_153 : decode M_Mo_carryOut.2.1 153 = .ok (.iload_n 2, 1) := by decide +kernel
theorem d_Mo_carryOut_154 : decode M_Mo_carryOut.2.1 154 = .ok (.iaload, 1) := by decide +kernel
theorem d_Mo_carryOut_155 : decode M_Mo_carryOut.2.1 155 = .ok (.if_icmp .gt 7, 3) := by decide +kernel
theorem d_Mo_carryOut_158 : decode M_Mo_carryOut.2.1 158 = .ok (.iconst 1, 1) := by decide +kernel
theorem d_Mo_carryOut_159 : decode M_Mo_carryOut.2.1 159 = .ok (.goto 34, 3) := by decide +kernel
theorem d_Mo_carryOut_162 : decode M_Mo_carryOut.2.1 162 = .ok (.iconst 0, 1) := by decide +kernel
theorem d_Mo_carryOut_163 : decode M_Mo_carryOut.2.1 163 = .ok (.goto 30, 3) := by decide +kernel
theorem d_Mo_carryOut_166 : decode M_Mo_carryOut.2.1 166 = .ok (.iload 5, 2) := by decide +kernel
theorem d_Mo_carryOut_168 : decode M_Mo_carryOut.2.1 168 = .ok (.ifCond .le 24, 3) := by decide +kernel
theorem d_Mo_carryOut_171 : decode M_Mo_carryOut.2.1 171 = .ok (.iload 5, 2) := by decide +kernel
theorem d_Mo_carryOut_173 : decode M_Mo_carryOut.2.1 173 = .ok (.sipush 128, 3) := by decide +kernel
theorem d_Mo_carryOut_176 : decode M_Mo_carryOut.2.1 176 = .ok (.if_icmp .ge 16, 3) := by decide +kernel
theorem d_Mo_carryOut_179 : decode M_Mo_carryOut.2.1 179 = .ok (.iload 4, 2) := by decide +kernel
theorem d_Mo_carryOut_181 : decode M_Mo_carryOut.2.1 181 = .ok (.iload 5, 2) := by decide +kernel
theorem d_Mo_carryOut_183 : decode M_Mo_carryOut.2.1 183 = .ok (.iadd, 1) := by decide +kernel
theorem d_Mo_carryOut_184 : decode M_Mo_carryOut.2.1 184 = .ok (.iload_n 1, 1) := by decide +kernel
theorem d_Mo_carryOut_185 : decode M_Mo_carryOut.2.1 185 = .ok (.if_icmp .ge 7, 3) := by decide +kernel
theorem d_Mo_carryOut_188 : decode M_Mo_carryOut.2.1 188 = .ok (.iconst 1, 1) := by decide +kernel
theorem d_Mo_carryOut_189 : decode M_Mo_carryOut.2.1 189 = .ok (.goto 4, 3) := by decide +kernel
theorem d_Mo_carryOut_192 : decode M_Mo_carryOut.2.1 192 = .ok (.iconst 0, 1) := by decide +kernel
theorem d_Mo_carryOut_193 : decode M_Mo_carryOut.2.1 193 = .ok (.istore 9, 2) := by decide +kernel
theorem d_Mo_carryOut_195 : decode M_Mo_carryOut.2.1 195 = .ok (.iload 9, 2) := by decide +kernel
theorem d_Mo_carryOut_197 : decode M_Mo_carryOut.2.1 197 = .ok (.ifCond .eq 17, 3) := by decide +kernel
theorem d_Mo_carryOut_200 : decode M_Mo_carryOut.2.1 200 = .ok (.aload_n 0, 1) := by decide +kernel
theorem d_Mo_carryOut_201 : decode M_Mo_carryOut.2.1 201 = .ok (.getfield 13, 3) := by decide +kernel
theorem d_Mo_carryOut_204 : decode M_Mo_carryOut.2.1 204 = .ok (.iload_n 3, 1) := by decide +kernel
theorem d_Mo_carryOut_205 : decode M_Mo_carryOut.2.1 205 = .ok (.iaload, 1) := by decide +kernel
theorem d_Mo_carryOut_206 : decode M_Mo_carryOut.2.1 206 = .ok (.iload 7, 2) := by decide +kernel
theorem d_Mo_carryOut_208 : decode M_Mo_carryOut.2.1 208 = .ok (.iadd, 1) := by decide +kernel
theorem d_Mo_carryOut_209 : decode M_Mo_carryOut.2.1 209 = .ok (.bipush 120, 2) := by decide +kernel
theorem d_Mo_carryOut_211 : decode M_Mo_carryOut.2.1 211 = .ok (.if_icmp .le 12, 3) := by decide +kernel
theorem d_Mo_carryOut_214 : decode M_Mo_carryOut.2.1 214 = .ok (.aload_n 0, 1) := by decide +kernel
theorem d_Mo_carryOut_215 : decode M_Mo_carryOut.2.1 215 = .ok (.bipush (-10), 2) := by decide +kernel
theorem d_Mo_carryOut_217 : decode M_Mo_carryOut.2.1 217 = .ok (.putfield 174, 3) := by decide +kernel
theorem d_Mo_carryOut_220 : decode M_Mo_carryOut.2.1 220 = .ok (.goto 102, 3) := by decide +kernel
theorem d_Mo_carryOut_223 : decode M_Mo_carryOut.2.1 223 = .ok (.iconst 0, 1) := by decide +kernel
theorem d_Mo_carryOut_224 : decode M_Mo_carryOut.2.1 224 = .ok (.istore 10, 2) := by decide +kernel
theorem d_Mo_carryOut_226 : decode M_Mo_carryOut.2.1 226 = .ok (.iload 10, 2) := by decide +kernel
theorem d_Mo_carryOut_228 : decode M_Mo_carryOut.2.1 228 = .ok (.iload 7, 2) := by decide +kernel
theorem d_Mo_carryOut_230 : decode M_Mo_carryOut.2.1 230 = .ok (.if_icmp .ge 63, 3) := by decide +kernel
theorem d_Mo_carryOut_233 : decode M_Mo_carryOut.2.1 233 = .ok (.aload_n 0, 1) := by decide +kernel
theorem d_Mo_carryOut_234 : decode M_Mo_carryOut.2.1 234 = .ok (.getfield 16, 3) := by decide +kernel
theorem d_Mo_carryOut_237 : decode M_Mo_carryOut.2.1 237 = .ok (.bipush 120, 2) := by decide +kernel
theorem d_Mo_carryOut_239 : decode M_Mo_carryOut.2.1 239 = .ok (.iload_n 3, 1) := by decide +kernel
theorem d_Mo_carryOut_240 : decode M_Mo_carryOut.2.1 240 = .ok (.imul, 1) := by decide +kernel
theorem d_Mo_carryOut_241 : decode M_Mo_carryOut.2.1 241 = .ok (.aload_n 0, 1) := by decide +kernel
theorem d_Mo_carryOut_242 : decode M_Mo_carryOut.2.1 242 = .ok (.getfield 13, 3) := by decide +kernel
theorem d_Mo_carryOut_245 : decode M_Mo_carryOut.2.1 245 = .ok (.iload_n 3, 1) := by decide +kernel
theorem d_Mo_carryOut_246 : decode M_Mo_carryOut.2.1 246 = .ok (.iaload, 1) := by decide +kernel
theorem d_Mo_carryOut_247 : decode M_Mo_carryOut.2.1 247 = .ok (.iadd, 1) := by decide +kernel
theorem d_Mo_carryOut_248 : decode M_Mo_carryOut.2.1 248 = .ok (.iload 10, 2) := by decide +kernel
theorem d_Mo_carryOut_250 : decode M_Mo_carryOut.2.1 250 = .ok (.iadd, 1) := by decide +kernel
theorem d_Mo_carryOut_251 : decode M_Mo_carryOut.2.1 251 = .ok (.iload 6, 2) := by decide +kernel
theorem d_Mo_carryOut_253 : decode M_Mo_carryOut.2.1 253 = .ok (.ifCond .eq 21, 3) := by decide +kernel
theorem d_Mo_carryOut_256 : decode M_Mo_carryOut.2.1 256 = .ok (.aload_n 0, 1) := by decide +kernel
theorem d_Mo_carryOut_257 : decode M_Mo_carryOut.2.1 257 = .ok (.getfield 16, 3) := by decide +kernel
theorem d_Mo_carryOut_260 : decode M_Mo_carryOut.2.1 260 = .ok (.bipush 120, 2) := by decide +kernel
theorem d_Mo_carryOut_262 : decode M_Mo_carryOut.2.1 262 = .ok (.iload_n 2, 1) := by decide +kernel
theorem d_Mo_carryOut_263 : decode M_Mo_carryOut.2.1 263 = .ok (.imul, 1) := by decide +kernel
theorem d_Mo_carryOut_264 : decode M_Mo_carryOut.2.1 264 = .ok (.iload 8, 2) := by decide +kernel
theorem d_Mo_carryOut_266 : decode M_Mo_carryOut.2.1 266 = .ok (.iadd, 1) := by decide +kernel
theorem d_Mo_carryOut_267 : decode M_Mo_carryOut.2.1 267 = .ok (.iload 10, 2) := by decide +kernel
theorem d_Mo_carryOut_269 : decode M_Mo_carryOut.2.1 269 = .ok (.iadd, 1) := by decide +kernel
theorem d_Mo_carryOut_270 : decode M_Mo_carryOut.2.1 270 = .ok (.iaload, 1) := by decide +kernel
theorem d_Mo_carryOut_271 : decode M_Mo_carryOut.2.1 271 = .ok (.goto 15, 3) := by decide +kernel
theorem d_Mo_carryOut_274 : decode M_Mo_carryOut.2.1 274 = .ok (.aload_n 0, 1) := by decide +kernel
theorem d_Mo_carryOut_275 : decode M_Mo_carryOut.2.1 275 = .ok (.getfield 56, 3) := by decide +kernel
theorem d_Mo_carryOut_278 : decode M_Mo_carryOut.2.1 278 = .ok (.iload 4, 2) := by decide +kernel
theorem d_Mo_carryOut_280 : decode M_Mo_carryOut.2.1 280 = .ok (.iconst 1, 1) := by decide +kernel
theorem d_Mo_carryOut_281 : decode M_Mo_carryOut.2.1 281 = .ok (.iadd, 1) := by decide +kernel
theorem d_Mo_carryOut_282 : decode M_Mo_carryOut.2.1 282 = .ok (.iload 10, 2) := by decide +kernel
theorem d_Mo_carryOut_284 : decode M_Mo_carryOut.2.1 284 = .ok (.iadd, 1) := by decide +kernel
theorem d_Mo_carryOut_285 : decode M_Mo_carryOut.2.1 285 = .ok (.iaload, 1) := by decide +kernel
theorem d_Mo_carryOut_286 : decode M_Mo_carryOut.2.1 286 = .ok (.iastore, 1) := by decide +kernel
theorem d_Mo_carryOut_287 : decode M_Mo_carryOut.2.1 287 = .ok (.iinc 10 1, 3) := by decide +kernel
theorem d_Mo_carryOut_290 : decode M_Mo_carryOut.2.1 290 = .ok (.goto (-64), 3) := by decide +kernel
theorem d_Mo_carryOut_293 : decode M_Mo_carryOut.2.1 293 = .ok (.aload_n 0, 1) := by decide +kernel
theorem d_Mo_carryOut_294 : decode M_Mo_carryOut.2.1 294 = .ok (.getfield 13, 3) := by decide +kernel
theorem d_Mo_carryOut_297 : decode M_Mo_carryOut.2.1 297 = .ok (.iload_n 3, 1) := by decide +kernel
theorem d_Mo_carryOut_298 : decode M_Mo_carryOut.2.1 298 = .ok (.dup2, 1) := by decide +kernel
theorem d_Mo_carryOut_299 : decode M_Mo_carryOut.2.1 299 = .ok (.iaload, 1) := by decide +kernel
theorem d_Mo_carryOut_300 : decode M_Mo_carryOut.2.1 300 = .ok (.iload 7, 2) := by decide +kernel
theorem d_Mo_carryOut_302 : decode M_Mo_carryOut.2.1 302 = .ok (.iadd, 1) := by decide +kernel
theorem d_Mo_carryOut_303 : decode M_Mo_carryOut.2.1 303 = .ok (.iastore, 1) := by decide +kernel
theorem d_Mo_carryOut_304 : decode M_Mo_carryOut.2.1 304 = .ok (.iload 4, 2) := by decide +kernel
theorem d_Mo_carryOut_306 : decode M_Mo_carryOut.2.1 306 = .ok (.iload 6, 2) := by decide +kernel
theorem d_Mo_carryOut_308 : decode M_Mo_carryOut.2.1 308 = .ok (.ifCond .eq 7, 3) := by decide +kernel
theorem d_Mo_carryOut_311 : decode M_Mo_carryOut.2.1 311 = .ok (.iconst 3, 1) := by decide +kernel
theorem d_Mo_carryOut_312 : decode M_Mo_carryOut.2.1 312 = .ok (.goto 7, 3) := by decide +kernel
theorem d_Mo_carryOut_315 : decode M_Mo_carryOut.2.1 315 = .ok (.iconst 1, 1) := by decide +kernel
theorem d_Mo_carryOut_316 : decode M_Mo_carryOut.2.1 316 = .ok (.iload 7, 2) := by decide +kernel
theorem d_Mo_carryOut_318 : decode M_Mo_carryOut.2.1 318 = .ok (.iadd, 1) := by decide +kernel
theorem d_Mo_carryOut_319 : decode M_Mo_carryOut.2.1 319 = .ok (.iadd, 1) := by decide +kernel
theorem d_Mo_carryOut_320 : decode M_Mo_carryOut.2.1 320 = .ok (.istore 4, 2) := by decide +kernel
theorem d_Mo_carryOut_322 : decode M_Mo_carryOut.2.1 322 = .ok (.goto (-286), 3) := by decide +kernel
theorem d_Mo_carryOut_325 : decode M_Mo_carryOut.2.1 325 = .ok (.aload_n 0, 1) := by decide +kernel
theorem d_Mo_carryOut_326 : decode M_Mo_carryOut.2.1 326 = .ok (.getfield 174, 3) := by decide +kernel
theorem d_Mo_carryOut_329 : decode M_Mo_carryOut.2.1 329 = .ok (.ifCond .ne 24, 3) := by decide +kernel
theorem d_Mo_carryOut_332 : decode M_Mo_carryOut.2.1 332 = .ok (.aload_n 0, 1) := by decide +kernel
theorem d_Mo_carryOut_333 : decode M_Mo_carryOut.2.1 333 = .ok (.getfield 56, 3) := by decide +kernel
theorem d_Mo_carryOut_336 : decode M_Mo_carryOut.2.1 336 = .ok (.iconst 1, 1) := by decide +kernel
theorem d_Mo_carryOut_337 : decode M_Mo_carryOut.2.1 337 = .ok (.iaload, 1) := by decide +kernel
theorem d_Mo_carryOut_338 : decode M_Mo_carryOut.2.1 338 = .ok (.aload_n 0, 1) := by decide +kernel
theorem d_Mo_carryOut_339 : decode M_Mo_carryOut.2.1 339 = .ok (.getfield 13, 3) := by decide +kernel
theorem d_Mo_carryOut_342 : decode M_Mo_carryOut.2.1 342 = .ok (.iload_n 3, 1) := by decide +kernel
theorem d_Mo_carryOut_343 : decode M_Mo_carryOut.2.1 343 = .ok (.iaload, 1) := by decide +kernel
theorem d_Mo_carryOut_344 : decode M_Mo_carryOut.2.1 344 = .ok (.if_icmp .eq 9, 3) := by decide +kernel
theorem d_Mo_carryOut_347 : decode M_Mo_carryOut.2.1 347 = .ok (.aload_n 0, 1) := by decide +kernel
theorem d_Mo_carryOut_348 : decode M_Mo_carryOut.2.1 348 = .ok (.bipush (-10), 2) := by decide +kernel
theorem d_Mo_carryOut_350 : decode M_Mo_carryOut.2.1 350 = .ok (.putfield 174, 3) := by decide +kernel
theorem d_Mo_carryOut_353 : decode M_Mo_carryOut.2.1 353 = .ok (.return_, 1) := by decide +kernel
def f_Mo_carryOut (x0 : Nat) (x1 : Int32) (x2 : Int32) (x3 : Int32) (c : cM) (K : cM → Prop) : Prop :=
  kd x0 = 7 ∧ (kd (rf x0 2) = 100 ∧ (vp_in x3 (ln (rf x0 2)) ∧ (∀ c4 : cM, c4 = c_up c (rf x0 2) (Int32.toNatClampNeg x3) 0 → (∃ J13 : cM → Prop, (∀ (c12 : cM), J13 c12 → (∃ I15 : Nat → Int32 → cM → Prop, (∃ n, I15 n 2 c12) ∧ ∀ (n16 : Nat) (y19 : Int32) (c20 : cM), I15 n16 y19 c20 → (∃ J2444 : Prop, (J2444  → (((¬ (c20 x0 22) = 0) → (K c20)) ∧ ((c20 x0 22) = 0 → (kd (rf x0 24) = 100 ∧ (vp_in 1 (ln (rf x0 24)) ∧ ((((c20 (rf x0 24) (Int32.toNatClampNeg 1)) = (c20 (rf x0 2) (Int32.toNatClampNeg x3))) → (K c20)) ∧ (¬ ((c20 (rf x0 24) (Int32.toNatClampNeg 1)) = (c20 (rf x0 2) (Int32.toNatClampNeg x3))) → (∀ c2450 : cM, c2450 = c_up c20 x0 22 (-10) → (K c2450))))))))) ∧ (((x1 ≤ y19) → (J2444)) ∧ (¬ (x1 ≤ y19) → (((¬ (c20 x0 22) = 0) → (J2444)) ∧ ((c20 x0 22) = 0 → (kd (rf x0 24) = 100 ∧ (vp_in y19 (ln (rf x0 24)) ∧ (∃ J2456 : Int32 → Prop, (∀ (s2455 : Int32), J2456 s2455 → (∃ J2462 : Int32 → Prop, (∀ (s2461 : Int32), J2462 s2461 → (∃ J2468 : Int32 → Prop, (∀ (s2467 : Int32), J2468 s2467 → (∃ J2478 : Int32 → Prop, (∀ (s2477 : Int32), J2478 s2477 → (∃ J2500 : Int32 → cM → Prop, (∀ (y2498 : Int32) (c2499 : cM), J2500 y2498 c2499 → (∃ m, m < n16 ∧ I15 m y2498 c2499)) ∧ (∃ J2517 : Prop, (J2517  → (∀ c2519 : cM, c2519 = c_up c20 x0 22 (-10) → (J2500 y19 c2519))) ∧ (((s2477 = 0) → (J2517)) ∧ (¬ (s2477 = 0) → (((((c20 (rf x0 2) (Int32.toNatClampNeg x3)) + s2461) ≤ 120) → (∃ I2521 : Nat → Int32 → cM → Prop, (∃ n, I2521 n 0 c20) ∧ ∀ (n2522 : Nat) (y2525 : Int32) (c2526 : cM), I2521 n2522 y2525 c2526 → (((s2461 ≤ y2525) → (∀ c2528 : cM, c2528 = c_up c2526 (rf x0 2) (Int32.toNatClampNeg x3) ((c2526 (rf x0 2) (Int32.toNatClampNeg x3)) + s2461) → (∃ J2531 : Int32 → Prop, (∀ (s2530 : Int32), J2531 s2530 → (J2500 (y19 + s2530) c2528)) ∧ (((s2455 = 0) → (J2531 (1 + s2461))) ∧ (¬ (s2455 = 0) → (J2531 3)))))) ∧ (¬ (s2461 ≤ y2525) → (∃ J2538 : Int32 → Prop, (∀ (s2537 : Int32), J2538 s2537 → (kd (rf x0 3) = 100 ∧ (vp_in (((120 * x3) + (c2526 (rf x0 2) (Int32.toNatClampNeg x3))) + y2525) (ln (rf x0 3)) ∧ (∀ c2542 : cM, c2542 = c_up c2526 (rf x0 3) (Int32.toNatClampNeg (((120 * x3) + (c2526 (rf x0 2) (Int32.toNatClampNeg x3))) + y2525)) s2537 → (∃ m, m < n2522 ∧ I2521 m (y2525 + 1) c2542))))) ∧ (((s2455 = 0) → (vp_in ((y19 + 1) + y2525) (ln (rf x0 24)) ∧ (J2538 (c2526 (rf x0 24) (Int32.toNatClampNeg ((y19 + 1) + y2525)))))) ∧ (¬ (s2455 = 0) → (kd (rf x0 3) = 100 ∧ (vp_in (((120 * x2) + s2467) + y2525) (ln (rf x0 3)) ∧ (J2538 (c2526 (rf x0 3) (Int32.toNatClampNeg (((120 * x2) + s2467) + y2525))))))))))))) ∧ (¬ (((c20 (rf x0 2) (Int32.toNatClampNeg x3)) + s2461) ≤ 120) → (J2517)))))))) ∧ (((s2455 = 0) → (∃ J2549 : Prop, (J2549  → (J2478 0)) ∧ ((((c20 (rf x0 24) (Int32.toNatClampNeg y19)) ≤ 0) → (J2549)) ∧ (¬ ((c20 (rf x0 24) (Int32.toNatClampNeg y19)) ≤ 0) → (((128 ≤ (c20 (rf x0 24) (Int32.toNatClampNeg y19))) → (J2549)) ∧ (¬ (128 ≤ (c20 (rf x0 24) (Int32.toNatClampNeg y19))) → (((x1 ≤ (y19 + (c20 (rf x0 24) (Int32.toNatClampNeg y19)))) → (J2549)) ∧ (¬ (x1 ≤ (y19 + (c20 (rf x0 24) (Int32.toNatClampNeg y19)))) → (J2478 1))))))))) ∧ (¬ (s2455 = 0) → (∃ J2556 : Prop, (J2556  → (J2478 0)) ∧ (((s2461 < 0) → (J2556)) ∧ (¬ (s2461 < 0) → (vp_in x2 (ln (rf x0 2)) ∧ ((((c20 (rf x0 2) (Int32.toNatClampNeg x2)) < (s2467 + s2461)) → (J2556)) ∧ (¬ ((c20 (rf x0 2) (Int32.toNatClampNeg x2)) < (s2467 + s2461)) → (J2478 1))))))))))) ∧ (∃ J2562 : Prop, (J2562  → (J2468 0)) ∧ (((s2455 = 0) → (J2562)) ∧ (¬ (s2455 = 0) → (((x1 ≤ (y19 + 1)) → (J2562)) ∧ (¬ (x1 ≤ (y19 + 1)) → (vp_in (y19 + 1) (ln (rf x0 24)) ∧ (J2468 (c20 (rf x0 24) (Int32.toNatClampNeg (y19 + 1)))))))))))) ∧ (((s2455 = 0) → (J2462 (c20 (rf x0 24) (Int32.toNatClampNeg y19)))) ∧ (¬ (s2455 = 0) → (((x1 ≤ (y19 + 2)) → (J2462 (-1))) ∧ (¬ (x1 ≤ (y19 + 2)) → (vp_in (y19 + 2) (ln (rf x0 24)) ∧ (J2462 (c20 (rf x0 24) (Int32.toNatClampNeg (y19 + 2))))))))))) ∧ (((¬ (c20 (rf x0 24) (Int32.toNatClampNeg y19)) = 145) → (J2456 0)) ∧ ((c20 (rf x0 24) (Int32.toNatClampNeg y19)) = 145 → (J2456 1))))))))))))) ∧ (∃ J2572 : Prop, (J2572  → (∀ c2574 : cM, c2574 = c_up c4 x0 22 (-10) → (J13 c2574))) ∧ (((x1 < 2) → (J2572)) ∧ (¬ (x1 < 2) → (kd (rf x0 24) = 100 ∧ (vp_in 0 (ln (rf x0 24)) ∧ (vp_in x2 (ln (rf x0 2)) ∧ ((((c4 (rf x0 24) (Int32.toNatClampNeg 0)) = (c4 (rf x0 2) (Int32.toNatClampNeg x2))) → (J13 c4)) ∧ (¬ ((c4 (rf x0 24) (Int32.toNatClampNeg 0)) = (c4 (rf x0 2) (Int32.toNatClampNeg x2))) → (J2572)))))))))))))
theorem c_Mo_carryOut {x0 : Nat} {x1 : Int32} {x2 : Int32} {x3 : Int32} {c : cM} {K : cM → Prop} (h : f_Mo_carryOut x0 x1 x2 x3 c K) : Ct M_Mo_carryOut 0 0 0 (wd c) [.ref x0, .int x1, .int x2, .int x3] (PoV K) := by
  refine Ct.of (by decide +kernel) (Nat.le_of_ble_eq_true rfl) (fun Z T => ?_)
  have F := T.F
  unfold f_Mo_carryOut at h
  show Z (wd c) 0 [(0, .ref x0), (1, .int x1), (2, .int x2), (3, .int x3)] [] 0 0
  refine g_aload_n F (pc := 0) d_Mo_carryOut_0 0 rfl ?_
  obtain ⟨o1, h⟩ := h
  refine gc_getR F (pc := 1) d_Mo_carryOut_1 fi_Mo_13 o1 (g_iload_n F (pc := 4) d_Mo_carryOut_4 3 rfl (g_iconst (v := 0) F (pc := 5) d_Mo_carryOut_5 (by decide) ?_))
  obtain ⟨o2, h⟩ := h
  obtain ⟨o3, h⟩ := h
  refine gc_iast F (pc := 6) d_Mo_carryOut_6 o2 o3 ?_
  obtain ⟨c4, ec4⟩ : ∃ c4 : cM, c4 = c_up c (rf x0 2) (Int32.toNatClampNeg x3) 0 := ⟨_, rfl⟩
  rw [← ec4]
  replace h := h c4 ec4
  refine g_iload_n F (pc := 7) d_Mo_carryOut_7 1 rfl (g_iconst (v := 2) F (pc := 8) d_Mo_carryOut_8 (by decide) ?_)
  obtain ⟨J13, hJ13, h⟩ := h
  have jn14 : ∀ (c12 : cM), J13 c12 → Z (wd c12) 33 [(0, .ref x0), (1, .int x1), (2, .int x2), (3, .int x3)] [] 0 0 := by
    intro c12 h
    replace h := hJ13 c12 h
    refine g_iconst (v := 2) F (pc := 33) d_Mo_carryOut_33 (by decide) (g_istore (lv' := [(4, .int 2), (0, .ref x0), (1, .int x1), (2, .int x2), (3, .int x3)]) F (pc := 34) d_Mo_carryOut_34 (by decide) rfl ?_)
    refine g_lv (lv' := [(0, .ref x0), (1, .int x1), (2, .int x2), (3, .int x3), (4, .int 2)]) F [1, 2, 3, 4, 0] rfl ?_
    obtain ⟨I15, ⟨n0, h⟩, hI15⟩ := h
    have lp18 : ∀ (n16 : Nat) (y19 : Int32) (c20 : cM), I15 n16 y19 c20 → Z (wd c20) 36 [(0, .ref x0), (1, .int x1), (2, .int x2), (3, .int x3), (4, .int y19)] [] 0 0 := by
      intro n16
      induction n16 using Nat.strongRecOn with
      | _ n16 ih17 =>
        intro y19 c20 h
        replace h := hI15 n16 y19 c20 h
        refine g_iload F (pc := 36) d_Mo_carryOut_36 4 rfl (g_iload_n F (pc := 38) d_Mo_carryOut_38 1 rfl ?_)
        obtain ⟨J2444, hJ2444, h⟩ := h
        have jn2445 : J2444  → Z (wd c20) 325 [(0, .ref x0), (3, .int x3)] [] 0 0 := by
          intro  h
          replace h := hJ2444  h
          refine g_aload_n F (pc := 325) d_Mo_carryOut_325 0 rfl (gc_getI F (pc := 326) d_Mo_carryOut_326 fi_Mo_174 o1 ?_)
          refine g_if_ne (tgt := 353) F (pc := 329) d_Mo_carryOut_329 (by decide) (fun b2446 => ?_) (fun b2446 => ?_)
          · replace h := h.1 b2446
            exact g_vret T (pc := 353) d_Mo_carryOut_353 rfl (Nat.le_refl _) (Nat.le_refl _) (poV h)
          · replace h := h.2 b2446
            refine g_aload_n F (pc := 332) d_Mo_carryOut_332 0 rfl (gc_getR F (pc := 333) d_Mo_carryOut_333 fi_Mo_56 o1 (g_iconst (v := 1) F (pc := 336) d_Mo_carryOut_336 (by decide) ?_))
            obtain ⟨o2447, h⟩ := h
            obtain ⟨o2448, h⟩ := h
            refine gc_iald F (pc := 337) d_Mo_carryOut_337 o2447 o2448 (g_aload_n F (pc := 338) d_Mo_carryOut_338 0 rfl (gc_getR F (pc := 339) d_Mo_carryOut_339 fi_Mo_13 o1 (g_iload_n F (pc := 342) d_Mo_carryOut_342 1 rfl (gc_iald F (pc := 343) d_Mo_carryOut_343 o2 o3 ?_))))
            refine g_icmp_eq (tgt := 353) F (pc := 344) d_Mo_carryOut_344 (by decide) (fun b2449 => ?_) (fun b2449 => ?_)
            · replace h := h.1 b2449
              exact g_vret T (pc := 353) d_Mo_carryOut_353 rfl (Nat.le_refl _) (Nat.le_refl _) (poV h)
            · replace h := h.2 b2449
              refine g_aload_n F (pc := 347) d_Mo_carryOut_347 0 rfl (g_bipush (v := (-10)) F (pc := 348) d_Mo_carryOut_348 (by decide) (gc_putI F (pc := 350) d_Mo_carryOut_350 pi_Mo_174 o1 ?_))
              obtain ⟨c2450, ec2450⟩ : ∃ c2450 : cM, c2450 = c_up c20 x0 22 (-10) := ⟨_, rfl⟩
              rw [← ec2450]
              replace h := h c2450 ec2450
              exact g_vret T (pc := 353) d_Mo_carryOut_353 rfl (Nat.le_refl _) (Nat.le_refl _) (poV h)
        refine g_icmp_ge (tgt := 325) F (pc := 39) d_Mo_carryOut_39 (by decide) (fun b21 => ?_) (fun b21 => ?_)
        · replace h := h.1 b21
          refine g_lv (lv' := [(0, .ref x0), (3, .int x3)]) F [0, 3] rfl ?_
          exact jn2445  h
        · replace h := h.2 b21
          refine g_aload_n F (pc := 42) d_Mo_carryOut_42 0 rfl (gc_getI F (pc := 43) d_Mo_carryOut_43 fi_Mo_174 o1 ?_)
          refine g_if_ne (tgt := 325) F (pc := 46) d_Mo_carryOut_46 (by decide) (fun b2451 => ?_) (fun b2451 => ?_)
          · replace h := h.1 b2451
            refine g_lv (lv' := [(0, .ref x0), (3, .int x3)]) F [0, 3] rfl ?_
            exact jn2445  h
          · replace h := h.2 b2451
            refine g_aload_n F (pc := 49) d_Mo_carryOut_49 0 rfl (gc_getR F (pc := 50) d_Mo_carryOut_50 fi_Mo_56 o1 (g_iload F (pc := 53) d_Mo_carryOut_53 4 rfl ?_))
            obtain ⟨o2452, h⟩ := h
            obtain ⟨o2453, h⟩ := h
            refine gc_iald F (pc := 55) d_Mo_carryOut_55 o2452 o2453 (g_istore (lv' := [(5, .int (c20 (rf x0 24) (Int32.toNatClampNeg y19))), (0, .ref x0), (1, .int x1), (2, .int x2), (3, .int x3), (4, .int y19)]) F (pc := 56) d_Mo_carryOut_56 (by decide) rfl (g_iload F (pc := 58) d_Mo_carryOut_58 0 rfl (g_sipush (v := 145) F (pc := 60) d_Mo_carryOut_60 (by decide) ?_)))
            obtain ⟨J2456, hJ2456, h⟩ := h
            have jn2457 : ∀ (s2455 : Int32), J2456 s2455 → Z (wd c20) 71 [(0, .ref x0), (1, .int x1), (2, .int x2), (3, .int x3), (4, .int y19), (5, .int (c20 (rf x0 24) (Int32.toNatClampNeg y19)))] [.int s2455] 0 0 := by
              intro s2455 h
              replace h := hJ2456 s2455 h
              refine g_istore (lv' := [(6, .int s2455), (0, .ref x0), (1, .int x1), (2, .int x2), (3, .int x3), (4, .int y19), (5, .int (c20 (rf x0 24) (Int32.toNatClampNeg y19)))]) F (pc := 71) d_Mo_carryOut_71 (by decide) rfl (g_iload F (pc := 73) d_Mo_carryOut_73 0 rfl ?_)
              obtain ⟨J2462, hJ2462, h⟩ := h
              have jn2463 : ∀ (s2461 : Int32), J2462 s2461 → Z (wd c20) 104 [(0, .ref x0), (1, .int x1), (2, .int x2), (3, .int x3), (4, .int y19), (5, .int (c20 (rf x0 24) (Int32.toNatClampNeg y19))), (6, .int s2455)] [.int s2461] 0 0 := by
                intro s2461 h
                replace h := hJ2462 s2461 h
                refine g_istore (lv' := [(7, .int s2461), (0, .ref x0), (1, .int x1), (2, .int x2), (3, .int x3), (4, .int y19), (5, .int (c20 (rf x0 24) (Int32.toNatClampNeg y19))), (6, .int s2455)]) F (pc := 104) d_Mo_carryOut_104 (by decide) rfl (g_iload F (pc := 106) d_Mo_carryOut_106 7 rfl ?_)
                obtain ⟨J2468, hJ2468, h⟩ := h
                have jn2469 : ∀ (s2467 : Int32), J2468 s2467 → Z (wd c20) 132 [(0, .ref x0), (1, .int x1), (2, .int x2), (3, .int x3), (4, .int y19), (5, .int (c20 (rf x0 24) (Int32.toNatClampNeg y19))), (6, .int s2455), (7, .int s2461)] [.int s2467] 0 0 := by
                  intro s2467 h
                  replace h := hJ2468 s2467 h
                  refine g_istore (lv' := [(8, .int s2467), (0, .ref x0), (1, .int x1), (2, .int x2), (3, .int x3), (4, .int y19), (5, .int (c20 (rf x0 24) (Int32.toNatClampNeg y19))), (6, .int s2455), (7, .int s2461)]) F (pc := 132) d_Mo_carryOut_132 (by decide) rfl (g_iload F (pc := 134) d_Mo_carryOut_134 7 rfl ?_)
                  obtain ⟨J2478, hJ2478, h⟩ := h
                  have jn2479 : ∀ (s2477 : Int32), J2478 s2477 → Z (wd c20) 193 [(0, .ref x0), (1, .int x1), (2, .int x2), (3, .int x3), (4, .int y19), (6, .int s2455), (7, .int s2461), (8, .int s2467)] [.int s2477] 0 0 := by
                    intro s2477 h
                    replace h := hJ2478 s2477 h
                    refine g_istore (lv' := [(9, .int s2477), (0, .ref x0), (1, .int x1), (2, .int x2), (3, .int x3), (4, .int y19), (6, .int s2455), (7, .int s2461), (8, .int s2467)]) F (pc := 193) d_Mo_carryOut_193 (by decide) rfl (g_iload F (pc := 195) d_Mo_carryOut_195 0 rfl ?_)
                    obtain ⟨J2500, hJ2500, h⟩ := h
                    have jn2501 : ∀ (y2498 : Int32) (c2499 : cM), J2500 y2498 c2499 → Z (wd c2499) 322 [(0, .ref x0), (1, .int x1), (2, .int x2), (3, .int x3), (4, .int y2498)] [] 0 0 := by
                      intro y2498 c2499 h
                      replace h := hJ2500 y2498 c2499 h
                      refine g_goto (tgt := 36) F (pc := 322) d_Mo_carryOut_322 (by decide) ?_
                      obtain ⟨m, hm, h⟩ := h
                      exact ih17 m hm _ _ h
                    obtain ⟨J2517, hJ2517, h⟩ := h
                    have jn2518 : J2517  → Z (wd c20) 214 [(0, .ref x0), (1, .int x1), (2, .int x2), (3, .int x3), (4, .int y19)] [] 0 0 := by
                      intro  h
                      replace h := hJ2517  h
                      refine g_aload_n F (pc := 214) d_Mo_carryOut_214 0 rfl (g_bipush (v := (-10)) F (pc := 215) d_Mo_carryOut_215 (by decide) (gc_putI F (pc := 217) d_Mo_carryOut_217 pi_Mo_174 o1 ?_))
                      obtain ⟨c2519, ec2519⟩ : ∃ c2519 : cM, c2519 = c_up c20 x0 22 (-10) := ⟨_, rfl⟩
                      rw [← ec2519]
                      replace h := h c2519 ec2519
                      refine g_goto (tgt := 322) F (pc := 220) d_Mo_carryOut_220 (by decide) ?_
                      exact jn2501 _ _ h
                    refine g_if_eq (tgt := 214) F (pc := 197) d_Mo_carryOut_197 (by decide) (fun b2480 => ?_) (fun b2480 => ?_)
                    · replace h := h.1 b2480
                      refine g_lv (lv' := [(0, .ref x0), (1, .int x1), (2, .int x2), (3, .int x3), (4, .int y19)]) F [1, 2, 3, 4, 5] rfl ?_
                      exact jn2518  h
                    · replace h := h.2 b2480
                      refine g_aload_n F (pc := 200) d_Mo_carryOut_200 1 rfl (gc_getR F (pc := 201) d_Mo_carryOut_201 fi_Mo_13 o1 (g_iload_n F (pc := 204) d_Mo_carryOut_204 4 rfl (gc_iald F (pc := 205) d_Mo_carryOut_205 o2 o3 (g_iload F (pc := 206) d_Mo_carryOut_206 7 rfl (g_iadd F (pc := 208) d_Mo_carryOut_208 ?_)))))
                      refine g_bipush (v := 120) F (pc := 209) d_Mo_carryOut_209 (by decide) ?_
                      refine g_icmp_le (tgt := 223) F (pc := 211) d_Mo_carryOut_211 (by decide) (fun b2520 => ?_) (fun b2520 => ?_)
                      · replace h := h.1 b2520
                        refine g_iconst (v := 0) F (pc := 223) d_Mo_carryOut_223 (by decide) (g_istore (lv' := [(10, .int 0), (9, .int s2477), (0, .ref x0), (1, .int x1), (2, .int x2), (3, .int x3), (4, .int y19), (6, .int s2455), (7, .int s2461), (8, .int s2467)]) F (pc := 224) d_Mo_carryOut_224 (by decide) rfl ?_)
                        refine g_lv (lv' := [(0, .ref x0), (1, .int x1), (2, .int x2), (3, .int x3), (4, .int y19), (6, .int s2455), (7, .int s2461), (8, .int s2467), (10, .int 0)]) F [2, 3, 4, 5, 6, 7, 8, 9, 0] rfl ?_
                        obtain ⟨I2521, ⟨n0, h⟩, hI2521⟩ := h
                        have lp2524 : ∀ (n2522 : Nat) (y2525 : Int32) (c2526 : cM), I2521 n2522 y2525 c2526 → Z (wd c2526) 226 [(0, .ref x0), (1, .int x1), (2, .int x2), (3, .int x3), (4, .int y19), (6, .int s2455), (7, .int s2461), (8, .int s2467), (10, .int y2525)] [] 0 0 := by
                          intro n2522
                          induction n2522 using Nat.strongRecOn with
                          | _ n2522 ih2523 =>
                            intro y2525 c2526 h
                            replace h := hI2521 n2522 y2525 c2526 h
                            refine g_iload F (pc := 226) d_Mo_carryOut_226 8 rfl (g_iload F (pc := 228) d_Mo_carryOut_228 6 rfl ?_)
                            refine g_icmp_ge (tgt := 293) F (pc := 230) d_Mo_carryOut_230 (by decide) (fun b2527 => ?_) (fun b2527 => ?_)
                            · replace h := h.1 b2527
                              refine g_aload_n F (pc := 293) d_Mo_carryOut_293 0 rfl (gc_getR F (pc := 294) d_Mo_carryOut_294 fi_Mo_13 o1 (g_iload_n F (pc := 297) d_Mo_carryOut_297 3 rfl (g_dup2 F (pc := 298) d_Mo_carryOut_298 rfl rfl (gc_iald F (pc := 299) d_Mo_carryOut_299 o2 o3 (g_iload F (pc := 300) d_Mo_carryOut_300 6 rfl ?_)))))
                              refine g_iadd F (pc := 302) d_Mo_carryOut_302 (gc_iast F (pc := 303) d_Mo_carryOut_303 o2 o3 ?_)
                              obtain ⟨c2528, ec2528⟩ : ∃ c2528 : cM, c2528 = c_up c2526 (rf x0 2) (Int32.toNatClampNeg x3) ((c2526 (rf x0 2) (Int32.toNatClampNeg x3)) + s2461) := ⟨_, rfl⟩
                              rw [← ec2528]
                              replace h := h c2528 ec2528
                              refine g_iload F (pc := 304) d_Mo_carryOut_304 4 rfl (g_iload F (pc := 306) d_Mo_carryOut_306 5 rfl ?_)
                              obtain ⟨J2531, hJ2531, h⟩ := h
                              have jn2532 : ∀ (s2530 : Int32), J2531 s2530 → Z (wd c2528) 319 [(0, .ref x0), (1, .int x1), (2, .int x2), (3, .int x3)] [.int s2530, .int y19] 0 0 := by
                                intro s2530 h
                                replace h := hJ2531 s2530 h
                                refine g_iadd F (pc := 319) d_Mo_carryOut_319 (g_istore (lv' := [(4, .int (y19 + s2530)), (0, .ref x0), (1, .int x1), (2, .int x2), (3, .int x3)]) F (pc := 320) d_Mo_carryOut_320 (by decide) rfl ?_)
                                refine g_lv (lv' := [(0, .ref x0), (1, .int x1), (2, .int x2), (3, .int x3), (4, .int (y19 + s2530))]) F [1, 2, 3, 4, 0] rfl ?_
                                exact jn2501 _ _ h
                              refine g_if_eq (tgt := 315) F (pc := 308) d_Mo_carryOut_308 (by decide) (fun b2529 => ?_) (fun b2529 => ?_)
                              · replace h := h.1 b2529
                                refine g_iconst (v := 1) F (pc := 315) d_Mo_carryOut_315 (by decide) (g_iload F (pc := 316) d_Mo_carryOut_316 6 rfl (g_iadd F (pc := 318) d_Mo_carryOut_318 ?_))
                                refine g_lv (lv' := [(0, .ref x0), (1, .int x1), (2, .int x2), (3, .int x3)]) F [0, 1, 2, 3] rfl ?_
                                exact jn2532 _ h
                              · replace h := h.2 b2529
                                refine g_iconst (v := 3) F (pc := 311) d_Mo_carryOut_311 (by decide) (g_goto (tgt := 319) F (pc := 312) d_Mo_carryOut_312 (by decide) ?_)
                                refine g_lv (lv' := [(0, .ref x0), (1, .int x1), (2, .int x2), (3, .int x3)]) F [0, 1, 2, 3] rfl ?_
                                exact jn2532 _ h
                            · replace h := h.2 b2527
                              refine g_aload_n F (pc := 233) d_Mo_carryOut_233 0 rfl (gc_getR F (pc := 234) d_Mo_carryOut_234 fi_Mo_16 o1 (g_bipush (v := 120) F (pc := 237) d_Mo_carryOut_237 (by decide) (g_iload_n F (pc := 239) d_Mo_carryOut_239 3 rfl (g_imul F (pc := 240) d_Mo_carryOut_240 (g_aload_n F (pc := 241) d_Mo_carryOut_241 0 rfl ?_)))))
                              refine gc_getR F (pc := 242) d_Mo_carryOut_242 fi_Mo_13 o1 (g_iload_n F (pc := 245) d_Mo_carryOut_245 3 rfl (gc_iald F (pc := 246) d_Mo_carryOut_246 o2 o3 (g_iadd F (pc := 247) d_Mo_carryOut_247 (g_iload F (pc := 248) d_Mo_carryOut_248 8 rfl (g_iadd F (pc := 250) d_Mo_carryOut_250 ?_)))))
                              refine g_iload F (pc := 251) d_Mo_carryOut_251 5 rfl ?_
                              obtain ⟨J2538, hJ2538, h⟩ := h
                              have jn2539 : ∀ (s2537 : Int32), J2538 s2537 → Z (wd c2526) 286 [(0, .ref x0), (1, .int x1), (2, .int x2), (3, .int x3), (4, .int y19), (6, .int s2455), (7, .int s2461), (8, .int s2467), (10, .int y2525)] [.int s2537, .int (((120 * x3) + (c2526 (rf x0 2) (Int32.toNatClampNeg x3))) + y2525), .ref (rf x0 3)] 0 0 := by
                                intro s2537 h
                                replace h := hJ2538 s2537 h
                                obtain ⟨o2540, h⟩ := h
                                obtain ⟨o2541, h⟩ := h
                                refine gc_iast F (pc := 286) d_Mo_carryOut_286 o2540 o2541 ?_
                                obtain ⟨c2542, ec2542⟩ : ∃ c2542 : cM, c2542 = c_up c2526 (rf x0 3) (Int32.toNatClampNeg (((120 * x3) + (c2526 (rf x0 2) (Int32.toNatClampNeg x3))) + y2525)) s2537 := ⟨_, rfl⟩
                                rw [← ec2542]
                                replace h := h c2542 ec2542
                                refine g_iinc (v := (y2525 + 1)) (lv' := [(10, .int (y2525 + 1)), (0, .ref x0), (1, .int x1), (2, .int x2), (3, .int x3), (4, .int y19), (6, .int s2455), (7, .int s2461), (8, .int s2467)]) F (pc := 287) d_Mo_carryOut_287 8 rfl (sk_inc (by decide)) (by decide) rfl (g_goto (tgt := 226) F (pc := 290) d_Mo_carryOut_290 (by decide) ?_)
                                refine g_lv (lv' := [(0, .ref x0), (1, .int x1), (2, .int x2), (3, .int x3), (4, .int y19), (6, .int s2455), (7, .int s2461), (8, .int s2467), (10, .int (y2525 + 1))]) F [1, 2, 3, 4, 5, 6, 7, 8, 0] rfl ?_
                                obtain ⟨m, hm, h⟩ := h
                                exact ih2523 m hm _ _ h
                              refine g_if_eq (tgt := 274) F (pc := 253) d_Mo_carryOut_253 (by decide) (fun b2533 => ?_) (fun b2533 => ?_)
                              · replace h := h.1 b2533
                                refine g_aload_n F (pc := 274) d_Mo_carryOut_274 0 rfl (gc_getR F (pc := 275) d_Mo_carryOut_275 fi_Mo_56 o1 (g_iload F (pc := 278) d_Mo_carryOut_278 4 rfl (g_iconst (v := 1) F (pc := 280) d_Mo_carryOut_280 (by decide) (g_iadd F (pc := 281) d_Mo_carryOut_281 (g_iload F (pc := 282) d_Mo_carryOut_282 8 rfl ?_)))))
                                refine g_iadd F (pc := 284) d_Mo_carryOut_284 ?_
                                obtain ⟨o2543, h⟩ := h
                                refine gc_iald F (pc := 285) d_Mo_carryOut_285 o2452 o2543 ?_
                                exact jn2539 _ h
                              · replace h := h.2 b2533
                                refine g_aload_n F (pc := 256) d_Mo_carryOut_256 0 rfl (gc_getR F (pc := 257) d_Mo_carryOut_257 fi_Mo_16 o1 (g_bipush (v := 120) F (pc := 260) d_Mo_carryOut_260 (by decide) (g_iload_n F (pc := 262) d_Mo_carryOut_262 2 rfl (g_imul F (pc := 263) d_Mo_carryOut_263 (g_iload F (pc := 264) d_Mo_carryOut_264 7 rfl ?_)))))
                                refine g_iadd F (pc := 266) d_Mo_carryOut_266 (g_iload F (pc := 267) d_Mo_carryOut_267 8 rfl (g_iadd F (pc := 269) d_Mo_carryOut_269 ?_))
                                obtain ⟨o2544, h⟩ := h
                                obtain ⟨o2545, h⟩ := h
                                refine gc_iald F (pc := 270) d_Mo_carryOut_270 o2544 o2545 (g_goto (tgt := 286) F (pc := 271) d_Mo_carryOut_271 (by decide) ?_)
                                exact jn2539 _ h
                        exact lp2524 n0 _ _ h
                      · replace h := h.2 b2520
                        refine g_lv (lv' := [(0, .ref x0), (1, .int x1), (2, .int x2), (3, .int x3), (4, .int y19)]) F [1, 2, 3, 4, 5] rfl ?_
                        exact jn2518  h
                  refine g_if_eq (tgt := 166) F (pc := 136) d_Mo_carryOut_136 (by decide) (fun b2470 => ?_) (fun b2470 => ?_)
                  · replace h := h.1 b2470
                    refine g_iload F (pc := 166) d_Mo_carryOut_166 6 rfl ?_
                    obtain ⟨J2549, hJ2549, h⟩ := h
                    have jn2550 : J2549  → Z (wd c20) 192 [(0, .ref x0), (1, .int x1), (2, .int x2), (3, .int x3), (4, .int y19), (6, .int s2455), (7, .int s2461), (8, .int s2467)] [] 0 0 := by
                      intro  h
                      replace h := hJ2549  h
                      refine g_iconst (v := 0) F (pc := 192) d_Mo_carryOut_192 (by decide) ?_
                      exact jn2479 _ h
                    refine g_if_le (tgt := 192) F (pc := 168) d_Mo_carryOut_168 (by decide) (fun b2546 => ?_) (fun b2546 => ?_)
                    · replace h := h.1 b2546
                      refine g_lv (lv' := [(0, .ref x0), (1, .int x1), (2, .int x2), (3, .int x3), (4, .int y19), (6, .int s2455), (7, .int s2461), (8, .int s2467)]) F [1, 2, 3, 4, 5, 7, 8, 0] rfl ?_
                      exact jn2550  h
                    · replace h := h.2 b2546
                      refine g_iload F (pc := 171) d_Mo_carryOut_171 6 rfl (g_sipush (v := 128) F (pc := 173) d_Mo_carryOut_173 (by decide) ?_)
                      refine g_icmp_ge (tgt := 192) F (pc := 176) d_Mo_carryOut_176 (by decide) (fun b2551 => ?_) (fun b2551 => ?_)
                      · replace h := h.1 b2551
                        refine g_lv (lv' := [(0, .ref x0), (1, .int x1), (2, .int x2), (3, .int x3), (4, .int y19), (6, .int s2455), (7, .int s2461), (8, .int s2467)]) F [1, 2, 3, 4, 5, 7, 8, 0] rfl ?_
                        exact jn2550  h
                      · replace h := h.2 b2551
                        refine g_iload F (pc := 179) d_Mo_carryOut_179 5 rfl (g_iload F (pc := 181) d_Mo_carryOut_181 6 rfl (g_iadd F (pc := 183) d_Mo_carryOut_183 (g_iload_n F (pc := 184) d_Mo_carryOut_184 2 rfl ?_)))
                        refine g_icmp_ge (tgt := 192) F (pc := 185) d_Mo_carryOut_185 (by decide) (fun b2552 => ?_) (fun b2552 => ?_)
                        · replace h := h.1 b2552
                          refine g_lv (lv' := [(0, .ref x0), (1, .int x1), (2, .int x2), (3, .int x3), (4, .int y19), (6, .int s2455), (7, .int s2461), (8, .int s2467)]) F [1, 2, 3, 4, 5, 7, 8, 0] rfl ?_
                          exact jn2550  h
                        · replace h := h.2 b2552
                          refine g_iconst (v := 1) F (pc := 188) d_Mo_carryOut_188 (by decide) (g_goto (tgt := 193) F (pc := 189) d_Mo_carryOut_189 (by decide) ?_)
                          refine g_lv (lv' := [(0, .ref x0), (1, .int x1), (2, .int x2), (3, .int x3), (4, .int y19), (6, .int s2455), (7, .int s2461), (8, .int s2467)]) F [1, 2, 3, 4, 5, 7, 8, 0] rfl ?_
                          exact jn2479 _ h
                  · replace h := h.2 b2470
                    refine g_iload F (pc := 139) d_Mo_carryOut_139 8 rfl ?_
                    obtain ⟨J2556, hJ2556, h⟩ := h
                    have jn2557 : J2556  → Z (wd c20) 162 [(0, .ref x0), (1, .int x1), (2, .int x2), (3, .int x3), (4, .int y19), (6, .int s2455), (7, .int s2461), (8, .int s2467)] [] 0 0 := by
                      intro  h
                      replace h := hJ2556  h
                      refine g_iconst (v := 0) F (pc := 162) d_Mo_carryOut_162 (by decide) (g_goto (tgt := 193) F (pc := 163) d_Mo_carryOut_163 (by decide) ?_)
                      exact jn2479 _ h
                    refine g_if_lt (tgt := 162) F (pc := 141) d_Mo_carryOut_141 (by decide) (fun b2553 => ?_) (fun b2553 => ?_)
                    · replace h := h.1 b2553
                      refine g_lv (lv' := [(0, .ref x0), (1, .int x1), (2, .int x2), (3, .int x3), (4, .int y19), (6, .int s2455), (7, .int s2461), (8, .int s2467)]) F [1, 2, 3, 4, 5, 7, 8, 0] rfl ?_
                      exact jn2557  h
                    · replace h := h.2 b2553
                      refine g_iload F (pc := 144) d_Mo_carryOut_144 0 rfl (g_iload F (pc := 146) d_Mo_carryOut_146 8 rfl (g_iadd F (pc := 148) d_Mo_carryOut_148 (g_aload_n F (pc := 149) d_Mo_carryOut_149 1 rfl (gc_getR F (pc := 150) d_Mo_carryOut_150 fi_Mo_13 o1 (g_iload_n F (pc := 153) d_Mo_carryOut_153 3 rfl ?_)))))
                      obtain ⟨o2558, h⟩ := h
                      refine gc_iald F (pc := 154) d_Mo_carryOut_154 o2 o2558 ?_
                      refine g_icmp_gt (tgt := 162) F (pc := 155) d_Mo_carryOut_155 (by decide) (fun b2559 => ?_) (fun b2559 => ?_)
                      · replace h := h.1 b2559
                        refine g_lv (lv' := [(0, .ref x0), (1, .int x1), (2, .int x2), (3, .int x3), (4, .int y19), (6, .int s2455), (7, .int s2461), (8, .int s2467)]) F [1, 2, 3, 4, 5, 7, 8, 0] rfl ?_
                        exact jn2557  h
                      · replace h := h.2 b2559
                        refine g_iconst (v := 1) F (pc := 158) d_Mo_carryOut_158 (by decide) (g_goto (tgt := 193) F (pc := 159) d_Mo_carryOut_159 (by decide) ?_)
                        refine g_lv (lv' := [(0, .ref x0), (1, .int x1), (2, .int x2), (3, .int x3), (4, .int y19), (6, .int s2455), (7, .int s2461), (8, .int s2467)]) F [1, 2, 3, 4, 5, 7, 8, 0] rfl ?_
                        exact jn2479 _ h
                obtain ⟨J2562, hJ2562, h⟩ := h
                have jn2563 : J2562  → Z (wd c20) 131 [(0, .ref x0), (1, .int x1), (2, .int x2), (3, .int x3), (4, .int y19), (5, .int (c20 (rf x0 24) (Int32.toNatClampNeg y19))), (6, .int s2455), (7, .int s2461)] [] 0 0 := by
                  intro  h
                  replace h := hJ2562  h
                  refine g_iconst (v := 0) F (pc := 131) d_Mo_carryOut_131 (by decide) ?_
                  exact jn2469 _ h
                refine g_if_eq (tgt := 131) F (pc := 108) d_Mo_carryOut_108 (by decide) (fun b2464 => ?_) (fun b2464 => ?_)
                · replace h := h.1 b2464
                  refine g_lv (lv' := [(0, .ref x0), (1, .int x1), (2, .int x2), (3, .int x3), (4, .int y19), (5, .int (c20 (rf x0 24) (Int32.toNatClampNeg y19))), (6, .int s2455), (7, .int s2461)]) F [1, 2, 3, 4, 5, 6, 7, 0] rfl ?_
                  exact jn2563  h
                · replace h := h.2 b2464
                  refine g_iload F (pc := 111) d_Mo_carryOut_111 5 rfl (g_iconst (v := 1) F (pc := 113) d_Mo_carryOut_113 (by decide) (g_iadd F (pc := 114) d_Mo_carryOut_114 (g_iload_n F (pc := 115) d_Mo_carryOut_115 2 rfl ?_)))
                  refine g_icmp_ge (tgt := 131) F (pc := 116) d_Mo_carryOut_116 (by decide) (fun b2564 => ?_) (fun b2564 => ?_)
                  · replace h := h.1 b2564
                    refine g_lv (lv' := [(0, .ref x0), (1, .int x1), (2, .int x2), (3, .int x3), (4, .int y19), (5, .int (c20 (rf x0 24) (Int32.toNatClampNeg y19))), (6, .int s2455), (7, .int s2461)]) F [1, 2, 3, 4, 5, 6, 7, 0] rfl ?_
                    exact jn2563  h
                  · replace h := h.2 b2564
                    refine g_aload_n F (pc := 119) d_Mo_carryOut_119 1 rfl (gc_getR F (pc := 120) d_Mo_carryOut_120 fi_Mo_56 o1 (g_iload F (pc := 123) d_Mo_carryOut_123 5 rfl (g_iconst (v := 1) F (pc := 125) d_Mo_carryOut_125 (by decide) (g_iadd F (pc := 126) d_Mo_carryOut_126 ?_))))
                    obtain ⟨o2565, h⟩ := h
                    refine gc_iald F (pc := 127) d_Mo_carryOut_127 o2452 o2565 (g_goto (tgt := 132) F (pc := 128) d_Mo_carryOut_128 (by decide) ?_)
                    refine g_lv (lv' := [(0, .ref x0), (1, .int x1), (2, .int x2), (3, .int x3), (4, .int y19), (5, .int (c20 (rf x0 24) (Int32.toNatClampNeg y19))), (6, .int s2455), (7, .int s2461)]) F [1, 2, 3, 4, 5, 6, 7, 0] rfl ?_
                    exact jn2469 _ h
              refine g_if_eq (tgt := 102) F (pc := 75) d_Mo_carryOut_75 (by decide) (fun b2458 => ?_) (fun b2458 => ?_)
              · replace h := h.1 b2458
                refine g_iload F (pc := 102) d_Mo_carryOut_102 6 rfl ?_
                refine g_lv (lv' := [(0, .ref x0), (1, .int x1), (2, .int x2), (3, .int x3), (4, .int y19), (5, .int (c20 (rf x0 24) (Int32.toNatClampNeg y19))), (6, .int s2455)]) F [1, 2, 3, 4, 5, 6, 0] rfl ?_
                exact jn2463 _ h
              · replace h := h.2 b2458
                refine g_iload F (pc := 78) d_Mo_carryOut_78 5 rfl (g_iconst (v := 2) F (pc := 80) d_Mo_carryOut_80 (by decide) (g_iadd F (pc := 81) d_Mo_carryOut_81 (g_iload_n F (pc := 82) d_Mo_carryOut_82 2 rfl ?_)))
                refine g_icmp_ge (tgt := 98) F (pc := 83) d_Mo_carryOut_83 (by decide) (fun b2566 => ?_) (fun b2566 => ?_)
                · replace h := h.1 b2566
                  refine g_iconst (v := (-1)) F (pc := 98) d_Mo_carryOut_98 (by decide) (g_goto (tgt := 104) F (pc := 99) d_Mo_carryOut_99 (by decide) ?_)
                  refine g_lv (lv' := [(0, .ref x0), (1, .int x1), (2, .int x2), (3, .int x3), (4, .int y19), (5, .int (c20 (rf x0 24) (Int32.toNatClampNeg y19))), (6, .int s2455)]) F [1, 2, 3, 4, 5, 6, 0] rfl ?_
                  exact jn2463 _ h
                · replace h := h.2 b2566
                  refine g_aload_n F (pc := 86) d_Mo_carryOut_86 1 rfl (gc_getR F (pc := 87) d_Mo_carryOut_87 fi_Mo_56 o1 (g_iload F (pc := 90) d_Mo_carryOut_90 5 rfl (g_iconst (v := 2) F (pc := 92) d_Mo_carryOut_92 (by decide) (g_iadd F (pc := 93) d_Mo_carryOut_93 ?_))))
                  obtain ⟨o2567, h⟩ := h
                  refine gc_iald F (pc := 94) d_Mo_carryOut_94 o2452 o2567 (g_goto (tgt := 104) F (pc := 95) d_Mo_carryOut_95 (by decide) ?_)
                  refine g_lv (lv' := [(0, .ref x0), (1, .int x1), (2, .int x2), (3, .int x3), (4, .int y19), (5, .int (c20 (rf x0 24) (Int32.toNatClampNeg y19))), (6, .int s2455)]) F [1, 2, 3, 4, 5, 6, 0] rfl ?_
                  exact jn2463 _ h
            refine g_icmp_ne (tgt := 70) F (pc := 63) d_Mo_carryOut_63 (by decide) (fun b2454 => ?_) (fun b2454 => ?_)
            · replace h := h.1 b2454
              refine g_iconst (v := 0) F (pc := 70) d_Mo_carryOut_70 (by decide) ?_
              refine g_lv (lv' := [(0, .ref x0), (1, .int x1), (2, .int x2), (3, .int x3), (4, .int y19), (5, .int (c20 (rf x0 24) (Int32.toNatClampNeg y19)))]) F [1, 2, 3, 4, 5, 0] rfl ?_
              exact jn2457 _ h
            · replace h := h.2 b2454
              refine g_iconst (v := 1) F (pc := 66) d_Mo_carryOut_66 (by decide) (g_goto (tgt := 71) F (pc := 67) d_Mo_carryOut_67 (by decide) ?_)
              refine g_lv (lv' := [(0, .ref x0), (1, .int x1), (2, .int x2), (3, .int x3), (4, .int y19), (5, .int (c20 (rf x0 24) (Int32.toNatClampNeg y19)))]) F [1, 2, 3, 4, 5, 0] rfl ?_
              exact jn2457 _ h
    exact lp18 n0 _ _ h
  obtain ⟨J2572, hJ2572, h⟩ := h
  have jn2573 : J2572  → Z (wd c4) 27 [(0, .ref x0), (1, .int x1), (2, .int x2), (3, .int x3)] [] 0 0 := by
    intro  h
    replace h := hJ2572  h
    refine g_aload_n F (pc := 27) d_Mo_carryOut_27 0 rfl (g_bipush (v := (-10)) F (pc := 28) d_Mo_carryOut_28 (by decide) (gc_putI F (pc := 30) d_Mo_carryOut_30 pi_Mo_174 o1 ?_))
    obtain ⟨c2574, ec2574⟩ : ∃ c2574 : cM, c2574 = c_up c4 x0 22 (-10) := ⟨_, rfl⟩
    rw [← ec2574]
    replace h := h c2574 ec2574
    exact jn14 _ h
  refine g_icmp_lt (tgt := 27) F (pc := 9) d_Mo_carryOut_9 (by decide) (fun b5 => ?_) (fun b5 => ?_)
  · replace h := h.1 b5
    exact jn2573  h
  · replace h := h.2 b5
    refine g_aload_n F (pc := 12) d_Mo_carryOut_12 0 rfl (gc_getR F (pc := 13) d_Mo_carryOut_13 fi_Mo_56 o1 (g_iconst (v := 0) F (pc := 16) d_Mo_carryOut_16 (by decide) ?_))
    obtain ⟨o2575, h⟩ := h
    obtain ⟨o2576, h⟩ := h
    refine gc_iald F (pc := 17) d_Mo_carryOut_17 o2575 o2576 (g_aload_n F (pc := 18) d_Mo_carryOut_18 0 rfl (gc_getR F (pc := 19) d_Mo_carryOut_19 fi_Mo_13 o1 (g_iload_n F (pc := 22) d_Mo_carryOut_22 2 rfl ?_)))
    obtain ⟨o2577, h⟩ := h
    refine gc_iald F (pc := 23) d_Mo_carryOut_23 o2 o2577 ?_
    refine g_icmp_eq (tgt := 33) F (pc := 24) d_Mo_carryOut_24 (by decide) (fun b2578 => ?_) (fun b2578 => ?_)
    · replace h := h.1 b2578
      exact jn14 _ h
    · replace h := h.2 b2578
      exact jn2573  h
theorem d_Mo_readThing_0 : decode M_Mo_readThing.2.1 0 = .ok (.aload_n 0, 1) := by decide +kernel
theorem d_Mo_readThing_1 : decode M_Mo_readThing.2.1 1 = .ok (.getfield 53, 3) := by decide +kernel
theorem d_Mo_readThing_4 : decode M_Mo_readThing.2.1 4 = .ok (.iload_n 1, 1) := by decide +kernel
theorem d_Mo_readThing_5 : decode M_Mo_readThing.2.1 5 = .ok (.aload_n 0, 1) := by decide +kernel
theorem d_Mo_readThing_6 : decode M_Mo_readThing.2.1 6 = .ok (.getfield 177, 3) := by decide +kernel
theorem d_Mo_readThing_9 : decode M_Mo_readThing.2.1 9 = .ok (.iastore, 1) := by decide +kernel
theorem d_Mo_readThing_10 : decode M_Mo_readThing.2.1 10 = .ok (.aload_n 0, 1) := by decide +kernel
theorem d_Mo_readThing_11 : decode M_Mo_readThing.2.1 11 = .ok (.invokevirtual 183, 3) := by decide +kernel
theorem d_Mo_readThing_14 : decode M_Mo_readThing.2.1 14 = .ok (.istore_n 2, 1) := by decide +kernel
theorem d_Mo_readThing_15 : decode M_Mo_readThing.2.1 15 = .ok (.iload_n 2, 1) := by decide +kernel
theorem d_Mo_readThing_16 : decode M_Mo_readThing.2.1 16 = .ok (.iconst 4, 1) := by decide +kernel
theorem d_Mo_readThing_17 : decode M_Mo_readThing.2.1 17 = .ok (.ishr, 1) := by decide +kernel
theorem d_Mo_readThing_18 : decode M_Mo_readThing.2.1 18 = .ok (.bipush 7, 2) := by decide +kernel
theorem d_Mo_readThing_20 : decode M_Mo_readThing.2.1 20 = .ok (.iand, 1) := by decide +kernel
theorem d_Mo_readThing_21 : decode M_Mo_readThing.2.1 21 = .ok (.istore_n 3, 1) := by decide +kernel
theorem d_Mo_readThing_22 : decode M_Mo_readThing.2.1 22 = .ok (.aload_n 0, 1) := by decide +kernel
theorem d_Mo_readThing_23 : decode M_Mo_readThing.2.1 23 = .ok (.getfield 174, 3) := by decide +kernel
theorem d_Mo_readThing_26 : decode M_Mo_readThing.2.1 26 = .ok (.ifCond .ne 30, 3) := by decide +kernel
theorem d_Mo_readThing_29 : decode M_Mo_readThing.2.1 29 = .ok (.iload_n 3, 1) := by decide +kernel
theorem d_Mo_readThing_30 : decode M_Mo_readThing.2.1 30 = .ok (.iconst 1, 1) := by decide +kernel
theorem d_Mo_readThing_31 : decode M_Mo_readThing.2.1 31 = .ok (.if_icmp .eq 25, 3) := by decide +kernel
theorem d_Mo_readThing_34 : decode M_Mo_readThing.2.1 34 = .ok (.iload_n 3, 1) := by decide +kernel
theorem d_Mo_readThing_35 : decode M_Mo_readThing.2.1 35 = .ok (.iconst 2, 1) := by decide +kernel
theorem d_Mo_readThing_36 : decode M_Mo_readThing.2.1 36 = .ok (.if_icmp .eq 20, 3) := by decide +kernel
theorem d_Mo_readThing_39 : decode M_Mo_readThing.2.1 39 = .ok (.iload_n 3, 1) := by decide +kernel
theorem d_Mo_readThing_40 : decode M_Mo_readThing.2.1 40 = .ok (.iconst 3, 1) := by decide +kernel
theorem d_Mo_readThing_41 : decode M_Mo_readThing.2.1 41 = .ok (.if_icmp .eq 15, 3) := by decide +kernel
theorem d_Mo_readThing_44 : decode M_Mo_readThing.2.1 44 = .ok (.iload_n 3, 1) := by decide +kernel
theorem d_Mo_readThing_45 : decode M_Mo_readThing.2.1 45 = .ok (.bipush 6, 2) := by decide +kernel
theorem d_Mo_readThing_47 : decode M_Mo_readThing.2.1 47 = .ok (.if_icmp .eq 9, 3) := by decide +kernel
theorem d_Mo_readThing_50 : decode M_Mo_readThing.2.1 50 = .ok (.aload_n 0, 1) := by decide +kernel
theorem d_Mo_readThing_51 : decode M_Mo_readThing.2.1 51 = .ok (.bipush (-6), 2) := by decide +kernel
theorem d_Mo_readThing_53 : decode M_Mo_readThing.2.1 53 = .ok (.putfield 174, 3) := by decide +kernel
theorem d_Mo_readThing_56 : decode M_Mo_readThing.2.1 56 = .ok (.aload_n 0, 1) := by decide +kernel
theorem d_Mo_readThing_57 : decode M_Mo_readThing.2.1 57 = .ok (.iload_n 2, 1) := by decide +kernel
theorem d_Mo_readThing_58 : decode M_Mo_readThing.2.1 58 = .ok (.invokevirtual 189, 3) := by decide +kernel
theorem d_Mo_readThing_61 : decode M_Mo_readThing.2.1 61 = .ok (.istore 4, 2) := by decide +kernel
theorem d_Mo_readThing_63 : decode M_Mo_readThing.2.1 63 = .ok (.aload_n 0, 1) := by decide +kernel
theorem d_Mo_readThing_64 : decode M_Mo_readThing.2.1 64 = .ok (.getfield 174, 3) := by decide +kernel
theorem d_Mo_readThing_67 : decode M_Mo_readThing.2.1 67 = .ok (.ifCond .ne 16, 3) := by decide +kernel
theorem d_Mo_readThing_70 : decode M_Mo_readThing.2.1 70 = .ok (.iload 4, 2) := by decide +kernel
theorem d_Mo_readThing_72 : decode M_Mo_readThing.2.1 72 = .ok (.bipush 120, 2) := by decide +kernel
theorem d_Mo_readThing_74 : decode M_Mo_readThing.2.1 74 = .ok (.if_icmp .le 9, 3) := by decide +kernel
theorem d_Mo_readThing_77 : decode M_Mo_readThing.2.1 77 = .ok (.aload_n 0, 1) := by decide +kernel
theorem d_Mo_readThing_78 : decode M_Mo_readThing.2.1 78 = .ok (.bipush (-7), 2) := by decide +kernel
theorem d_Mo_readThing_80 : decode M_Mo_readThing.2.1 80 = .ok (.putfield 174, 3) := by decide +kernel
theorem d_Mo_readThing_83 : decode M_Mo_readThing.2.1 83 = .ok (.iconst (-1), 1) := by decide +kernel
theorem d_Mo_readThing_84 : decode M_Mo_readThing.2.1 84 = .ok (.istore 5, 2) := by decide +kernel
theorem d_Mo_readThing_86 : decode M_Mo_readThing.2.1 86 = .ok (.iload_n 3, 1) := by decide +kernel
theorem d_Mo_readThing_87 : decode M_Mo_readThing.2.1 87 = .ok (.bipush 6, 2) := by decide +kernel
theorem d_Mo_readThing_89 : decode M_Mo_readThing.2.1 89 = .ok (.if_icmp .ne 102, 3) := by decide +kernel
theorem d_Mo_readThing_92 : decode M_Mo_readThing.2.1 92 = .ok (.aload_n 0, 1) := by decide +kernel
theorem d_Mo_readThing_93 : decode M_Mo_readThing.2.1 93 = .ok (.invokevirtual 183, 3) := by decide +kernel
theorem d_Mo_readThing_96 : decode M_Mo_readThing.2.1 96 = .ok (.istore 6, 2) := by decide +kernel
theorem d_Mo_readThing_98 : decode M_Mo_readThing.2.1 98 = .ok (.iload 6, 2) := by decide +kernel
theorem d_Mo_readThing_100 : decode M_Mo_readThing.2.1 100 = .ok (.sipush 128, 3) := by decide +kernel
theorem d_Mo_readThing_103 : decode M_Mo_readThing.2.1 103 = .ok (.if_icmp .ge 8, 3) := by decide +kernel
theorem d_Mo_readThing_106 : decode M_Mo_readThing.2.1 106 = .ok (.iload 6, 2) := by decide +kernel
theorem d_Mo_readThing_108 : decode M_Mo_readThing.2.1 108 = .ok (.goto 17, 3) := by decide +kernel
theorem d_Mo_readThing_111 : decode M_Mo_readThing.2.1 111 = .ok (.sipush 128, 3) := by decide +kernel
theorem d_Mo_readThing_114 : decode M_Mo_readThing.2.1 114 = .ok (.iload 6, 2) := by decide +kernel
theorem d_Mo_readThing_116 : decode M_Mo_readThing.2.1 116 = .ok (.bipush 127, 2) := by decide +kernel
theorem d_Mo_readThing_118 : decode M_Mo_readThing.2.1 118 = .ok (.isub, 1) := by decide +kernel
theorem d_Mo_readThing_119 : decode M_Mo_readThing.2.1 119 = .ok (.imul, 1) := by decide +kernel
theorem d_Mo_readThing_120 : decode M_Mo_readThing.2.1 120 = .ok (.aload_n 0, 1) := by decide +kernel
theorem d_Mo_readThing_121 : decode M_Mo_readThing.2.1 121 = .ok (.invokevirtual 183, 3) := by decide +kernel
theorem d_Mo_readThing_124 : decode M_Mo_readThing.2.1 124 = .ok (.iadd, 1) := by decide +kernel
theorem d_Mo_readThing_125 : decode M_Mo_readThing.2.1 125 = .ok (.istore 7, 2) := by decide +kernel
theorem d_Mo_readThing_127 : decode M_Mo_readThing.2.1 127 = .ok (.iconst 0, 1) := by decide +kernel
theorem d_Mo_readThing_128 : decode M_Mo_readThing.2.1 128 = .ok (.istore 8, 2) := by decide +kernel
theorem d_Mo_readThing_130 : decode M_Mo_readThing.2.1 130 = .ok (.iload 8, 2) := by decide +kernel
theorem d_Mo_readThing_132 : decode M_Mo_readThing.2.1 132 = .ok (.iload_n 1, 1) := by decide +kernel
theorem d_Mo_readThing_133 : decode M_Mo_readThing.2.1 133 = .ok (.if_icmp .ge 40, 3) := by decide +kernel
theorem d_Mo_readThing_136 : decode M_Mo_readThing.2.1 136 = .ok (.aload_n 0, 1) := by decide +kernel
theorem d_Mo_readThing_137 : decode M_Mo_readThing.2.1 137 = .ok (.getfield 53, 3) := by decide +kernel
theorem d_Mo_readThing_140 : decode M_Mo_readThing.2.1 140 = .ok (.iload 8, 2) := by decide +kernel
theorem d_Mo_readThing_142 : decode M_Mo_readThing.2.1 142 = .ok (.iaload, 1) := by decide +kernel
theorem d_Mo_readThing_143 : decode M_Mo_readThing.2.1 143 = .ok (.aload_n 0, 1) := by decide +kernel
theorem d_Mo_readThing_144 : decode M_Mo_readThing.2.1 144 = .ok (.getfield 53, 3) := by decide +kernel
theorem d_Mo_readThing_147 : decode M_Mo_readThing.2.1 147 = .ok (.iload_n 1, 1) := by decide +kernel
theorem d_Mo_readThing_148 : decode M_Mo_readThing.2.1 148 = .ok (.iaload, 1) := by decide +kernel
theorem d_Mo_readThing_149 : decode M_Mo_readThing.2.1 149 = .ok (.iload 7, 2) := by decide +kernel
theorem d_Mo_readThing_151 : decode M_Mo_readThing.2.1 151 = .ok (.isub, 1) := by decide +kernel
theorem d_Mo_readThing_152 : decode M_Mo_readThing.2.1 152 = .ok (.if_icmp .ne 11, 3) := by decide +kernel
theorem d_Mo_readThing_155 : decode M_Mo_readThing.2.1 155 = .ok (.bipush 16, 2) := by decide +kernel
theorem d_Mo_readThing_157 : decode M_Mo_readThing.2.1 157 = .ok (.iload 8, 2) := by decide +kernel
theorem d_Mo_readThing_159 : decode M_Mo_readThing.2.1 159 = .ok (.iadd, 1) := by decide +kernel
theorem d_Mo_readThing_160 : decode M_Mo_readThing.2.1 160 = .ok (.goto 5, 3) := by decide +kernel
theorem d_Mo_readThing_163 : decode M_Mo_readThing.2.1 163 = .ok (.iload 5, 2) := by decide +kernel
theorem d_Mo_readThing_165 : decode M_Mo_readThing.2.1 165 = .ok (.istore 5, 2) := by decide +kernel
theorem d_Mo_readThing_167 : decode M_Mo_readThing.2.1 167 = .ok (.iinc 8 1, 3) := by decide +kernel
theorem d_Mo_readThing_170 : decode M_Mo_readThing.2.1 170 = .ok (.goto (-40), 3) := by decide +kernel
theorem d_Mo_readThing_173 : decode M_Mo_readThing.2.1 173 = .ok (.aload_n 0, 1) := by decide +kernel
theorem d_Mo_readThing_174 : decode M_Mo_readThing.2.1 174 = .ok (.getfield 174, 3) := by decide +kernel
theorem d_Mo_readThing_177 : decode M_Mo_readThing.2.1 177 = .ok (.ifCond .ne 14, 3) := by decide +kernel
theorem d_Mo_readThing_180 : decode M_Mo_readThing.2.1 180 = .ok (.iload 5, 2) := by decide +kernel
theorem d_Mo_readThing_182 : decode M_Mo_readThing.2.1 182 = .ok (.ifCond .ge 9, 3) := by decide +kernel
theorem d_Mo_readThing_185 : decode M_Mo_readThing.2.1 185 = .ok (.aload_n 0, 1) := by decide +kernel
theorem d_Mo_readThing_186 : decode M_Mo_readThing.2.1 186 = .ok (.bipush (-8), 2) := by decide +kernel
theorem d_Mo_readThing_188 : decode M_Mo_readThing.2.1 188 = .ok (.putfield 174, 3) := by decide +kernel
theorem d_Mo_readThing_191 : decode M_Mo_readThing.2.1 191 = .ok (.aload_n 0, 1) := by decide +kernel
theorem d_Mo_readThing_192 : decode M_Mo_readThing.2.1 192 = .ok (.iload 4, 2) := by decide +kernel
theorem d_Mo_readThing_194 : decode M_Mo_readThing.2.1 194 = .ok (.invokevirtual 192, 3) := by decide +kernel
theorem d_Mo_readThing_197 : decode M_Mo_readThing.2.1 197 = .ok (.aload_n 0, 1) := by decide +kernel
theorem d_Mo_readThing_198 : decode M_Mo_readThing.2.1 198 = .ok (.getfield 174, 3) := by decide +kernel
theorem d_Mo_readThing_201 : decode M_Mo_readThing.2.1 201 = .ok (.ifCond .eq 4, 3) := by decide +kernel
theorem d_Mo_readThing_204 : decode M_Mo_readThing.2.1 204 = .ok (.return_, 1) := by decide +kernel
theorem d_Mo_readThing_205 : decode M_Mo_readThing.2.1 205 = .ok (.iload_n 3, 1) := by decide +kernel
theorem d_Mo_readThing_206 : decode M_Mo_readThing.2.1 206 = .ok (.bipush 6, 2) := by decide +kernel
theorem d_Mo_readThing_208 : decode M_Mo_readThing.2.1 208 = .ok (.if_icmp .ne 34, 3) := by decide +kernel
theorem d_Mo_readThing_211 : decode M_Mo_readThing.2.1 211 = .ok (.aload_n 0, 1) := by decide +kernel
theorem d_Mo_readThing_212 : decode M_Mo_readThing.2.1 212 = .ok (.getfield 7, 3) := by decide +kernel
theorem d_Mo_readThing_215 : decode M_Mo_readThing.2.1 215 = .ok (.bipush 16, 2) := by decide +kernel
theorem d_Mo_readThing_217 : decode M_Mo_readThing.2.1 217 = .ok (.iload_n 1, 1) := by decide +kernel
theorem d_Mo_readThing_218 : decode M_Mo_readThing.2.1 218 = .ok (.iadd, 1) := by decide +kernel
theorem d_Mo_readThing_219 : decode M_Mo_readThing.2.1 219 = .ok (.aload_n 0, 1) := by decide +kernel
theorem d_Mo_readThing_220 : decode M_Mo_readThing.2.1 220 = .ok (.getfield 7, 3) := by decide +kernel
theorem d_Mo_readThing_223 : decode M_Mo_readThing.2.1 223 = .ok (.iload 5, 2) := by decide +kernel
theorem d_Mo_readThing_225 : decode M_Mo_readThing.2.1 225 = .ok (.iaload, 1) := by decide +kernel
theorem d_Mo_readThing_226 : decode M_Mo_readThing.2.1 226 = .ok (.iastore, 1) := by decide +kernel
theorem d_Mo_readThing_227 : decode M_Mo_readThing.2.1 227 = .ok (.aload_n 0, 1) := by decide +kernel
theorem d_Mo_readThing_228 : decode M_Mo_readThing.2.1 228 = .ok (.iload 4, 2) := by decide +kernel
theorem d_Mo_readThing_230 : decode M_Mo_readThing.2.1 230 = .ok (.iload 5, 2) := by decide +kernel
theorem d_Mo_readThing_232 : decode M_Mo_readThing.2.1 232 = .ok (.bipush 16, 2) := by decide +kernel
theorem d_Mo_readThing_234 : decode M_Mo_readThing.2.1 234 = .ok (.iload_n 1, 1) := by decide +kernel
theorem d_Mo_readThing_235 : decode M_Mo_readThing.2.1 235 = .ok (.iadd, 1) := by decide +kernel
theorem d_Mo_readThing_236 : decode M_Mo_readThing.2.1 236 = .ok (.invokevirtual 195, 3) := by decide +kernel
theorem d_Mo_readThing_239 : decode M_Mo_readThing.2.1 239 = .ok (.goto 62, 3) := by decide +kernel
theorem d_Mo_readThing_242 : decode M_Mo_readThing.2.1 242 = .ok (.aload_n 0, 1) := by decide +kernel
theorem d_Mo_readThing_243 : decode M_Mo_readThing.2.1 243 = .ok (.getfield 7, 3) := by decide +kernel
theorem d_Mo_readThing_246 : decode M_Mo_readThing.2.1 246 = .ok (.bipush 16, 2) := by decide +kernel
theorem d_Mo_readThing_248 : decode M_Mo_readThing.2.1 248 = .ok (.iload_n 1, 1) := by decide +kernel
theorem d_Mo_readThing_249 : decode M_Mo_readThing.2.1 249 = .ok (.iadd, 1) := by decide +kernel
theorem d_Mo_readThing_250 : decode M_Mo_readThing.2.1 250 = .ok (.iload_n 3, 1) := by decide +kernel
theorem d_Mo_readThing_251 : decode M_Mo_readThing.2.1 251 = .ok (.iastore, 1) := by decide +kernel
theorem d_Mo_readThing_252 : decode M_Mo_readThing.2.1 252 = .ok (.aload_n 0, 1) := by decide +kernel
theorem d_Mo_readThing_253 : decode M_Mo_readThing.2.1 253 = .ok (.getfield 13, 3) := by decide +kernel
theorem d_Mo_readThing_256 : decode M_Mo_readThing.2.1 256 = .ok (.bipush 16, 2) := by decide +kernel
theorem d_Mo_readThing_258 : decode M_Mo_readThing.2.1 258 = .ok (.iload_n 1, 1) := by decide +kernel
theorem d_Mo_readThing_259 : decode M_Mo_readThing.2.1 259 = .ok (.iadd, 1) := by decide +kernel
theorem d_Mo_readThing_260 : decode M_Mo_readThing.2.1 260 = .ok (.iload 4, 2) := by decide +kernel
theorem d_Mo_readThing_262 : decode M_Mo_readThing.2.1 262 = .ok (.iastore, 1) := by decide +kernel
theorem d_Mo_readThing_263 : decode M_Mo_readThing.2.1 263 = .ok (.iconst 0, 1) := by decide +kernel
theorem d_Mo_readThing_264 : decode M_Mo_readThing.2.1 264 = .ok (.istore 6, 2) := by decide +kernel
theorem d_Mo_readThing_266 : decode M_Mo_readThing.2.1 266 = .ok (.iload 6, 2) := by decide +kernel
theorem d_Mo_readThing_268 : decode M_Mo_readThing.2.1 268 = .ok (.iload 4, 2) := by decide +kernel
theorem d_Mo_readThing_270 : decode M_Mo_readThing.2.1 270 = .ok (.if_icmp .ge 31, 3) := by decide +kernel
theorem d_Mo_readThing_273 : decode M_Mo_readThing.2.1 273 = .ok (.aload_n 0, 1) := by decide +kernel
theorem d_Mo_readThing_274 : decode M_Mo_readThing.2.1 274 = .ok (.getfield 16, 3) := by decide +kernel
theorem d_Mo_readThing_277 : decode M_Mo_readThing.2.1 277 = .ok (.bipush 120, 2) := by decide +kernel
theorem d_Mo_readThing_279 : decode M_Mo_readThing.2.1 279 = .ok (.bipush 16, 2) := by decide +kernel
theorem d_Mo_readThing_281 : decode M_Mo_readThing.2.1 281 = .ok (.iload_n 1, 1) := by decide +kernel
theorem d_Mo_readThing_282 : decode M_Mo_readThing.2.1 282 = .ok (.iadd, 1) := by decide +kernel
theorem d_Mo_readThing_283 : decode M_Mo_readThing.2.1 283 = .ok (.imul, 1) := by decide +kernel
theorem d_Mo_readThing_284 : decode M_Mo_readThing.2.1 284 = .ok (.iload 6, 2) := by decide +kernel
theorem d_Mo_readThing_286 : decode M_Mo_readThing.2.1 286 = .ok (.iadd, 1) := by decide +kernel
theorem d_Mo_readThing_287 : decode M_Mo_readThing.2.1 287 = .ok (.aload_n 0, 1) := by decide +kernel
theorem d_Mo_readThing_288 : decode M_Mo_readThing.2.1 288 = .ok (.getfield 56, 3) := by decide +kernel
theorem d_Mo_readThing_291 : decode M_Mo_readThing.2.1 291 = .ok (.iload 6, 2) := by decide +kernel
theorem d_Mo_readThing_293 : decode M_Mo_readThing.2.1 293 = .ok (.iaload, 1) := by decide +kernel
theorem d_Mo_readThing_294 : decode M_Mo_readThing.2.1 294 = .ok (.iastore, 1) := by decide +kernel
theorem d_Mo_readThing_295 : decode M_Mo_readThing.2.1 295 = .ok (.iinc 6 1, 3) := by decide +kernel
theorem d_Mo_readThing_298 : decode M_Mo_readThing.2.1 298 = .ok (.goto (-32), 3) := by decide +kernel
theorem d_Mo_readThing_301 : decode M_Mo_readThing.2.1 301 = .ok (.return_, 1) := by decide +kernel
def f_Mo_readThing (x0 : Nat) (x1 : Int32) (c : cM) (K : cM → Prop) : Prop :=
  kd x0 = 7 ∧ (kd (rf x0 19) = 100 ∧ (vp_in x1 (ln (rf x0 19)) ∧ (∀ c4 : cM, c4 = c_up c (rf x0 19) (Int32.toNatClampNeg x1) (c x0 20) → (f_Mo_next x0 c4 (fun v6 c5 => ∃ J14 : cM → Prop, (∀ (c13 : cM), J14 c13 → (f_Mo_readSize x0 v6 c13 (fun v17 c16 => ∃ J22 : cM → Prop, (∀ (c21 : cM), J22 c21 → (∃ J48 : Int32 → cM → Prop, (∀ (y46 : Int32) (c47 : cM), J48 y46 c47 → (f_Mo_readWrapped x0 v17 c47 (fun c50 => (((c50 x0 22) = 0) → (((¬ ((c_shr v6 4) &&& 7) = 6) → (kd (rf x0 1) = 100 ∧ (vp_in (16 + x1) (ln (rf x0 1)) ∧ (∀ c55 : cM, c55 = c_up c50 (rf x0 1) (Int32.toNatClampNeg (16 + x1)) ((c_shr v6 4) &&& 7) → (kd (rf x0 2) = 100 ∧ (vp_in (16 + x1) (ln (rf x0 2)) ∧ (∀ c58 : cM, c58 = c_up c55 (rf x0 2) (Int32.toNatClampNeg (16 + x1)) v17 → (∃ I59 : Nat → Int32 → cM → Prop, (∃ n, I59 n 0 c58) ∧ ∀ (n60 : Nat) (y63 : Int32) (c64 : cM), I59 n60 y63 c64 → (((v17 ≤ y63) → (K c64)) ∧ (¬ (v17 ≤ y63) → (kd (rf x0 24) = 100 ∧ (vp_in y63 (ln (rf x0 24)) ∧ (kd (rf x0 3) = 100 ∧ (vp_in ((120 * (16 + x1)) + y63) (ln (rf x0 3)) ∧ (∀ c70 : cM, c70 = c_up c64 (rf x0 3) (Int32.toNatClampNeg ((120 * (16 + x1)) + y63)) (c64 (rf x0 24) (Int32.toNatClampNeg y63)) → (∃ m, m < n60 ∧ I59 m (y63 + 1) c70)))))))))))))))) ∧ (((c_shr v6 4) &&& 7) = 6 → (kd (rf x0 1) = 100 ∧ (vp_in y46 (ln (rf x0 1)) ∧ (vp_in (16 + x1) (ln (rf x0 1)) ∧ (∀ c74 : cM, c74 = c_up c50 (rf x0 1) (Int32.toNatClampNeg (16 + x1)) (c50 (rf x0 1) (Int32.toNatClampNeg y46)) → (f_Mo_carryOut x0 v17 y46 (16 + x1) c74 (fun c75 => K c75))))))))) ∧ (¬ ((c50 x0 22) = 0) → (K c50))))) ∧ (((¬ ((c_shr v6 4) &&& 7) = 6) → (J48 (-1) c21)) ∧ (((c_shr v6 4) &&& 7) = 6 → (f_Mo_next x0 c21 (fun v77 c76 => ∃ J83 : Int32 → cM → Prop, (∀ (s81 : Int32) (c82 : cM), J83 s81 c82 → (∃ I85 : Nat → Int32 → Int32 → Prop, (∃ n, I85 n (-1) 0) ∧ ∀ (n86 : Nat) (y89 : Int32) (y90 : Int32), I85 n86 y89 y90 → (((x1 ≤ y90) → (((¬ (c82 x0 22) = 0) → (J48 y89 c82)) ∧ ((c82 x0 22) = 0 → (((0 ≤ y89) → (J48 y89 c82)) ∧ (¬ (0 ≤ y89) → (∀ c94 : cM, c94 = c_up c82 x0 22 (-8) → (J48 y89 c94))))))) ∧ (¬ (x1 ≤ y90) → (vp_in y90 (ln (rf x0 19)) ∧ (∃ J98 : Int32 → Prop, (∀ (s97 : Int32), J98 s97 → (∃ m, m < n86 ∧ I85 m s97 (y90 + 1))) ∧ (((¬ (c82 (rf x0 19) (Int32.toNatClampNeg y90)) = ((c82 (rf x0 19) (Int32.toNatClampNeg x1)) - s81)) → (J98 y89)) ∧ ((c82 (rf x0 19) (Int32.toNatClampNeg y90)) = ((c82 (rf x0 19) (Int32.toNatClampNeg x1)) - s81) → (J98 (16 + y90)))))))))) ∧ (((128 ≤ v77) → (f_Mo_next x0 c76 (fun v101 c100 => J83 ((128 * (v77 - 127)) + v101) c100))) ∧ (¬ (128 ≤ v77) → (J83 v77 c76))))))))) ∧ (((¬ (c16 x0 22) = 0) → (J22 c16)) ∧ ((c16 x0 22) = 0 → (((v17 ≤ 120) → (J22 c16)) ∧ (¬ (v17 ≤ 120) → (∀ c103 : cM, c103 = c_up c16 x0 22 (-7) → (J22 c103))))))))) ∧ (((¬ (c5 x0 22) = 0) → (J14 c5)) ∧ ((c5 x0 22) = 0 → (((((c_shr v6 4) &&& 7) = 1) → (J14 c5)) ∧ (¬ (((c_shr v6 4) &&& 7) = 1) → (((((c_shr v6 4) &&& 7) = 2) → (J14 c5)) ∧ (¬ (((c_shr v6 4) &&& 7) = 2) → (((((c_shr v6 4) &&& 7) = 3) → (J14 c5)) ∧ (¬ (((c_shr v6 4) &&& 7) = 3) → (((((c_shr v6 4) &&& 7) = 6) → (J14 c5)) ∧ (¬ (((c_shr v6 4) &&& 7) = 6) → (∀ c108 : cM, c108 = c_up c5 x0 22 (-6) → (J14 c108)))))))))))))))))
theorem c_Mo_readThing {x0 : Nat} {x1 : Int32} {c : cM} {K : cM → Prop} (h : f_Mo_readThing x0 x1 c K) : Ct M_Mo_readThing 3 0 0 (wd c) [.ref x0, .int x1] (PoV K) := by
  refine Ct.of (by decide +kernel) (Nat.le_of_ble_eq_true rfl) (fun Z T => ?_)
  have F := T.F
  unfold f_Mo_readThing at h
  show Z (wd c) 0 [(0, .ref x0), (1, .int x1)] [] 0 0
  refine g_aload_n F (pc := 0) d_Mo_readThing_0 0 rfl ?_
  obtain ⟨o1, h⟩ := h
  refine gc_getR F (pc := 1) d_Mo_readThing_1 fi_Mo_53 o1 (g_iload_n F (pc := 4) d_Mo_readThing_4 1 rfl (g_aload_n F (pc := 5) d_Mo_readThing_5 0 rfl (gc_getI F (pc := 6) d_Mo_readThing_6 fi_Mo_177 o1 ?_)))
  obtain ⟨o2, h⟩ := h
  obtain ⟨o3, h⟩ := h
  refine gc_iast F (pc := 9) d_Mo_readThing_9 o2 o3 ?_
  obtain ⟨c4, ec4⟩ : ∃ c4 : cM, c4 = c_up c (rf x0 19) (Int32.toNatClampNeg x1) (c x0 20) := ⟨_, rfl⟩
  rw [← ec4]
  replace h := h c4 ec4
  refine g_aload_n F (pc := 10) d_Mo_readThing_10 0 rfl ?_
  refine gc_callVI (As := []) (st := []) F (pc := 11) d_Mo_readThing_11 cb_Mo_183 iv_Mo_next np_Mo_next o1 vc_7 (c_Mo_next h) rfl (by decide) (Nat.le_refl _) (Nat.le_refl _) (Nat.le_of_ble_eq_true rfl) (fun v6 c5 h => ?_)
  refine g_istore_n (lv' := [(2, .int v6), (0, .ref x0), (1, .int x1)]) F (pc := 14) d_Mo_readThing_14 (by decide) rfl (g_iload_n F (pc := 15) d_Mo_readThing_15 0 rfl (g_iconst (v := 4) F (pc := 16) d_Mo_readThing_16 (by decide) (g_ishr F (pc := 17) d_Mo_readThing_17 (g_bipush (v := 7) F (pc := 18) d_Mo_readThing_18 (by decide) (g_iand F (pc := 20) d_Mo_readThing_20 ?_)))))
  refine g_istore_n (lv' := [(3, .int ((c_shr v6 4) &&& 7)), (2, .int v6), (0, .ref x0), (1, .int x1)]) F (pc := 21) d_Mo_readThing_21 (by decide) rfl (g_aload_n F (pc := 22) d_Mo_readThing_22 2 rfl (gc_getI F (pc := 23) d_Mo_readThing_23 fi_Mo_174 o1 ?_))
  obtain ⟨J14, hJ14, h⟩ := h
  have jn15 : ∀ (c13 : cM), J14 c13 → Z (wd c13) 56 [(0, .ref x0), (1, .int x1), (2, .int v6), (3, .int ((c_shr v6 4) &&& 7))] [] 0 0 := by
    intro c13 h
    replace h := hJ14 c13 h
    refine g_aload_n F (pc := 56) d_Mo_readThing_56 0 rfl (g_iload_n F (pc := 57) d_Mo_readThing_57 2 rfl ?_)
    refine gc_callVI (As := [.int v6]) (st := []) F (pc := 58) d_Mo_readThing_58 cb_Mo_189 iv_Mo_readSize np_Mo_readSize o1 vc_7 (c_Mo_readSize h) rfl (by decide) (Nat.le_refl _) (Nat.le_refl _) (Nat.le_of_ble_eq_true rfl) (fun v17 c16 h => ?_)
    refine g_istore (lv' := [(4, .int v17), (0, .ref x0), (1, .int x1), (2, .int v6), (3, .int ((c_shr v6 4) &&& 7))]) F (pc := 61) d_Mo_readThing_61 (by decide) rfl (g_aload_n F (pc := 63) d_Mo_readThing_63 1 rfl (gc_getI F (pc := 64) d_Mo_readThing_64 fi_Mo_174 o1 ?_))
    obtain ⟨J22, hJ22, h⟩ := h
    have jn23 : ∀ (c21 : cM), J22 c21 → Z (wd c21) 83 [(0, .ref x0), (1, .int x1), (3, .int ((c_shr v6 4) &&& 7)), (4, .int v17)] [] 0 0 := by
      intro c21 h
      replace h := hJ22 c21 h
      refine g_iconst (v := (-1)) F (pc := 83) d_Mo_readThing_83 (by decide) (g_istore (lv' := [(5, .int (-1)), (0, .ref x0), (1, .int x1), (3, .int ((c_shr v6 4) &&& 7)), (4, .int v17)]) F (pc := 84) d_Mo_readThing_84 (by decide) rfl (g_iload_n F (pc := 86) d_Mo_readThing_86 3 rfl (g_bipush (v := 6) F (pc := 87) d_Mo_readThing_87 (by decide) ?_)))
      obtain ⟨J48, hJ48, h⟩ := h
      have jn49 : ∀ (y46 : Int32) (c47 : cM), J48 y46 c47 → Z (wd c47) 191 [(0, .ref x0), (1, .int x1), (3, .int ((c_shr v6 4) &&& 7)), (4, .int v17), (5, .int y46)] [] 0 0 := by
        intro y46 c47 h
        replace h := hJ48 y46 c47 h
        refine g_aload_n F (pc := 191) d_Mo_readThing_191 0 rfl (g_iload F (pc := 192) d_Mo_readThing_192 3 rfl ?_)
        refine gc_callVV (As := [.int v17]) (st := []) F (pc := 194) d_Mo_readThing_194 cb_Mo_192 iv_Mo_readWrapped np_Mo_readWrapped o1 vc_7 (c_Mo_readWrapped h) rfl (by decide) (Nat.le_refl _) (Nat.le_refl _) (Nat.le_of_ble_eq_true rfl) (fun c50 h => ?_)
        refine g_aload_n F (pc := 197) d_Mo_readThing_197 0 rfl (gc_getI F (pc := 198) d_Mo_readThing_198 fi_Mo_174 o1 ?_)
        refine g_if_eq (tgt := 205) F (pc := 201) d_Mo_readThing_201 (by decide) (fun b51 => ?_) (fun b51 => ?_)
        · replace h := h.1 b51
          refine g_iload_n F (pc := 205) d_Mo_readThing_205 2 rfl (g_bipush (v := 6) F (pc := 206) d_Mo_readThing_206 (by decide) ?_)
          refine g_icmp_ne (tgt := 242) F (pc := 208) d_Mo_readThing_208 (by decide) (fun b52 => ?_) (fun b52 => ?_)
          · replace h := h.1 b52
            refine g_aload_n F (pc := 242) d_Mo_readThing_242 0 rfl (gc_getR F (pc := 243) d_Mo_readThing_243 fi_Mo_7 o1 (g_bipush (v := 16) F (pc := 246) d_Mo_readThing_246 (by decide) (g_iload_n F (pc := 248) d_Mo_readThing_248 1 rfl (g_iadd F (pc := 249) d_Mo_readThing_249 (g_iload_n F (pc := 250) d_Mo_readThing_250 2 rfl ?_)))))
            obtain ⟨o53, h⟩ := h
            obtain ⟨o54, h⟩ := h
            refine gc_iast F (pc := 251) d_Mo_readThing_251 o53 o54 ?_
            obtain ⟨c55, ec55⟩ : ∃ c55 : cM, c55 = c_up c50 (rf x0 1) (Int32.toNatClampNeg (16 + x1)) ((c_shr v6 4) &&& 7) := ⟨_, rfl⟩
            rw [← ec55]
            replace h := h c55 ec55
            refine g_aload_n F (pc := 252) d_Mo_readThing_252 0 rfl (gc_getR F (pc := 253) d_Mo_readThing_253 fi_Mo_13 o1 (g_bipush (v := 16) F (pc := 256) d_Mo_readThing_256 (by decide) (g_iload_n F (pc := 258) d_Mo_readThing_258 1 rfl (g_iadd F (pc := 259) d_Mo_readThing_259 (g_iload F (pc := 260) d_Mo_readThing_260 3 rfl ?_)))))
            obtain ⟨o56, h⟩ := h
            obtain ⟨o57, h⟩ := h
            refine gc_iast F (pc := 262) d_Mo_readThing_262 o56 o57 ?_
            obtain ⟨c58, ec58⟩ : ∃ c58 : cM, c58 = c_up c55 (rf x0 2) (Int32.toNatClampNeg (16 + x1)) v17 := ⟨_, rfl⟩
            rw [← ec58]
            replace h := h c58 ec58
            refine g_iconst (v := 0) F (pc := 263) d_Mo_readThing_263 (by decide) (g_istore (lv' := [(6, .int 0), (0, .ref x0), (1, .int x1), (3, .int ((c_shr v6 4) &&& 7)), (4, .int v17), (5, .int y46)]) F (pc := 264) d_Mo_readThing_264 (by decide) rfl ?_)
            refine g_lv (lv' := [(0, .ref x0), (1, .int x1), (4, .int v17), (6, .int 0)]) F [1, 2, 4, 0] rfl ?_
            obtain ⟨I59, ⟨n0, h⟩, hI59⟩ := h
            have lp62 : ∀ (n60 : Nat) (y63 : Int32) (c64 : cM), I59 n60 y63 c64 → Z (wd c64) 266 [(0, .ref x0), (1, .int x1), (4, .int v17), (6, .int y63)] [] 0 0 := by
              intro n60
              induction n60 using Nat.strongRecOn with
              | _ n60 ih61 =>
                intro y63 c64 h
                replace h := hI59 n60 y63 c64 h
                refine g_iload F (pc := 266) d_Mo_readThing_266 3 rfl (g_iload F (pc := 268) d_Mo_readThing_268 2 rfl ?_)
                refine g_icmp_ge (tgt := 301) F (pc := 270) d_Mo_readThing_270 (by decide) (fun b65 => ?_) (fun b65 => ?_)
                · replace h := h.1 b65
                  exact g_vret T (pc := 301) d_Mo_readThing_301 rfl (Nat.le_refl _) (Nat.le_refl _) (poV h)
                · replace h := h.2 b65
                  refine g_aload_n F (pc := 273) d_Mo_readThing_273 0 rfl (gc_getR F (pc := 274) d_Mo_readThing_274 fi_Mo_16 o1 (g_bipush (v := 120) F (pc := 277) d_Mo_readThing_277 (by decide) (g_bipush (v := 16) F (pc := 279) d_Mo_readThing_279 (by decide) (g_iload_n F (pc := 281) d_Mo_readThing_281 1 rfl (g_iadd F (pc := 282) d_Mo_readThing_282 ?_)))))
                  refine g_imul F (pc := 283) d_Mo_readThing_283 (g_iload F (pc := 284) d_Mo_readThing_284 3 rfl (g_iadd F (pc := 286) d_Mo_readThing_286 (g_aload_n F (pc := 287) d_Mo_readThing_287 0 rfl (gc_getR F (pc := 288) d_Mo_readThing_288 fi_Mo_56 o1 (g_iload F (pc := 291) d_Mo_readThing_291 3 rfl ?_)))))
                  obtain ⟨o66, h⟩ := h
                  obtain ⟨o67, h⟩ := h
                  refine gc_iald F (pc := 293) d_Mo_readThing_293 o66 o67 ?_
                  obtain ⟨o68, h⟩ := h
                  obtain ⟨o69, h⟩ := h
                  refine gc_iast F (pc := 294) d_Mo_readThing_294 o68 o69 ?_
                  obtain ⟨c70, ec70⟩ : ∃ c70 : cM, c70 = c_up c64 (rf x0 3) (Int32.toNatClampNeg ((120 * (16 + x1)) + y63)) (c64 (rf x0 24) (Int32.toNatClampNeg y63)) := ⟨_, rfl⟩
                  rw [← ec70]
                  replace h := h c70 ec70
                  refine g_iinc (v := (y63 + 1)) (lv' := [(6, .int (y63 + 1)), (0, .ref x0), (1, .int x1), (4, .int v17)]) F (pc := 295) d_Mo_readThing_295 3 rfl (sk_inc (by decide)) (by decide) rfl (g_goto (tgt := 266) F (pc := 298) d_Mo_readThing_298 (by decide) ?_)
                  refine g_lv (lv' := [(0, .ref x0), (1, .int x1), (4, .int v17), (6, .int (y63 + 1))]) F [1, 2, 3, 0] rfl ?_
                  obtain ⟨m, hm, h⟩ := h
                  exact ih61 m hm _ _ h
            exact lp62 n0 _ _ h
          · replace h := h.2 b52
            refine g_aload_n F (pc := 211) d_Mo_readThing_211 0 rfl (gc_getR F (pc := 212) d_Mo_readThing_212 fi_Mo_7 o1 (g_bipush (v := 16) F (pc := 215) d_Mo_readThing_215 (by decide) (g_iload_n F (pc := 217) d_Mo_readThing_217 1 rfl (g_iadd F (pc := 218) d_Mo_readThing_218 (g_aload_n F (pc := 219) d_Mo_readThing_219 0 rfl ?_)))))
            refine gc_getR F (pc := 220) d_Mo_readThing_220 fi_Mo_7 o1 (g_iload F (pc := 223) d_Mo_readThing_223 4 rfl ?_)
            obtain ⟨o71, h⟩ := h
            obtain ⟨o72, h⟩ := h
            refine gc_iald F (pc := 225) d_Mo_readThing_225 o71 o72 ?_
            obtain ⟨o73, h⟩ := h
            refine gc_iast F (pc := 226) d_Mo_readThing_226 o71 o73 ?_
            obtain ⟨c74, ec74⟩ : ∃ c74 : cM, c74 = c_up c50 (rf x0 1) (Int32.toNatClampNeg (16 + x1)) (c50 (rf x0 1) (Int32.toNatClampNeg y46)) := ⟨_, rfl⟩
            rw [← ec74]
            replace h := h c74 ec74
            refine g_aload_n F (pc := 227) d_Mo_readThing_227 0 rfl (g_iload F (pc := 228) d_Mo_readThing_228 3 rfl (g_iload F (pc := 230) d_Mo_readThing_230 4 rfl (g_bipush (v := 16) F (pc := 232) d_Mo_readThing_232 (by decide) (g_iload_n F (pc := 234) d_Mo_readThing_234 1 rfl (g_iadd F (pc := 235) d_Mo_readThing_235 ?_)))))
            refine gc_callVV (As := [.int v17, .int y46, .int (16 + x1)]) (st := []) F (pc := 236) d_Mo_readThing_236 cb_Mo_195 iv_Mo_carryOut np_Mo_carryOut o1 vc_7 (c_Mo_carryOut h) rfl (by decide) (Nat.le_refl _) (Nat.le_refl _) (Nat.le_of_ble_eq_true rfl) (fun c75 h => ?_)
            refine g_goto (tgt := 301) F (pc := 239) d_Mo_readThing_239 (by decide) ?_
            exact g_vret T (pc := 301) d_Mo_readThing_301 rfl (Nat.le_refl _) (Nat.le_refl _) (poV h)
        · replace h := h.2 b51
          exact g_vret T (pc := 204) d_Mo_readThing_204 rfl (Nat.le_refl _) (Nat.le_refl _) (poV h)
      refine g_icmp_ne (tgt := 191) F (pc := 89) d_Mo_readThing_89 (by decide) (fun b24 => ?_) (fun b24 => ?_)
      · replace h := h.1 b24
        refine g_lv (lv' := [(0, .ref x0), (1, .int x1), (3, .int ((c_shr v6 4) &&& 7)), (4, .int v17), (5, .int (-1))]) F [1, 2, 3, 4, 0] rfl ?_
        exact jn49 _ _ h
      · replace h := h.2 b24
        refine g_aload_n F (pc := 92) d_Mo_readThing_92 1 rfl ?_
        refine gc_callVI (As := []) (st := []) F (pc := 93) d_Mo_readThing_93 cb_Mo_183 iv_Mo_next np_Mo_next o1 vc_7 (c_Mo_next h) rfl (by decide) (Nat.le_refl _) (Nat.le_refl _) (Nat.le_of_ble_eq_true rfl) (fun v77 c76 h => ?_)
        refine g_istore (lv' := [(6, .int v77), (5, .int (-1)), (0, .ref x0), (1, .int x1), (3, .int ((c_shr v6 4) &&& 7)), (4, .int v17)]) F (pc := 96) d_Mo_readThing_96 (by decide) rfl (g_iload F (pc := 98) d_Mo_readThing_98 0 rfl (g_sipush (v := 128) F (pc := 100) d_Mo_readThing_100 (by decide) ?_))
        obtain ⟨J83, hJ83, h⟩ := h
        have jn84 : ∀ (s81 : Int32) (c82 : cM), J83 s81 c82 → Z (wd c82) 125 [(0, .ref x0), (1, .int x1), (3, .int ((c_shr v6 4) &&& 7)), (4, .int v17), (5, .int (-1))] [.int s81] 0 0 := by
          intro s81 c82 h
          replace h := hJ83 s81 c82 h
          refine g_istore (lv' := [(7, .int s81), (0, .ref x0), (1, .int x1), (3, .int ((c_shr v6 4) &&& 7)), (4, .int v17), (5, .int (-1))]) F (pc := 125) d_Mo_readThing_125 (by decide) rfl (g_iconst (v := 0) F (pc := 127) d_Mo_readThing_127 (by decide) (g_istore (lv' := [(8, .int 0), (7, .int s81), (0, .ref x0), (1, .int x1), (3, .int ((c_shr v6 4) &&& 7)), (4, .int v17), (5, .int (-1))]) F (pc := 128) d_Mo_readThing_128 (by decide) rfl ?_))
          refine g_lv (lv' := [(0, .ref x0), (1, .int x1), (3, .int ((c_shr v6 4) &&& 7)), (4, .int v17), (5, .int (-1)), (7, .int s81), (8, .int 0)]) F [2, 3, 4, 5, 6, 1, 0] rfl ?_
          obtain ⟨I85, ⟨n0, h⟩, hI85⟩ := h
          have lp88 : ∀ (n86 : Nat) (y89 : Int32) (y90 : Int32), I85 n86 y89 y90 → Z (wd c82) 130 [(0, .ref x0), (1, .int x1), (3, .int ((c_shr v6 4) &&& 7)), (4, .int v17), (5, .int y89), (7, .int s81), (8, .int y90)] [] 0 0 := by
            intro n86
            induction n86 using Nat.strongRecOn with
            | _ n86 ih87 =>
              intro y89 y90 h
              replace h := hI85 n86 y89 y90 h
              refine g_iload F (pc := 130) d_Mo_readThing_130 6 rfl (g_iload_n F (pc := 132) d_Mo_readThing_132 1 rfl ?_)
              refine g_icmp_ge (tgt := 173) F (pc := 133) d_Mo_readThing_133 (by decide) (fun b91 => ?_) (fun b91 => ?_)
              · replace h := h.1 b91
                refine g_aload_n F (pc := 173) d_Mo_readThing_173 0 rfl (gc_getI F (pc := 174) d_Mo_readThing_174 fi_Mo_174 o1 ?_)
                refine g_if_ne (tgt := 191) F (pc := 177) d_Mo_readThing_177 (by decide) (fun b92 => ?_) (fun b92 => ?_)
                · replace h := h.1 b92
                  refine g_lv (lv' := [(0, .ref x0), (1, .int x1), (3, .int ((c_shr v6 4) &&& 7)), (4, .int v17), (5, .int y89)]) F [0, 1, 2, 3, 4] rfl ?_
                  exact jn49 _ _ h
                · replace h := h.2 b92
                  refine g_iload F (pc := 180) d_Mo_readThing_180 4 rfl ?_
                  refine g_if_ge (tgt := 191) F (pc := 182) d_Mo_readThing_182 (by decide) (fun b93 => ?_) (fun b93 => ?_)
                  · replace h := h.1 b93
                    refine g_lv (lv' := [(0, .ref x0), (1, .int x1), (3, .int ((c_shr v6 4) &&& 7)), (4, .int v17), (5, .int y89)]) F [0, 1, 2, 3, 4] rfl ?_
                    exact jn49 _ _ h
                  · replace h := h.2 b93
                    refine g_aload_n F (pc := 185) d_Mo_readThing_185 0 rfl (g_bipush (v := (-8)) F (pc := 186) d_Mo_readThing_186 (by decide) (gc_putI F (pc := 188) d_Mo_readThing_188 pi_Mo_174 o1 ?_))
                    obtain ⟨c94, ec94⟩ : ∃ c94 : cM, c94 = c_up c82 x0 22 (-8) := ⟨_, rfl⟩
                    rw [← ec94]
                    replace h := h c94 ec94
                    refine g_lv (lv' := [(0, .ref x0), (1, .int x1), (3, .int ((c_shr v6 4) &&& 7)), (4, .int v17), (5, .int y89)]) F [0, 1, 2, 3, 4] rfl ?_
                    exact jn49 _ _ h
              · replace h := h.2 b91
                refine g_aload_n F (pc := 136) d_Mo_readThing_136 0 rfl (gc_getR F (pc := 137) d_Mo_readThing_137 fi_Mo_53 o1 (g_iload F (pc := 140) d_Mo_readThing_140 6 rfl ?_))
                obtain ⟨o95, h⟩ := h
                refine gc_iald F (pc := 142) d_Mo_readThing_142 o2 o95 (g_aload_n F (pc := 143) d_Mo_readThing_143 0 rfl (gc_getR F (pc := 144) d_Mo_readThing_144 fi_Mo_53 o1 (g_iload_n F (pc := 147) d_Mo_readThing_147 1 rfl (gc_iald F (pc := 148) d_Mo_readThing_148 o2 o3 (g_iload F (pc := 149) d_Mo_readThing_149 5 rfl ?_)))))
                refine g_isub F (pc := 151) d_Mo_readThing_151 ?_
                obtain ⟨J98, hJ98, h⟩ := h
                have jn99 : ∀ (s97 : Int32), J98 s97 → Z (wd c82) 165 [(0, .ref x0), (1, .int x1), (3, .int ((c_shr v6 4) &&& 7)), (4, .int v17), (7, .int s81), (8, .int y90)] [.int s97] 0 0 := by
                  intro s97 h
                  replace h := hJ98 s97 h
                  refine g_istore (lv' := [(5, .int s97), (0, .ref x0), (1, .int x1), (3, .int ((c_shr v6 4) &&& 7)), (4, .int v17), (7, .int s81), (8, .int y90)]) F (pc := 165) d_Mo_readThing_165 (by decide) rfl (g_iinc (v := (y90 + 1)) (lv' := [(8, .int (y90 + 1)), (5, .int s97), (0, .ref x0), (1, .int x1), (3, .int ((c_shr v6 4) &&& 7)), (4, .int v17), (7, .int s81)]) F (pc := 167) d_Mo_readThing_167 6 rfl (sk_inc (by decide)) (by decide) rfl (g_goto (tgt := 130) F (pc := 170) d_Mo_readThing_170 (by decide) ?_))
                  refine g_lv (lv' := [(0, .ref x0), (1, .int x1), (3, .int ((c_shr v6 4) &&& 7)), (4, .int v17), (5, .int s97), (7, .int s81), (8, .int (y90 + 1))]) F [2, 3, 4, 5, 1, 6, 0] rfl ?_
                  obtain ⟨m, hm, h⟩ := h
                  exact ih87 m hm _ _ h
                refine g_icmp_ne (tgt := 163) F (pc := 152) d_Mo_readThing_152 (by decide) (fun b96 => ?_) (fun b96 => ?_)
                · replace h := h.1 b96
                  refine g_iload F (pc := 163) d_Mo_readThing_163 4 rfl ?_
                  refine g_lv (lv' := [(0, .ref x0), (1, .int x1), (3, .int ((c_shr v6 4) &&& 7)), (4, .int v17), (7, .int s81), (8, .int y90)]) F [0, 1, 2, 3, 5, 6] rfl ?_
                  exact jn99 _ h
                · replace h := h.2 b96
                  refine g_bipush (v := 16) F (pc := 155) d_Mo_readThing_155 (by decide) (g_iload F (pc := 157) d_Mo_readThing_157 6 rfl (g_iadd F (pc := 159) d_Mo_readThing_159 (g_goto (tgt := 165) F (pc := 160) d_Mo_readThing_160 (by decide) ?_)))
                  refine g_lv (lv' := [(0, .ref x0), (1, .int x1), (3, .int ((c_shr v6 4) &&& 7)), (4, .int v17), (7, .int s81), (8, .int y90)]) F [0, 1, 2, 3, 5, 6] rfl ?_
                  exact jn99 _ h
          exact lp88 n0 _ _ h
        refine g_icmp_ge (tgt := 111) F (pc := 103) d_Mo_readThing_103 (by decide) (fun b78 => ?_) (fun b78 => ?_)
        · replace h := h.1 b78
          refine g_sipush (v := 128) F (pc := 111) d_Mo_readThing_111 (by decide) (g_iload F (pc := 114) d_Mo_readThing_114 0 rfl (g_bipush (v := 127) F (pc := 116) d_Mo_readThing_116 (by decide) (g_isub F (pc := 118) d_Mo_readThing_118 (g_imul F (pc := 119) d_Mo_readThing_119 (g_aload_n F (pc := 120) d_Mo_readThing_120 2 rfl ?_)))))
          refine gc_callVI (As := []) (st := [.int (128 * (v77 - 127))]) F (pc := 121) d_Mo_readThing_121 cb_Mo_183 iv_Mo_next np_Mo_next o1 vc_7 (c_Mo_next h) rfl (by decide) (Nat.le_refl _) (Nat.le_refl _) (Nat.le_of_ble_eq_true rfl) (fun v101 c100 h => ?_)
          refine g_iadd F (pc := 124) d_Mo_readThing_124 ?_
          refine g_lv (lv' := [(0, .ref x0), (1, .int x1), (3, .int ((c_shr v6 4) &&& 7)), (4, .int v17), (5, .int (-1))]) F [2, 3, 4, 5, 1] rfl ?_
          exact jn84 _ _ h
        · replace h := h.2 b78
          refine g_iload F (pc := 106) d_Mo_readThing_106 0 rfl (g_goto (tgt := 125) F (pc := 108) d_Mo_readThing_108 (by decide) ?_)
          refine g_lv (lv' := [(0, .ref x0), (1, .int x1), (3, .int ((c_shr v6 4) &&& 7)), (4, .int v17), (5, .int (-1))]) F [2, 3, 4, 5, 1] rfl ?_
          exact jn84 _ _ h
    refine g_if_ne (tgt := 83) F (pc := 67) d_Mo_readThing_67 (by decide) (fun b18 => ?_) (fun b18 => ?_)
    · replace h := h.1 b18
      refine g_lv (lv' := [(0, .ref x0), (1, .int x1), (3, .int ((c_shr v6 4) &&& 7)), (4, .int v17)]) F [1, 2, 4, 0] rfl ?_
      exact jn23 _ h
    · replace h := h.2 b18
      refine g_iload F (pc := 70) d_Mo_readThing_70 0 rfl (g_bipush (v := 120) F (pc := 72) d_Mo_readThing_72 (by decide) ?_)
      refine g_icmp_le (tgt := 83) F (pc := 74) d_Mo_readThing_74 (by decide) (fun b102 => ?_) (fun b102 => ?_)
      · replace h := h.1 b102
        refine g_lv (lv' := [(0, .ref x0), (1, .int x1), (3, .int ((c_shr v6 4) &&& 7)), (4, .int v17)]) F [1, 2, 4, 0] rfl ?_
        exact jn23 _ h
      · replace h := h.2 b102
        refine g_aload_n F (pc := 77) d_Mo_readThing_77 1 rfl (g_bipush (v := (-7)) F (pc := 78) d_Mo_readThing_78 (by decide) (gc_putI F (pc := 80) d_Mo_readThing_80 pi_Mo_174 o1 ?_))
        obtain ⟨c103, ec103⟩ : ∃ c103 : cM, c103 = c_up c16 x0 22 (-7) := ⟨_, rfl⟩
        rw [← ec103]
        replace h := h c103 ec103
        refine g_lv (lv' := [(0, .ref x0), (1, .int x1), (3, .int ((c_shr v6 4) &&& 7)), (4, .int v17)]) F [1, 2, 4, 0] rfl ?_
        exact jn23 _ h
  refine g_if_ne (tgt := 56) F (pc := 26) d_Mo_readThing_26 (by decide) (fun b7 => ?_) (fun b7 => ?_)
  · replace h := h.1 b7
    refine g_lv (lv' := [(0, .ref x0), (1, .int x1), (2, .int v6), (3, .int ((c_shr v6 4) &&& 7))]) F [2, 3, 1, 0] rfl ?_
    exact jn15 _ h
  · replace h := h.2 b7
    refine g_iload_n F (pc := 29) d_Mo_readThing_29 0 rfl (g_iconst (v := 1) F (pc := 30) d_Mo_readThing_30 (by decide) ?_)
    refine g_icmp_eq (tgt := 56) F (pc := 31) d_Mo_readThing_31 (by decide) (fun b104 => ?_) (fun b104 => ?_)
    · replace h := h.1 b104
      refine g_lv (lv' := [(0, .ref x0), (1, .int x1), (2, .int v6), (3, .int ((c_shr v6 4) &&& 7))]) F [2, 3, 1, 0] rfl ?_
      exact jn15 _ h
    · replace h := h.2 b104
      refine g_iload_n F (pc := 34) d_Mo_readThing_34 0 rfl (g_iconst (v := 2) F (pc := 35) d_Mo_readThing_35 (by decide) ?_)
      refine g_icmp_eq (tgt := 56) F (pc := 36) d_Mo_readThing_36 (by decide) (fun b105 => ?_) (fun b105 => ?_)
      · replace h := h.1 b105
        refine g_lv (lv' := [(0, .ref x0), (1, .int x1), (2, .int v6), (3, .int ((c_shr v6 4) &&& 7))]) F [2, 3, 1, 0] rfl ?_
        exact jn15 _ h
      · replace h := h.2 b105
        refine g_iload_n F (pc := 39) d_Mo_readThing_39 0 rfl (g_iconst (v := 3) F (pc := 40) d_Mo_readThing_40 (by decide) ?_)
        refine g_icmp_eq (tgt := 56) F (pc := 41) d_Mo_readThing_41 (by decide) (fun b106 => ?_) (fun b106 => ?_)
        · replace h := h.1 b106
          refine g_lv (lv' := [(0, .ref x0), (1, .int x1), (2, .int v6), (3, .int ((c_shr v6 4) &&& 7))]) F [2, 3, 1, 0] rfl ?_
          exact jn15 _ h
        · replace h := h.2 b106
          refine g_iload_n F (pc := 44) d_Mo_readThing_44 0 rfl (g_bipush (v := 6) F (pc := 45) d_Mo_readThing_45 (by decide) ?_)
          refine g_icmp_eq (tgt := 56) F (pc := 47) d_Mo_readThing_47 (by decide) (fun b107 => ?_) (fun b107 => ?_)
          · replace h := h.1 b107
            refine g_lv (lv' := [(0, .ref x0), (1, .int x1), (2, .int v6), (3, .int ((c_shr v6 4) &&& 7))]) F [2, 3, 1, 0] rfl ?_
            exact jn15 _ h
          · replace h := h.2 b107
            refine g_aload_n F (pc := 50) d_Mo_readThing_50 2 rfl (g_bipush (v := (-6)) F (pc := 51) d_Mo_readThing_51 (by decide) (gc_putI F (pc := 53) d_Mo_readThing_53 pi_Mo_174 o1 ?_))
            obtain ⟨c108, ec108⟩ : ∃ c108 : cM, c108 = c_up c5 x0 22 (-6) := ⟨_, rfl⟩
            rw [← ec108]
            replace h := h c108 ec108
            refine g_lv (lv' := [(0, .ref x0), (1, .int x1), (2, .int v6), (3, .int ((c_shr v6 4) &&& 7))]) F [2, 3, 1, 0] rfl ?_
            exact jn15 _ h
theorem d_Mo_unpack_0 : decode M_Mo_unpack.2.1 0 = .ok (.aload_n 0, 1) := by decide +kernel
theorem d_Mo_unpack_1 : decode M_Mo_unpack.2.1 1 = .ok (.getfield 148, 3) := by decide +kernel
theorem d_Mo_unpack_4 : decode M_Mo_unpack.2.1 4 = .ok (.ifCond .ne 5, 3) := by decide +kernel
theorem d_Mo_unpack_7 : decode M_Mo_unpack.2.1 7 = .ok (.iconst (-1), 1) := by decide +kernel
theorem d_Mo_unpack_8 : decode M_Mo_unpack.2.1 8 = .ok (.ireturn, 1) := by decide +kernel
theorem d_Mo_unpack_9 : decode M_Mo_unpack.2.1 9 = .ok (.aload_n 0, 1) := by decide +kernel
theorem d_Mo_unpack_10 : decode M_Mo_unpack.2.1 10 = .ok (.invokevirtual 199, 3) := by decide +kernel
theorem d_Mo_unpack_13 : decode M_Mo_unpack.2.1 13 = .ok (.ifCond .ne 6, 3) := by decide +kernel
theorem d_Mo_unpack_16 : decode M_Mo_unpack.2.1 16 = .ok (.bipush (-3), 2) := by decide +kernel
theorem d_Mo_unpack_18 : decode M_Mo_unpack.2.1 18 = .ok (.ireturn, 1) := by decide +kernel
theorem d_Mo_unpack_19 : decode M_Mo_unpack.2.1 19 = .ok (.aload_n 0, 1) := by decide +kernel
theorem d_Mo_unpack_20 : decode M_Mo_unpack.2.1 20 = .ok (.invokevirtual 203, 3) := by decide +kernel
theorem d_Mo_unpack_23 : decode M_Mo_unpack.2.1 23 = .ok (.ifCond .ne 6, 3) := by decide +kernel
theorem d_Mo_unpack_26 : decode M_Mo_unpack.2.1 26 = .ok (.bipush (-4), 2) := by decide +kernel
theorem d_Mo_unpack_28 : decode M_Mo_unpack.2.1 28 = .ok (.ireturn, 1) := by decide +kernel
theorem d_Mo_unpack_29 : decode M_Mo_unpack.2.1 29 = .ok (.aload_n 0, 1) := by decide +kernel
theorem d_Mo_unpack_30 : decode M_Mo_unpack.2.1 30 = .ok (.getfield 50, 3) := by decide +kernel
theorem d_Mo_unpack_33 : decode M_Mo_unpack.2.1 33 = .ok (.bipush 8, 2) := by decide +kernel
theorem d_Mo_unpack_35 : decode M_Mo_unpack.2.1 35 = .ok (.iaload, 1) := by decide +kernel
theorem d_Mo_unpack_36 : decode M_Mo_unpack.2.1 36 = .ok (.ifCond .ne 35, 3) := by decide +kernel
theorem d_Mo_unpack_39 : decode M_Mo_unpack.2.1 39 = .ok (.aload_n 0, 1) := by decide +kernel
theorem d_Mo_unpack_40 : decode M_Mo_unpack.2.1 40 = .ok (.getfield 50, 3) := by decide +kernel
theorem d_Mo_unpack_43 : decode M_Mo_unpack.2.1 43 = .ok (.bipush 9, 2) := by decide +kernel
theorem d_Mo_unpack_45 : decode M_Mo_unpack.2.1 45 = .ok (.iaload, 1) := by decide +kernel
theorem d_Mo_unpack_46 : decode M_Mo_unpack.2.1 46 = .ok (.ifCond .ne 25, 3) := by decide +kernel
theorem d_Mo_unpack_49 : decode M_Mo_unpack.2.1 49 = .ok (.aload_n 0, 1) := by decide +kernel
theorem d_Mo_unpack_50 : decode M_Mo_unpack.2.1 50 = .ok (.getfield 50, 3) := by decide +kernel
theorem d_Mo_unpack_53 : decode M_Mo_unpack.2.1 53 = .ok (.bipush 10, 2) := by decide +kernel
theorem d_Mo_unpack_55 : decode M_Mo_unpack.2.1 55 = .ok (.iaload, 1) := by decide +kernel
theorem d_Mo_unpack_56 : decode M_Mo_unpack.2.1 56 = .ok (.ifCond .ne 15, 3) := by decide +kernel
theorem d_Mo_unpack_59 : decode M_Mo_unpack.2.1 59 = .ok (.aload_n 0, 1) := by decide +kernel
theorem d_Mo_unpack_60 : decode M_Mo_unpack.2.1 60 = .ok (.getfield 50, 3) := by decide +kernel
theorem d_Mo_unpack_63 : decode M_Mo_unpack.2.1 63 = .ok (.bipush 11, 2) := by decide +kernel
theorem d_Mo_unpack_65 : decode M_Mo_unpack.2.1 65 = .ok (.iaload, 1) := by decide +kernel
theorem d_Mo_unpack_66 : decode M_Mo_unpack.2.1 66 = .ok (.bipush 16, 2) := by decide +kernel
theorem d_Mo_unpack_68 : decode M_Mo_unpack.2.1 68 = .ok (.if_icmp .le 6, 3) := by decide +kernel
theorem d_Mo_unpack_71 : decode M_Mo_unpack.2.1 71 = .ok (.bipush (-2), 2) := by decide +kernel
theorem d_Mo_unpack_73 : decode M_Mo_unpack.2.1 73 = .ok (.ireturn, 1) := by decide +kernel
theorem d_Mo_unpack_74 : decode M_Mo_unpack.2.1 74 = .ok (.aload_n 0, 1) := by decide +kernel
theorem d_Mo_unpack_75 : decode M_Mo_unpack.2.1 75 = .ok (.aload_n 0, 1) := by decide +kernel
theorem d_Mo_unpack_76 : decode M_Mo_unpack.2.1 76 = .ok (.getfield 50, 3) := by decide +kernel
theorem d_Mo_unpack_79 : decode M_Mo_unpack.2.1 79 = .ok (.bipush 11, 2) := by decide +kernel
theorem d_Mo_unpack_81 : decode M_Mo_unpack.2.1 81 = .ok (.iaload, 1) := by decide +kernel
theorem d_Mo_unpack_82 : decode M_Mo_unpack.2.1 82 = .ok (.putfield 206, 3) := by decide +kernel
theorem d_Mo_unpack_85 : decode M_Mo_unpack.2.1 85 = .ok (.aload_n 0, 1) := by decide +kernel
theorem d_Mo_unpack_86 : decode M_Mo_unpack.2.1 86 = .ok (.bipush 12, 2) := by decide +kernel
theorem d_Mo_unpack_88 : decode M_Mo_unpack.2.1 88 = .ok (.putfield 177, 3) := by decide +kernel
theorem d_Mo_unpack_91 : decode M_Mo_unpack.2.1 91 = .ok (.aload_n 0, 1) := by decide +kernel
theorem d_Mo_unpack_92 : decode M_Mo_unpack.2.1 92 = .ok (.aload_n 0, 1) := by decide +kernel
theorem d_Mo_unpack_93 : decode M_Mo_unpack.2.1 93 = .ok (.getfield 148, 3) := by decide +kernel
theorem d_Mo_unpack_96 : decode M_Mo_unpack.2.1 96 = .ok (.bipush 20, 2) := by decide +kernel
theorem d_Mo_unpack_98 : decode M_Mo_unpack.2.1 98 = .ok (.isub, 1) := by decide +kernel
theorem d_Mo_unpack_99 : decode M_Mo_unpack.2.1 99 = .ok (.putfield 180, 3) := by decide +kernel
theorem d_Mo_unpack_102 : decode M_Mo_unpack.2.1 102 = .ok (.aload_n 0, 1) := by decide +kernel
theorem d_Mo_unpack_103 : decode M_Mo_unpack.2.1 103 = .ok (.iconst 0, 1) := by decide +kernel
theorem d_Mo_unpack_104 : decode M_Mo_unpack.2.1 104 = .ok (.putfield 174, 3) := by decide +kernel
theorem d_Mo_unpack_107 : decode M_Mo_unpack.2.1 107 = .ok (.iconst 0, 1) := by decide +kernel
theorem d_Mo_unpack_108 : decode M_Mo_unpack.2.1 108 = .ok (.istore_n 1, 1) := by decide +kernel
theorem d_Mo_unpack_109 : decode M_Mo_unpack.2.1 109 = .ok (.iload_n 1, 1) := by decide +kernel
theorem d_Mo_unpack_110 : decode M_Mo_unpack.2.1 110 = .ok (.aload_n 0, 1) := by decide +kernel
theorem d_Mo_unpack_111 : decode M_Mo_unpack.2.1 111 = .ok (.getfield 206, 3) := by decide +kernel
theorem d_Mo_unpack_114 : decode M_Mo_unpack.2.1 114 = .ok (.if_icmp .ge 21, 3) := by decide +kernel
theorem d_Mo_unpack_117 : decode M_Mo_unpack.2.1 117 = .ok (.aload_n 0, 1) := by decide +kernel
theorem d_Mo_unpack_118 : decode M_Mo_unpack.2.1 118 = .ok (.getfield 174, 3) := by decide +kernel
theorem d_Mo_unpack_121 : decode M_Mo_unpack.2.1 121 = .ok (.ifCond .ne 14, 3) := by decide +kernel
theorem d_Mo_unpack_124 : decode M_Mo_unpack.2.1 124 = .ok (.aload_n 0, 1) := by decide +kernel
theorem d_Mo_unpack_125 : decode M_Mo_unpack.2.1 125 = .ok (.iload_n 1, 1) := by decide +kernel
theorem d_Mo_unpack_126 : decode M_Mo_unpack.2.1 126 = .ok (.invokevirtual 209, 3) := by decide +kernel
theorem d_Mo_unpack_129 : decode M_Mo_unpack.2.1 129 = .ok (.iinc 1 1, 3) := by decide +kernel
theorem d_Mo_unpack_132 : decode M_Mo_unpack.2.1 132 = .ok (.goto (-23), 3) := by decide +kernel
theorem d_Mo_unpack_135 : decode M_Mo_unpack.2.1 135 = .ok (.aload_n 0, 1) := by decide +kernel
theorem d_Mo_unpack_136 : decode M_Mo_unpack.2.1 136 = .ok (.getfield 174, 3) := by decide +kernel
theorem d_Mo_unpack_139 : decode M_Mo_unpack.2.1 139 = .ok (.ifCond .ne 20, 3) := by decide +kernel
theorem d_Mo_unpack_142 : decode M_Mo_unpack.2.1 142 = .ok (.aload_n 0, 1) := by decide +kernel
theorem d_Mo_unpack_143 : decode M_Mo_unpack.2.1 143 = .ok (.getfield 177, 3) := by decide +kernel
theorem d_Mo_unpack_146 : decode M_Mo_unpack.2.1 146 = .ok (.aload_n 0, 1) := by decide +kernel
theorem d_Mo_unpack_147 : decode M_Mo_unpack.2.1 147 = .ok (.getfield 180, 3) := by decide +kernel
theorem d_Mo_unpack_150 : decode M_Mo_unpack.2.1 150 = .ok (.if_icmp .ge 9, 3) := by decide +kernel
theorem d_Mo_unpack_153 : decode M_Mo_unpack.2.1 153 = .ok (.aload_n 0, 1) := by decide +kernel
theorem d_Mo_unpack_154 : decode M_Mo_unpack.2.1 154 = .ok (.bipush (-5), 2) := by decide +kernel
theorem d_Mo_unpack_156 : decode M_Mo_unpack.2.1 156 = .ok (.putfield 174, 3) := by decide +kernel
theorem d_Mo_unpack_159 : decode M_Mo_unpack.2.1 159 = .ok (.aload_n 0, 1) := by decide +kernel
theorem d_Mo_unpack_160 : decode M_Mo_unpack.2.1 160 = .ok (.getfield 174, 3) := by decide +kernel
theorem d_Mo_unpack_163 : decode M_Mo_unpack.2.1 163 = .ok (.ifCond .eq 8, 3) := by decide +kernel
theorem d_Mo_unpack_166 : decode M_Mo_unpack.2.1 166 = .ok (.aload_n 0, 1) := by decide +kernel
theorem d_Mo_unpack_167 : decode M_Mo_unpack.2.1 167 = .ok (.getfield 174, 3) := by decide +kernel
theorem d_Mo_unpack_170 : decode M_Mo_unpack.2.1 170 = .ok (.ireturn, 1) := by decide +kernel
theorem d_Mo_unpack_171 : decode M_Mo_unpack.2.1 171 = .ok (.aload_n 0, 1) := by decide +kernel
theorem d_Mo_unpack_172 : decode M_Mo_unpack.2.1 172 = .ok (.getfield 93, 3) := by decide +kernel
theorem d_Mo_unpack_175 : decode M_Mo_unpack.2.1 175 = .ok (.istore_n 1, 1) := by decide +kernel
theorem d_Mo_unpack_176 : decode M_Mo_unpack.2.1 176 = .ok (.iconst 0, 1) := by decide +kernel
theorem d_Mo_unpack_177 : decode M_Mo_unpack.2.1 177 = .ok (.istore_n 2, 1) := by decide +kernel
theorem d_Mo_unpack_178 : decode M_Mo_unpack.2.1 178 = .ok (.iload_n 2, 1) := by decide +kernel
theorem d_Mo_unpack_179 : decode M_Mo_unpack.2.1 179 = .ok (.aload_n 0, 1) := by decide +kernel
theorem d_Mo_unpack_180 : decode M_Mo_unpack.2.1 180 = .ok (.getfield 206, 3) := by decide +kernel
theorem d_Mo_unpack_183 : decode M_Mo_unpack.2.1 183 = .ok (.if_icmp .ge 67, 3) := by decide +kernel
theorem d_Mo_unpack_186 : decode M_Mo_unpack.2.1 186 = .ok (.aload_n 0, 1) := by decide +kernel
theorem d_Mo_unpack_187 : decode M_Mo_unpack.2.1 187 = .ok (.bipush 16, 2) := by decide +kernel
theorem d_Mo_unpack_189 : decode M_Mo_unpack.2.1 189 = .ok (.iload_n 2, 1) := by decide +kernel
theorem d_Mo_unpack_190 : decode M_Mo_unpack.2.1 190 = .ok (.iadd, 1) := by decide +kernel
theorem d_Mo_unpack_191 : decode M_Mo_unpack.2.1 191 = .ok (.invokevirtual 96, 3) := by decide +kernel
theorem d_Mo_unpack_194 : decode M_Mo_unpack.2.1 194 = .ok (.aload_n 0, 1) := by decide +kernel
theorem d_Mo_unpack_195 : decode M_Mo_unpack.2.1 195 = .ok (.bipush 16, 2) := by decide +kernel
theorem d_Mo_unpack_197 : decode M_Mo_unpack.2.1 197 = .ok (.iload_n 2, 1) := by decide +kernel
theorem d_Mo_unpack_198 : decode M_Mo_unpack.2.1 198 = .ok (.iadd, 1) := by decide +kernel
theorem d_Mo_unpack_199 : decode M_Mo_unpack.2.1 199 = .ok (.invokevirtual 99, 3) := by decide +kernel
theorem d_Mo_unpack_202 : decode M_Mo_unpack.2.1 202 = .ok (.ifCond .ge 42, 3) := by decide +kernel
theorem d_Mo_unpack_205 : decode M_Mo_unpack.2.1 205 = .ok (.aload_n 0, 1) := by decide +kernel
theorem d_Mo_unpack_206 : decode M_Mo_unpack.2.1 206 = .ok (.getfield 93, 3) := by decide +kernel
theorem d_Mo_unpack_209 : decode M_Mo_unpack.2.1 209 = .ok (.bipush 16, 2) := by decide +kernel
theorem d_Mo_unpack_211 : decode M_Mo_unpack.2.1 211 = .ok (.if_icmp .ne 11, 3) := by decide +kernel
theorem d_Mo_unpack_214 : decode M_Mo_unpack.2.1 214 = .ok (.aload_n 0, 1) := by decide +kernel
theorem d_Mo_unpack_215 : decode M_Mo_unpack.2.1 215 = .ok (.iload_n 1, 1) := by decide +kernel
theorem d_Mo_unpack_216 : decode M_Mo_unpack.2.1 216 = .ok (.putfield 93, 3) := by decide +kernel
theorem d_Mo_unpack_219 : decode M_Mo_unpack.2.1 219 = .ok (.bipush (-2), 2) := by decide +kernel
theorem d_Mo_unpack_221 : decode M_Mo_unpack.2.1 221 = .ok (.ireturn, 1) := by decide +kernel
theorem d_Mo_unpack_222 : decode M_Mo_unpack.2.1 222 = .ok (.aload_n 0, 1) := by decide +kernel
theorem d_Mo_unpack_223 : decode M_Mo_unpack.2.1 223 = .ok (.bipush 16, 2) := by decide +kernel
theorem d_Mo_unpack_225 : decode M_Mo_unpack.2.1 225 = .ok (.iload_n 2, 1) := by decide +kernel
theorem d_Mo_unpack_226 : decode M_Mo_unpack.2.1 226 = .ok (.iadd, 1) := by decide +kernel
theorem d_Mo_unpack_227 : decode M_Mo_unpack.2.1 227 = .ok (.aload_n 0, 1) := by decide +kernel
theorem d_Mo_unpack_228 : decode M_Mo_unpack.2.1 228 = .ok (.getfield 93, 3) := by decide +kernel
theorem d_Mo_unpack_231 : decode M_Mo_unpack.2.1 231 = .ok (.invokevirtual 103, 3) := by decide +kernel
theorem d_Mo_unpack_234 : decode M_Mo_unpack.2.1 234 = .ok (.aload_n 0, 1) := by decide +kernel
theorem d_Mo_unpack_235 : decode M_Mo_unpack.2.1 235 = .ok (.dup, 1) := by decide +kernel
theorem d_Mo_unpack_236 : decode M_Mo_unpack.2.1 236 = .ok (.getfield 93, 3) := by decide +kernel
theorem d_Mo_unpack_239 : decode M_Mo_unpack.2.1 239 = .ok (.iconst 1, 1) := by decide +kernel
theorem d_Mo_unpack_240 : decode M_Mo_unpack.2.1 240 = .ok (.iadd, 1) := by decide +kernel
theorem d_Mo_unpack_241 : decode M_Mo_unpack.2.1 241 = .ok (.putfield 93, 3) := by decide +kernel
theorem d_Mo_unpack_244 : decode M_Mo_unpack.2.1 244 = .ok (.iinc 2 1, 3) := by decide +kernel
theorem d_Mo_unpack_247 : decode M_Mo_unpack.2.1 247 = .ok (.goto (-69), 3) := by decide +kernel
theorem d_Mo_unpack_250 : decode M_Mo_unpack.2.1 250 = .ok (.aload_n 0, 1) := by decide +kernel
theorem d_Mo_unpack_251 : decode M_Mo_unpack.2.1 251 = .ok (.getfield 93, 3) := by decide +kernel
theorem d_Mo_unpack_254 : decode M_Mo_unpack.2.1 254 = .ok (.iload_n 1, 1) := by decide +kernel
theorem d_Mo_unpack_255 : decode M_Mo_unpack.2.1 255 = .ok (.isub, 1) := by decide +kernel
theorem d_Mo_unpack_256 : decode M_Mo_unpack.2.1 256 = .ok (.ireturn, 1) := by decide +kernel
def f_Mo_unpack (x0 : Nat) (c : cM) (K : Int32 → cM → Prop) : Prop :=
  kd x0 = 7 ∧ (((¬ (c x0 17) = 0) → (f_Mo_begins x0 c (fun v4 c3 => ((¬ v4 = 0) → (f_Mo_isSealed x0 c3 (fun v7 c6 => ((¬ v7 = 0) → (kd (rf x0 18) = 100 ∧ (vp_in 8 (ln (rf x0 18)) ∧ (((¬ (c6 (rf x0 18) (Int32.toNatClampNeg 8)) = 0) → (K (-2) c6)) ∧ ((c6 (rf x0 18) (Int32.toNatClampNeg 8)) = 0 → (vp_in 9 (ln (rf x0 18)) ∧ (((¬ (c6 (rf x0 18) (Int32.toNatClampNeg 9)) = 0) → (K (-2) c6)) ∧ ((c6 (rf x0 18) (Int32.toNatClampNeg 9)) = 0 → (vp_in 10 (ln (rf x0 18)) ∧ (((¬ (c6 (rf x0 18) (Int32.toNatClampNeg 10)) = 0) → (K (-2) c6)) ∧ ((c6 (rf x0 18) (Int32.toNatClampNeg 10)) = 0 → (vp_in 11 (ln (rf x0 18)) ∧ ((((c6 (rf x0 18) (Int32.toNatClampNeg 11)) ≤ 16) → (∀ c18 : cM, c18 = c_up c6 x0 23 (c6 (rf x0 18) (Int32.toNatClampNeg 11)) → (∀ c19 : cM, c19 = c_up c18 x0 20 12 → (∀ c20 : cM, c20 = c_up c19 x0 21 ((c19 x0 17) - 20) → (∀ c21 : cM, c21 = c_up c20 x0 22 0 → (∃ I22 : Nat → Int32 → cM → Prop, (∃ n, I22 n 0 c21) ∧ ∀ (n23 : Nat) (y26 : Int32) (c27 : cM), I22 n23 y26 c27 → (∃ J31 : Prop, (J31  → (∃ J37 : cM → Prop, (∀ (c36 : cM), J37 c36 → ((((c36 x0 22) = 0) → (∃ I40 : Nat → Int32 → cM → Prop, (∃ n, I40 n 0 c36) ∧ ∀ (n41 : Nat) (y44 : Int32) (c45 : cM), I40 n41 y44 c45 → ((((c45 x0 23) ≤ y44) → (K ((c45 x0 0) - (c36 x0 0)) c45)) ∧ (¬ ((c45 x0 23) ≤ y44) → (f_Mo_call x0 (16 + y44) c45 (fun c47 => f_Mo_sameAs x0 (16 + y44) c47 (fun v49 c48 => ∃ J56 : cM → Prop, (∀ (c55 : cM), J56 c55 → (∃ m, m < n41 ∧ I40 m (y44 + 1) c55)) ∧ (((0 ≤ v49) → (J56 c48)) ∧ (¬ (0 ≤ v49) → (((¬ (c48 x0 0) = 16) → (f_Mo_copy x0 (16 + y44) (c48 x0 0) c48 (fun c59 => ∀ c60 : cM, c60 = c_up c59 x0 0 ((c59 x0 0) + 1) → (J56 c60)))) ∧ ((c48 x0 0) = 16 → (∀ c61 : cM, c61 = c_up c48 x0 0 (c36 x0 0) → (K (-2) c61))))))))))))) ∧ (¬ ((c36 x0 22) = 0) → (K (c36 x0 22) c36)))) ∧ (((¬ (c27 x0 22) = 0) → (J37 c27)) ∧ ((c27 x0 22) = 0 → ((((c27 x0 21) ≤ (c27 x0 20)) → (J37 c27)) ∧ (¬ ((c27 x0 21) ≤ (c27 x0 20)) → (∀ c63 : cM, c63 = c_up c27 x0 22 (-5) → (J37 c63)))))))) ∧ ((((c27 x0 23) ≤ y26) → (J31)) ∧ (¬ ((c27 x0 23) ≤ y26) → (((¬ (c27 x0 22) = 0) → (J31)) ∧ ((c27 x0 22) = 0 → (f_Mo_readThing x0 y26 c27 (fun c65 => ∃ m, m < n23 ∧ I22 m (y26 + 1) c65))))))))))))) ∧ (¬ ((c6 (rf x0 18) (Int32.toNatClampNeg 11)) ≤ 16) → (K (-2) c6))))))))))))))) ∧ (v7 = 0 → (K (-4) c6))))) ∧ (v4 = 0 → (K (-3) c3))))) ∧ ((c x0 17) = 0 → (K (-1) c)))
theorem c_Mo_unpack {x0 : Nat} {c : cM} {K : Int32 → cM → Prop} (h : f_Mo_unpack x0 c K) : Ct M_Mo_unpack 4 0 0 (wd c) [.ref x0] (PoI K) := by
  refine Ct.of (by decide +kernel) (Nat.le_of_ble_eq_true rfl) (fun Z T => ?_)
  have F := T.F
  unfold f_Mo_unpack at h
  show Z (wd c) 0 [(0, .ref x0)] [] 0 0
  refine g_aload_n F (pc := 0) d_Mo_unpack_0 0 rfl ?_
  obtain ⟨o1, h⟩ := h
  refine gc_getI F (pc := 1) d_Mo_unpack_1 fi_Mo_148 o1 ?_
  refine g_if_ne (tgt := 9) F (pc := 4) d_Mo_unpack_4 (by decide) (fun b2 => ?_) (fun b2 => ?_)
  · replace h := h.1 b2
    refine g_aload_n F (pc := 9) d_Mo_unpack_9 0 rfl ?_
    refine gc_callVI (As := []) (st := []) F (pc := 10) d_Mo_unpack_10 cb_Mo_199 iv_Mo_begins np_Mo_begins o1 vc_7 (c_Mo_begins h) rfl (by decide) (Nat.le_refl _) (Nat.le_refl _) (Nat.le_of_ble_eq_true rfl) (fun v4 c3 h => ?_)
    refine g_if_ne (tgt := 19) F (pc := 13) d_Mo_unpack_13 (by decide) (fun b5 => ?_) (fun b5 => ?_)
    · replace h := h.1 b5
      refine g_aload_n F (pc := 19) d_Mo_unpack_19 0 rfl ?_
      refine gc_callVI (As := []) (st := []) F (pc := 20) d_Mo_unpack_20 cb_Mo_203 iv_Mo_isSealed np_Mo_isSealed o1 vc_7 (c_Mo_isSealed h) rfl (by decide) (Nat.le_refl _) (Nat.le_refl _) (Nat.le_of_ble_eq_true rfl) (fun v7 c6 h => ?_)
      refine g_if_ne (tgt := 29) F (pc := 23) d_Mo_unpack_23 (by decide) (fun b8 => ?_) (fun b8 => ?_)
      · replace h := h.1 b8
        refine g_aload_n F (pc := 29) d_Mo_unpack_29 0 rfl (gc_getR F (pc := 30) d_Mo_unpack_30 fi_Mo_50 o1 (g_bipush (v := 8) F (pc := 33) d_Mo_unpack_33 (by decide) ?_))
        obtain ⟨o9, h⟩ := h
        obtain ⟨o10, h⟩ := h
        refine gc_iald F (pc := 35) d_Mo_unpack_35 o9 o10 ?_
        refine g_if_ne (tgt := 71) F (pc := 36) d_Mo_unpack_36 (by decide) (fun b11 => ?_) (fun b11 => ?_)
        · replace h := h.1 b11
          refine g_bipush (v := (-2)) F (pc := 71) d_Mo_unpack_71 (by decide) ?_
          exact g_iret T (pc := 73) d_Mo_unpack_73 rfl (Nat.le_refl _) (Nat.le_refl _) (poI h)
        · replace h := h.2 b11
          refine g_aload_n F (pc := 39) d_Mo_unpack_39 0 rfl (gc_getR F (pc := 40) d_Mo_unpack_40 fi_Mo_50 o1 (g_bipush (v := 9) F (pc := 43) d_Mo_unpack_43 (by decide) ?_))
          obtain ⟨o12, h⟩ := h
          refine gc_iald F (pc := 45) d_Mo_unpack_45 o9 o12 ?_
          refine g_if_ne (tgt := 71) F (pc := 46) d_Mo_unpack_46 (by decide) (fun b13 => ?_) (fun b13 => ?_)
          · replace h := h.1 b13
            refine g_bipush (v := (-2)) F (pc := 71) d_Mo_unpack_71 (by decide) ?_
            exact g_iret T (pc := 73) d_Mo_unpack_73 rfl (Nat.le_refl _) (Nat.le_refl _) (poI h)
          · replace h := h.2 b13
            refine g_aload_n F (pc := 49) d_Mo_unpack_49 0 rfl (gc_getR F (pc := 50) d_Mo_unpack_50 fi_Mo_50 o1 (g_bipush (v := 10) F (pc := 53) d_Mo_unpack_53 (by decide) ?_))
            obtain ⟨o14, h⟩ := h
            refine gc_iald F (pc := 55) d_Mo_unpack_55 o9 o14 ?_
            refine g_if_ne (tgt := 71) F (pc := 56) d_Mo_unpack_56 (by decide) (fun b15 => ?_) (fun b15 => ?_)
            · replace h := h.1 b15
              refine g_bipush (v := (-2)) F (pc := 71) d_Mo_unpack_71 (by decide) ?_
              exact g_iret T (pc := 73) d_Mo_unpack_73 rfl (Nat.le_refl _) (Nat.le_refl _) (poI h)
            · replace h := h.2 b15
              refine g_aload_n F (pc := 59) d_Mo_unpack_59 0 rfl (gc_getR F (pc := 60) d_Mo_unpack_60 fi_Mo_50 o1 (g_bipush (v := 11) F (pc := 63) d_Mo_unpack_63 (by decide) ?_))
              obtain ⟨o16, h⟩ := h
              refine gc_iald F (pc := 65) d_Mo_unpack_65 o9 o16 (g_bipush (v := 16) F (pc := 66) d_Mo_unpack_66 (by decide) ?_)
              refine g_icmp_le (tgt := 74) F (pc := 68) d_Mo_unpack_68 (by decide) (fun b17 => ?_) (fun b17 => ?_)
              · replace h := h.1 b17
                refine g_aload_n F (pc := 74) d_Mo_unpack_74 0 rfl (g_aload_n F (pc := 75) d_Mo_unpack_75 0 rfl (gc_getR F (pc := 76) d_Mo_unpack_76 fi_Mo_50 o1 (g_bipush (v := 11) F (pc := 79) d_Mo_unpack_79 (by decide) (gc_iald F (pc := 81) d_Mo_unpack_81 o9 o16 (gc_putI F (pc := 82) d_Mo_unpack_82 pi_Mo_206 o1 ?_)))))
                obtain ⟨c18, ec18⟩ : ∃ c18 : cM, c18 = c_up c6 x0 23 (c6 (rf x0 18) (Int32.toNatClampNeg 11)) := ⟨_, rfl⟩
                rw [← ec18]
                replace h := h c18 ec18
                refine g_aload_n F (pc := 85) d_Mo_unpack_85 0 rfl (g_bipush (v := 12) F (pc := 86) d_Mo_unpack_86 (by decide) (gc_putI F (pc := 88) d_Mo_unpack_88 pi_Mo_177 o1 ?_))
                obtain ⟨c19, ec19⟩ : ∃ c19 : cM, c19 = c_up c18 x0 20 12 := ⟨_, rfl⟩
                rw [← ec19]
                replace h := h c19 ec19
                refine g_aload_n F (pc := 91) d_Mo_unpack_91 0 rfl (g_aload_n F (pc := 92) d_Mo_unpack_92 0 rfl (gc_getI F (pc := 93) d_Mo_unpack_93 fi_Mo_148 o1 (g_bipush (v := 20) F (pc := 96) d_Mo_unpack_96 (by decide) (g_isub F (pc := 98) d_Mo_unpack_98 (gc_putI F (pc := 99) d_Mo_unpack_99 pi_Mo_180 o1 ?_)))))
                obtain ⟨c20, ec20⟩ : ∃ c20 : cM, c20 = c_up c19 x0 21 ((c19 x0 17) - 20) := ⟨_, rfl⟩
                rw [← ec20]
                replace h := h c20 ec20
                refine g_aload_n F (pc := 102) d_Mo_unpack_102 0 rfl (g_iconst (v := 0) F (pc := 103) d_Mo_unpack_103 (by decide) (gc_putI F (pc := 104) d_Mo_unpack_104 pi_Mo_174 o1 ?_))
                obtain ⟨c21, ec21⟩ : ∃ c21 : cM, c21 = c_up c20 x0 22 0 := ⟨_, rfl⟩
                rw [← ec21]
                replace h := h c21 ec21
                refine g_iconst (v := 0) F (pc := 107) d_Mo_unpack_107 (by decide) (g_istore_n (lv' := [(1, .int 0), (0, .ref x0)]) F (pc := 108) d_Mo_unpack_108 (by decide) rfl ?_)
                refine g_lv (lv' := [(0, .ref x0), (1, .int 0)]) F [1, 0] rfl ?_
                obtain ⟨I22, ⟨n0, h⟩, hI22⟩ := h
                have lp25 : ∀ (n23 : Nat) (y26 : Int32) (c27 : cM), I22 n23 y26 c27 → Z (wd c27) 109 [(0, .ref x0), (1, .int y26)] [] 0 0 := by
                  intro n23
                  induction n23 using Nat.strongRecOn with
                  | _ n23 ih24 =>
                    intro y26 c27 h
                    replace h := hI22 n23 y26 c27 h
                    refine g_iload_n F (pc := 109) d_Mo_unpack_109 1 rfl (g_aload_n F (pc := 110) d_Mo_unpack_110 0 rfl (gc_getI F (pc := 111) d_Mo_unpack_111 fi_Mo_206 o1 ?_))
                    obtain ⟨J31, hJ31, h⟩ := h
                    have jn32 : J31  → Z (wd c27) 135 [(0, .ref x0)] [] 0 0 := by
                      intro  h
                      replace h := hJ31  h
                      refine g_aload_n F (pc := 135) d_Mo_unpack_135 0 rfl (gc_getI F (pc := 136) d_Mo_unpack_136 fi_Mo_174 o1 ?_)
                      obtain ⟨J37, hJ37, h⟩ := h
                      have jn38 : ∀ (c36 : cM), J37 c36 → Z (wd c36) 159 [(0, .ref x0)] [] 0 0 := by
                        intro c36 h
                        replace h := hJ37 c36 h
                        refine g_aload_n F (pc := 159) d_Mo_unpack_159 0 rfl (gc_getI F (pc := 160) d_Mo_unpack_160 fi_Mo_174 o1 ?_)
                        refine g_if_eq (tgt := 171) F (pc := 163) d_Mo_unpack_163 (by decide) (fun b39 => ?_) (fun b39 => ?_)
                        · replace h := h.1 b39
                          refine g_aload_n F (pc := 171) d_Mo_unpack_171 0 rfl (gc_getI F (pc := 172) d_Mo_unpack_172 fi_Mo_93 o1 (g_istore_n (lv' := [(1, .int (c36 x0 0)), (0, .ref x0)]) F (pc := 175) d_Mo_unpack_175 (by decide) rfl (g_iconst (v := 0) F (pc := 176) d_Mo_unpack_176 (by decide) (g_istore_n (lv' := [(2, .int 0), (1, .int (c36 x0 0)), (0, .ref x0)]) F (pc := 177) d_Mo_unpack_177 (by decide) rfl ?_))))
                          refine g_lv (lv' := [(0, .ref x0), (1, .int (c36 x0 0)), (2, .int 0)]) F [2, 1, 0] rfl ?_
                          obtain ⟨I40, ⟨n0, h⟩, hI40⟩ := h
                          have lp43 : ∀ (n41 : Nat) (y44 : Int32) (c45 : cM), I40 n41 y44 c45 → Z (wd c45) 178 [(0, .ref x0), (1, .int (c36 x0 0)), (2, .int y44)] [] 0 0 := by
                            intro n41
                            induction n41 using Nat.strongRecOn with
                            | _ n41 ih42 =>
                              intro y44 c45 h
                              replace h := hI40 n41 y44 c45 h
                              refine g_iload_n F (pc := 178) d_Mo_unpack_178 2 rfl (g_aload_n F (pc := 179) d_Mo_unpack_179 0 rfl (gc_getI F (pc := 180) d_Mo_unpack_180 fi_Mo_206 o1 ?_))
                              refine g_icmp_ge (tgt := 250) F (pc := 183) d_Mo_unpack_183 (by decide) (fun b46 => ?_) (fun b46 => ?_)
                              · replace h := h.1 b46
                                refine g_aload_n F (pc := 250) d_Mo_unpack_250 0 rfl (gc_getI F (pc := 251) d_Mo_unpack_251 fi_Mo_93 o1 (g_iload_n F (pc := 254) d_Mo_unpack_254 1 rfl (g_isub F (pc := 255) d_Mo_unpack_255 ?_)))
                                exact g_iret T (pc := 256) d_Mo_unpack_256 rfl (Nat.le_refl _) (Nat.le_refl _) (poI h)
                              · replace h := h.2 b46
                                refine g_aload_n F (pc := 186) d_Mo_unpack_186 0 rfl (g_bipush (v := 16) F (pc := 187) d_Mo_unpack_187 (by decide) (g_iload_n F (pc := 189) d_Mo_unpack_189 2 rfl (g_iadd F (pc := 190) d_Mo_unpack_190 ?_)))
                                refine gc_callVV (As := [.int (16 + y44)]) (st := []) F (pc := 191) d_Mo_unpack_191 cb_Mo_96 iv_Mo_call np_Mo_call o1 vc_7 (c_Mo_call h) rfl (by decide) (Nat.le_refl _) (Nat.le_refl _) (Nat.le_of_ble_eq_true rfl) (fun c47 h => ?_)
                                refine g_aload_n F (pc := 194) d_Mo_unpack_194 0 rfl (g_bipush (v := 16) F (pc := 195) d_Mo_unpack_195 (by decide) (g_iload_n F (pc := 197) d_Mo_unpack_197 2 rfl (g_iadd F (pc := 198) d_Mo_unpack_198 ?_)))
                                refine gc_callVI (As := [.int (16 + y44)]) (st := []) F (pc := 199) d_Mo_unpack_199 cb_Mo_99 iv_Mo_sameAs np_Mo_sameAs o1 vc_7 (c_Mo_sameAs h) rfl (by decide) (Nat.le_refl _) (Nat.le_refl _) (Nat.le_of_ble_eq_true rfl) (fun v49 c48 h => ?_)
                                obtain ⟨J56, hJ56, h⟩ := h
                                have jn57 : ∀ (c55 : cM), J56 c55 → Z (wd c55) 244 [(0, .ref x0), (1, .int (c36 x0 0)), (2, .int y44)] [] 0 0 := by
                                  intro c55 h
                                  replace h := hJ56 c55 h
                                  refine g_iinc (v := (y44 + 1)) (lv' := [(2, .int (y44 + 1)), (0, .ref x0), (1, .int (c36 x0 0))]) F (pc := 244) d_Mo_unpack_244 2 rfl (sk_inc (by decide)) (by decide) rfl (g_goto (tgt := 178) F (pc := 247) d_Mo_unpack_247 (by decide) ?_)
                                  refine g_lv (lv' := [(0, .ref x0), (1, .int (c36 x0 0)), (2, .int (y44 + 1))]) F [1, 2, 0] rfl ?_
                                  obtain ⟨m, hm, h⟩ := h
                                  exact ih42 m hm _ _ h
                                refine g_if_ge (tgt := 244) F (pc := 202) d_Mo_unpack_202 (by decide) (fun b50 => ?_) (fun b50 => ?_)
                                · replace h := h.1 b50
                                  exact jn57 _ h
                                · replace h := h.2 b50
                                  refine g_aload_n F (pc := 205) d_Mo_unpack_205 0 rfl (gc_getI F (pc := 206) d_Mo_unpack_206 fi_Mo_93 o1 (g_bipush (v := 16) F (pc := 209) d_Mo_unpack_209 (by decide) ?_))
                                  refine g_icmp_ne (tgt := 222) F (pc := 211) d_Mo_unpack_211 (by decide) (fun b58 => ?_) (fun b58 => ?_)
                                  · replace h := h.1 b58
                                    refine g_aload_n F (pc := 222) d_Mo_unpack_222 0 rfl (g_bipush (v := 16) F (pc := 223) d_Mo_unpack_223 (by decide) (g_iload_n F (pc := 225) d_Mo_unpack_225 2 rfl (g_iadd F (pc := 226) d_Mo_unpack_226 (g_aload_n F (pc := 227) d_Mo_unpack_227 0 rfl (gc_getI F (pc := 228) d_Mo_unpack_228 fi_Mo_93 o1 ?_)))))
                                    refine gc_callVV (As := [.int (16 + y44), .int (c48 x0 0)]) (st := []) F (pc := 231) d_Mo_unpack_231 cb_Mo_103 iv_Mo_copy np_Mo_copy o1 vc_7 (c_Mo_copy h) rfl (by decide) (Nat.le_refl _) (Nat.le_refl _) (Nat.le_of_ble_eq_true rfl) (fun c59 h => ?_)
                                    refine g_aload_n F (pc := 234) d_Mo_unpack_234 0 rfl (g_dup F (pc := 235) d_Mo_unpack_235 rfl (gc_getI F (pc := 236) d_Mo_unpack_236 fi_Mo_93 o1 (g_iconst (v := 1) F (pc := 239) d_Mo_unpack_239 (by decide) (g_iadd F (pc := 240) d_Mo_unpack_240 (gc_putI F (pc := 241) d_Mo_unpack_241 pi_Mo_93 o1 ?_)))))
                                    obtain ⟨c60, ec60⟩ : ∃ c60 : cM, c60 = c_up c59 x0 0 ((c59 x0 0) + 1) := ⟨_, rfl⟩
                                    rw [← ec60]
                                    replace h := h c60 ec60
                                    exact jn57 _ h
                                  · replace h := h.2 b58
                                    refine g_aload_n F (pc := 214) d_Mo_unpack_214 0 rfl (g_iload_n F (pc := 215) d_Mo_unpack_215 1 rfl (gc_putI F (pc := 216) d_Mo_unpack_216 pi_Mo_93 o1 ?_))
                                    obtain ⟨c61, ec61⟩ : ∃ c61 : cM, c61 = c_up c48 x0 0 (c36 x0 0) := ⟨_, rfl⟩
                                    rw [← ec61]
                                    replace h := h c61 ec61
                                    refine g_bipush (v := (-2)) F (pc := 219) d_Mo_unpack_219 (by decide) ?_
                                    exact g_iret T (pc := 221) d_Mo_unpack_221 rfl (Nat.le_refl _) (Nat.le_refl _) (poI h)
                          exact lp43 n0 _ _ h
                        · replace h := h.2 b39
                          refine g_aload_n F (pc := 166) d_Mo_unpack_166 0 rfl (gc_getI F (pc := 167) d_Mo_unpack_167 fi_Mo_174 o1 ?_)
                          exact g_iret T (pc := 170) d_Mo_unpack_170 rfl (Nat.le_refl _) (Nat.le_refl _) (poI h)
                      refine g_if_ne (tgt := 159) F (pc := 139) d_Mo_unpack_139 (by decide) (fun b33 => ?_) (fun b33 => ?_)
                      · replace h := h.1 b33
                        exact jn38 _ h
                      · replace h := h.2 b33
                        refine g_aload_n F (pc := 142) d_Mo_unpack_142 0 rfl (gc_getI F (pc := 143) d_Mo_unpack_143 fi_Mo_177 o1 (g_aload_n F (pc := 146) d_Mo_unpack_146 0 rfl (gc_getI F (pc := 147) d_Mo_unpack_147 fi_Mo_180 o1 ?_)))
                        refine g_icmp_ge (tgt := 159) F (pc := 150) d_Mo_unpack_150 (by decide) (fun b62 => ?_) (fun b62 => ?_)
                        · replace h := h.1 b62
                          exact jn38 _ h
                        · replace h := h.2 b62
                          refine g_aload_n F (pc := 153) d_Mo_unpack_153 0 rfl (g_bipush (v := (-5)) F (pc := 154) d_Mo_unpack_154 (by decide) (gc_putI F (pc := 156) d_Mo_unpack_156 pi_Mo_174 o1 ?_))
                          obtain ⟨c63, ec63⟩ : ∃ c63 : cM, c63 = c_up c27 x0 22 (-5) := ⟨_, rfl⟩
                          rw [← ec63]
                          replace h := h c63 ec63
                          exact jn38 _ h
                    refine g_icmp_ge (tgt := 135) F (pc := 114) d_Mo_unpack_114 (by decide) (fun b28 => ?_) (fun b28 => ?_)
                    · replace h := h.1 b28
                      refine g_lv (lv' := [(0, .ref x0)]) F [0] rfl ?_
                      exact jn32  h
                    · replace h := h.2 b28
                      refine g_aload_n F (pc := 117) d_Mo_unpack_117 0 rfl (gc_getI F (pc := 118) d_Mo_unpack_118 fi_Mo_174 o1 ?_)
                      refine g_if_ne (tgt := 135) F (pc := 121) d_Mo_unpack_121 (by decide) (fun b64 => ?_) (fun b64 => ?_)
                      · replace h := h.1 b64
                        refine g_lv (lv' := [(0, .ref x0)]) F [0] rfl ?_
                        exact jn32  h
                      · replace h := h.2 b64
                        refine g_aload_n F (pc := 124) d_Mo_unpack_124 0 rfl (g_iload_n F (pc := 125) d_Mo_unpack_125 1 rfl ?_)
                        refine gc_callVV (As := [.int y26]) (st := []) F (pc := 126) d_Mo_unpack_126 cb_Mo_209 iv_Mo_readThing np_Mo_readThing o1 vc_7 (c_Mo_readThing h) rfl (by decide) (Nat.le_refl _) (Nat.le_refl _) (Nat.le_of_ble_eq_true rfl) (fun c65 h => ?_)
                        refine g_iinc (v := (y26 + 1)) (lv' := [(1, .int (y26 + 1)), (0, .ref x0)]) F (pc := 129) d_Mo_unpack_129 1 rfl (sk_inc (by decide)) (by decide) rfl (g_goto (tgt := 109) F (pc := 132) d_Mo_unpack_132 (by decide) ?_)
                        refine g_lv (lv' := [(0, .ref x0), (1, .int (y26 + 1))]) F [1, 0] rfl ?_
                        obtain ⟨m, hm, h⟩ := h
                        exact ih24 m hm _ _ h
                exact lp25 n0 _ _ h
              · replace h := h.2 b17
                refine g_bipush (v := (-2)) F (pc := 71) d_Mo_unpack_71 (by decide) ?_
                exact g_iret T (pc := 73) d_Mo_unpack_73 rfl (Nat.le_refl _) (Nat.le_refl _) (poI h)
      · replace h := h.2 b8
        refine g_bipush (v := (-4)) F (pc := 26) d_Mo_unpack_26 (by decide) ?_
        exact g_iret T (pc := 28) d_Mo_unpack_28 rfl (Nat.le_refl _) (Nat.le_refl _) (poI h)
    · replace h := h.2 b5
      refine g_bipush (v := (-3)) F (pc := 16) d_Mo_unpack_16 (by decide) ?_
      exact g_iret T (pc := 18) d_Mo_unpack_18 rfl (Nat.le_refl _) (Nat.le_refl _) (poI h)
  · replace h := h.2 b2
    refine g_iconst (v := (-1)) F (pc := 7) d_Mo_unpack_7 (by decide) ?_
    exact g_iret T (pc := 8) d_Mo_unpack_8 rfl (Nat.le_refl _) (Nat.le_refl _) (poI h)
