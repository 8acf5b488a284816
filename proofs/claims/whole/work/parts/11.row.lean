theorem d_Row_intAt_0 : decode M_Row_intAt.2.1 0 = .ok (.iload_n 1, 1) := by decide +kernel
theorem d_Row_intAt_1 : decode M_Row_intAt.2.1 1 = .ok (.ifCond .lt 13, 3) := by decide +kernel
theorem d_Row_intAt_4 : decode M_Row_intAt.2.1 4 = .ok (.iload_n 1, 1) := by decide +kernel
theorem d_Row_intAt_5 : decode M_Row_intAt.2.1 5 = .ok (.iconst 4, 1) := by decide +kernel
theorem d_Row_intAt_6 : decode M_Row_intAt.2.1 6 = .ok (.iadd, 1) := by decide +kernel
theorem d_Row_intAt_7 : decode M_Row_intAt.2.1 7 = .ok (.aload_n 0, 1) := by decide +kernel
theorem d_Row_intAt_8 : decode M_Row_intAt.2.1 8 = .ok (.getfield 15, 3) := by decide +kernel
theorem d_Row_intAt_11 : decode M_Row_intAt.2.1 11 = .ok (.if_icmp .le 5, 3) := by decide +kernel
theorem d_Row_intAt_14 : decode M_Row_intAt.2.1 14 = .ok (.iconst 0, 1) := by decide +kernel
theorem d_Row_intAt_15 : decode M_Row_intAt.2.1 15 = .ok (.ireturn, 1) := by decide +kernel
theorem d_Row_intAt_16 : decode M_Row_intAt.2.1 16 = .ok (.aload_n 0, 1) := by decide +kernel
theorem d_Row_intAt_17 : decode M_Row_intAt.2.1 17 = .ok (.getfield 9, 3) := by decide +kernel
theorem d_Row_intAt_20 : decode M_Row_intAt.2.1 20 = .ok (.iload_n 1, 1) := by decide +kernel
theorem d_Row_intAt_21 : decode M_Row_intAt.2.1 21 = .ok (.iaload, 1) := by decide +kernel
theorem d_Row_intAt_22 : decode M_Row_intAt.2.1 22 = .ok (.bipush 24, 2) := by decide +kernel
theorem d_Row_intAt_24 : decode M_Row_intAt.2.1 24 = .ok (.ishl, 1) := by decide +kernel
theorem d_Row_intAt_25 : decode M_Row_intAt.2.1 25 = .ok (.aload_n 0, 1) := by decide +kernel
theorem d_Row_intAt_26 : decode M_Row_intAt.2.1 26 = .ok (.getfield 9, 3) := by decide +kernel
theorem d_Row_intAt_29 : decode M_Row_intAt.2.1 29 = .ok (.iload_n 1, 1) := by decide +kernel
theorem d_Row_intAt_30 : decode M_Row_intAt.2.1 30 = .ok (.iconst 1, 1) := by decide +kernel
theorem d_Row_intAt_31 : decode M_Row_intAt.2.1 31 = .ok (.iadd, 1) := by decide +kernel
theorem d_Row_intAt_32 : decode M_Row_intAt.2.1 32 = .ok (.iaload, 1) := by decide +kernel
theorem d_Row_intAt_33 : decode M_Row_intAt.2.1 33 = .ok (.bipush 16, 2) := by decide +kernel
theorem d_Row_intAt_35 : decode M_Row_intAt.2.1 35 = .ok (.ishl, 1) := by decide +kernel
theorem d_Row_intAt_36 : decode M_Row_intAt.2.1 36 = .ok (.ior, 1) := by decide +kernel
theorem d_Row_intAt_37 : decode M_Row_intAt.2.1 37 = .ok (.aload_n 0, 1) := by decide +kernel
theorem d_Row_intAt_38 : decode M_Row_intAt.2.1 38 = .ok (.getfield 9, 3) := by decide +kernel
theorem d_Row_intAt_41 : decode M_Row_intAt.2.1 41 = .ok (.iload_n 1, 1) := by decide +kernel
theorem d_Row_intAt_42 : decode M_Row_intAt.2.1 42 = .ok (.iconst 2, 1) := by decide +kernel
theorem d_Row_intAt_43 : decode M_Row_intAt.2.1 43 = .ok (.iadd, 1) := by decide +kernel
theorem d_Row_intAt_44 : decode M_Row_intAt.2.1 44 = .ok (.iaload, 1) := by decide +kernel
theorem d_Row_intAt_45 : decode M_Row_intAt.2.1 45 = .ok (.bipush 8, 2) := by decide +kernel
theorem d_Row_intAt_47 : decode M_Row_intAt.2.1 47 = .ok (.ishl, 1) := by decide +kernel
theorem d_Row_intAt_48 : decode M_Row_intAt.2.1 48 = .ok (.ior, 1) := by decide +kernel
theorem d_Row_intAt_49 : decode M_Row_intAt.2.1 49 = .ok (.aload_n 0, 1) := by decide +kernel
theorem d_Row_intAt_50 : decode M_Row_intAt.2.1 50 = .ok (.getfield 9, 3) := by decide +kernel
theorem d_Row_intAt_53 : decode M_Row_intAt.2.1 53 = .ok (.iload_n 1, 1) := by decide +kernel
theorem d_Row_intAt_54 : decode M_Row_intAt.2.1 54 = .ok (.iconst 3, 1) := by decide +kernel
theorem d_Row_intAt_55 : decode M_Row_intAt.2.1 55 = .ok (.iadd, 1) := by decide +kernel
theorem d_Row_intAt_56 : decode M_Row_intAt.2.1 56 = .ok (.iaload, 1) := by decide +kernel
theorem d_Row_intAt_57 : decode M_Row_intAt.2.1 57 = .ok (.ior, 1) := by decide +kernel
theorem d_Row_intAt_58 : decode M_Row_intAt.2.1 58 = .ok (.ireturn, 1) := by decide +kernel
def f_Row_intAt (x0 : Nat) (x1 : Int32) (c : cM) (K : Int32 → cM → Prop) : Prop :=
  ((x1 < 0) → (K 0 c)) ∧ (¬ (x1 < 0) → (kd x0 = 1 ∧ ((((x1 + 4) ≤ (c x0 1)) → (kd (rf x0 0) = 100 ∧ (vp_in x1 (ln (rf x0 0)) ∧ (vp_in (x1 + 1) (ln (rf x0 0)) ∧ (vp_in (x1 + 2) (ln (rf x0 0)) ∧ (vp_in (x1 + 3) (ln (rf x0 0)) ∧ (K ((((c_shl (c (rf x0 0) (Int32.toNatClampNeg x1)) 24) ||| (c_shl (c (rf x0 0) (Int32.toNatClampNeg (x1 + 1))) 16)) ||| (c_shl (c (rf x0 0) (Int32.toNatClampNeg (x1 + 2))) 8)) ||| (c (rf x0 0) (Int32.toNatClampNeg (x1 + 3)))) c))))))) ∧ (¬ ((x1 + 4) ≤ (c x0 1)) → (K 0 c)))))
theorem c_Row_intAt {x0 : Nat} {x1 : Int32} {c : cM} {K : Int32 → cM → Prop} (h : f_Row_intAt x0 x1 c K) : Ct M_Row_intAt 0 0 0 (wd c) [.ref x0, .int x1] (PoI K) := by
  refine Ct.of (by decide +kernel) (Nat.le_of_ble_eq_true rfl) (fun Z T => ?_)
  have F := T.F
  unfold f_Row_intAt at h
  show Z (wd c) 0 [(0, .ref x0), (1, .int x1)] [] 0 0
  refine g_iload_n F (pc := 0) d_Row_intAt_0 1 rfl ?_
  refine g_if_lt (tgt := 14) F (pc := 1) d_Row_intAt_1 (by decide) (fun b1 => ?_) (fun b1 => ?_)
  · replace h := h.1 b1
    refine g_iconst (v := 0) F (pc := 14) d_Row_intAt_14 (by decide) ?_
    exact g_iret T (pc := 15) d_Row_intAt_15 rfl (Nat.le_refl _) (Nat.le_refl _) (poI h)
  · replace h := h.2 b1
    refine g_iload_n F (pc := 4) d_Row_intAt_4 1 rfl (g_iconst (v := 4) F (pc := 5) d_Row_intAt_5 (by decide) (g_iadd F (pc := 6) d_Row_intAt_6 (g_aload_n F (pc := 7) d_Row_intAt_7 0 rfl ?_)))
    obtain ⟨o2, h⟩ := h
    refine gc_getI F (pc := 8) d_Row_intAt_8 fi_Row_15 o2 ?_
    refine g_icmp_le (tgt := 16) F (pc := 11) d_Row_intAt_11 (by decide) (fun b3 => ?_) (fun b3 => ?_)
    · replace h := h.1 b3
      refine g_aload_n F (pc := 16) d_Row_intAt_16 0 rfl (gc_getR F (pc := 17) d_Row_intAt_17 fi_Row_9 o2 (g_iload_n F (pc := 20) d_Row_intAt_20 1 rfl ?_))
      obtain ⟨o4, h⟩ := h
      obtain ⟨o5, h⟩ := h
      refine gc_iald F (pc := 21) d_Row_intAt_21 o4 o5 (g_bipush (v := 24) F (pc := 22) d_Row_intAt_22 (by decide) (g_ishl F (pc := 24) d_Row_intAt_24 (g_aload_n F (pc := 25) d_Row_intAt_25 0 rfl (gc_getR F (pc := 26) d_Row_intAt_26 fi_Row_9 o2 (g_iload_n F (pc := 29) d_Row_intAt_29 1 rfl ?_)))))
      refine g_iconst (v := 1) F (pc := 30) d_Row_intAt_30 (by decide) (g_iadd F (pc := 31) d_Row_intAt_31 ?_)
      obtain ⟨o6, h⟩ := h
      refine gc_iald F (pc := 32) d_Row_intAt_32 o4 o6 (g_bipush (v := 16) F (pc := 33) d_Row_intAt_33 (by decide) (g_ishl F (pc := 35) d_Row_intAt_35 (g_ior F (pc := 36) d_Row_intAt_36 (g_aload_n F (pc := 37) d_Row_intAt_37 0 rfl (gc_getR F (pc := 38) d_Row_intAt_38 fi_Row_9 o2 ?_)))))
      refine g_iload_n F (pc := 41) d_Row_intAt_41 1 rfl (g_iconst (v := 2) F (pc := 42) d_Row_intAt_42 (by decide) (g_iadd F (pc := 43) d_Row_intAt_43 ?_))
      obtain ⟨o7, h⟩ := h
      refine gc_iald F (pc := 44) d_Row_intAt_44 o4 o7 (g_bipush (v := 8) F (pc := 45) d_Row_intAt_45 (by decide) (g_ishl F (pc := 47) d_Row_intAt_47 (g_ior F (pc := 48) d_Row_intAt_48 (g_aload_n F (pc := 49) d_Row_intAt_49 0 rfl (gc_getR F (pc := 50) d_Row_intAt_50 fi_Row_9 o2 ?_)))))
      refine g_iload_n F (pc := 53) d_Row_intAt_53 1 rfl (g_iconst (v := 3) F (pc := 54) d_Row_intAt_54 (by decide) (g_iadd F (pc := 55) d_Row_intAt_55 ?_))
      obtain ⟨o8, h⟩ := h
      refine gc_iald F (pc := 56) d_Row_intAt_56 o4 o8 (g_ior F (pc := 57) d_Row_intAt_57 ?_)
      exact g_iret T (pc := 58) d_Row_intAt_58 rfl (Nat.le_refl _) (Nat.le_refl _) (poI h)
    · replace h := h.2 b3
      refine g_iconst (v := 0) F (pc := 14) d_Row_intAt_14 (by decide) ?_
      exact g_iret T (pc := 15) d_Row_intAt_15 rfl (Nat.le_refl _) (Nat.le_refl _) (poI h)
theorem d_Row_put_0 : decode M_Row_put.2.1 0 = .ok (.aload_n 0, 1) := by decide +kernel
theorem d_Row_put_1 : decode M_Row_put.2.1 1 = .ok (.getfield 15, 3) := by decide +kernel
theorem d_Row_put_4 : decode M_Row_put.2.1 4 = .ok (.aload_n 0, 1) := by decide +kernel
theorem d_Row_put_5 : decode M_Row_put.2.1 5 = .ok (.getfield 9, 3) := by decide +kernel
theorem d_Row_put_8 : decode M_Row_put.2.1 8 = .ok (.arraylength, 1) := by decide +kernel
theorem d_Row_put_9 : decode M_Row_put.2.1 9 = .ok (.if_icmp .ge 23, 3) := by decide +kernel
theorem d_Row_put_12 : decode M_Row_put.2.1 12 = .ok (.aload_n 0, 1) := by decide +kernel
theorem d_Row_put_13 : decode M_Row_put.2.1 13 = .ok (.getfield 9, 3) := by decide +kernel
theorem d_Row_put_16 : decode M_Row_put.2.1 16 = .ok (.aload_n 0, 1) := by decide +kernel
theorem d_Row_put_17 : decode M_Row_put.2.1 17 = .ok (.getfield 15, 3) := by decide +kernel
theorem d_Row_put_20 : decode M_Row_put.2.1 20 = .ok (.iload_n 1, 1) := by decide +kernel
theorem d_Row_put_21 : decode M_Row_put.2.1 21 = .ok (.iastore, 1) := by decide +kernel
theorem d_Row_put_22 : decode M_Row_put.2.1 22 = .ok (.aload_n 0, 1) := by decide +kernel
theorem d_Row_put_23 : decode M_Row_put.2.1 23 = .ok (.dup, 1) := by decide +kernel
theorem d_Row_put_24 : decode M_Row_put.2.1 24 = .ok (.getfield 15, 3) := by decide +kernel
theorem d_Row_put_27 : decode M_Row_put.2.1 27 = .ok (.iconst 1, 1) := by decide +kernel
theorem d_Row_put_28 : decode M_Row_put.2.1 28 = .ok (.iadd, 1) := by decide +kernel
theorem d_Row_put_29 : decode M_Row_put.2.1 29 = .ok (.putfield 15, 3) := by decide +kernel
theorem d_Row_put_32 : decode M_Row_put.2.1 32 = .ok (.return_, 1) := by decide +kernel
def f_Row_put (x0 : Nat) (x1 : Int32) (c : cM) (K : cM → Prop) : Prop :=
  kd x0 = 1 ∧ (kd (rf x0 0) = 100 ∧ ((((nI (ln (rf x0 0))) ≤ (c x0 1)) → (K c)) ∧ (¬ ((nI (ln (rf x0 0))) ≤ (c x0 1)) → (vp_in (c x0 1) (ln (rf x0 0)) ∧ (∀ c5 : cM, c5 = c_up c (rf x0 0) (Int32.toNatClampNeg (c x0 1)) x1 → (∀ c6 : cM, c6 = c_up c5 x0 1 ((c5 x0 1) + 1) → (K c6)))))))
theorem c_Row_put {x0 : Nat} {x1 : Int32} {c : cM} {K : cM → Prop} (h : f_Row_put x0 x1 c K) : Ct M_Row_put 0 0 0 (wd c) [.ref x0, .int x1] (PoV K) := by
  refine Ct.of (by decide +kernel) (Nat.le_of_ble_eq_true rfl) (fun Z T => ?_)
  have F := T.F
  unfold f_Row_put at h
  show Z (wd c) 0 [(0, .ref x0), (1, .int x1)] [] 0 0
  refine g_aload_n F (pc := 0) d_Row_put_0 0 rfl ?_
  obtain ⟨o1, h⟩ := h
  refine gc_getI F (pc := 1) d_Row_put_1 fi_Row_15 o1 (g_aload_n F (pc := 4) d_Row_put_4 0 rfl (gc_getR F (pc := 5) d_Row_put_5 fi_Row_9 o1 ?_))
  obtain ⟨o2, h⟩ := h
  refine gc_alen0 F (pc := 8) d_Row_put_8 o2 ?_
  refine g_icmp_ge (tgt := 32) F (pc := 9) d_Row_put_9 (by decide) (fun b3 => ?_) (fun b3 => ?_)
  · replace h := h.1 b3
    exact g_vret T (pc := 32) d_Row_put_32 rfl (Nat.le_refl _) (Nat.le_refl _) (poV h)
  · replace h := h.2 b3
    refine g_aload_n F (pc := 12) d_Row_put_12 0 rfl (gc_getR F (pc := 13) d_Row_put_13 fi_Row_9 o1 (g_aload_n F (pc := 16) d_Row_put_16 0 rfl (gc_getI F (pc := 17) d_Row_put_17 fi_Row_15 o1 (g_iload_n F (pc := 20) d_Row_put_20 1 rfl ?_))))
    obtain ⟨o4, h⟩ := h
    refine gc_iast F (pc := 21) d_Row_put_21 o2 o4 ?_
    obtain ⟨c5, ec5⟩ : ∃ c5 : cM, c5 = c_up c (rf x0 0) (Int32.toNatClampNeg (c x0 1)) x1 := ⟨_, rfl⟩
    rw [← ec5]
    replace h := h c5 ec5
    refine g_aload_n F (pc := 22) d_Row_put_22 0 rfl (g_dup F (pc := 23) d_Row_put_23 rfl (gc_getI F (pc := 24) d_Row_put_24 fi_Row_15 o1 (g_iconst (v := 1) F (pc := 27) d_Row_put_27 (by decide) (g_iadd F (pc := 28) d_Row_put_28 (gc_putI F (pc := 29) d_Row_put_29 pi_Row_15 o1 ?_)))))
    obtain ⟨c6, ec6⟩ : ∃ c6 : cM, c6 = c_up c5 x0 1 ((c5 x0 1) + 1) := ⟨_, rfl⟩
    rw [← ec6]
    replace h := h c6 ec6
    exact g_vret T (pc := 32) d_Row_put_32 rfl (Nat.le_refl _) (Nat.le_refl _) (poV h)
theorem d_Row_putText_0 : decode M_Row_putText.2.1 0 = .ok (.iconst 0, 1) := by decide +kernel
theorem d_Row_putText_1 : decode M_Row_putText.2.1 1 = .ok (.istore_n 2, 1) := by decide +kernel
theorem d_Row_putText_2 : decode M_Row_putText.2.1 2 = .ok (.iload_n 2, 1) := by decide +kernel
theorem d_Row_putText_3 : decode M_Row_putText.2.1 3 = .ok (.aload_n 1, 1) := by decide +kernel
theorem d_Row_putText_4 : decode M_Row_putText.2.1 4 = .ok (.invokevirtual 19, 3) := by decide +kernel
theorem d_Row_putText_7 : decode M_Row_putText.2.1 7 = .ok (.if_icmp .ge 18, 3) := by decide +kernel
theorem d_Row_putText_10 : decode M_Row_putText.2.1 10 = .ok (.aload_n 0, 1) := by decide +kernel
theorem d_Row_putText_11 : decode M_Row_putText.2.1 11 = .ok (.aload_n 1, 1) := by decide +kernel
theorem d_Row_putText_12 : decode M_Row_putText.2.1 12 = .ok (.iload_n 2, 1) := by decide +kernel
theorem d_Row_putText_13 : decode M_Row_putText.2.1 13 = .ok (.invokevirtual 24, 3) := by decide +kernel
theorem d_Row_putText_16 : decode M_Row_putText.2.1 16 = .ok (.invokevirtual 28, 3) := by decide +kernel
theorem d_Row_putText_19 : decode M_Row_putText.2.1 19 = .ok (.iinc 2 1, 3) := by decide +kernel
theorem d_Row_putText_22 : decode M_Row_putText.2.1 22 = .ok (.goto (-20), 3) := by decide +kernel
theorem d_Row_putText_25 : decode M_Row_putText.2.1 25 = .ok (.return_, 1) := by decide +kernel
def f_Row_putText (x0 : Nat) (x1 : Nat) (c : cM) (K : cM → Prop) : Prop :=
  ∃ I1 : Nat → Int32 → cM → Prop, (∃ n, I1 n 0 c) ∧ ∀ (n2 : Nat) (y5 : Int32) (c6 : cM), I1 n2 y5 c6 → (kd x1 = 200 ∧ (f_JStr_length x1 c6 (fun v9 c8 => ((v9 ≤ y5) → (K c8)) ∧ (¬ (v9 ≤ y5) → (f_JStr_charAt x1 y5 c8 (fun v12 c11 => kd x0 = 1 ∧ (f_Row_put x0 v12 c11 (fun c14 => ∃ m, m < n2 ∧ I1 m (y5 + 1) c14))))))))
theorem c_Row_putText {x0 : Nat} {x1 : Nat} {c : cM} {K : cM → Prop} (h : f_Row_putText x0 x1 c K) : Ct M_Row_putText 4 0 0 (wd c) [.ref x0, .ref x1] (PoV K) := by
  refine Ct.of (by decide +kernel) (Nat.le_of_ble_eq_true rfl) (fun Z T => ?_)
  have F := T.F
  unfold f_Row_putText at h
  show Z (wd c) 0 [(0, .ref x0), (1, .ref x1)] [] 0 0
  refine g_iconst (v := 0) F (pc := 0) d_Row_putText_0 (by decide) (g_istore_n (lv' := [(2, .int 0), (0, .ref x0), (1, .ref x1)]) F (pc := 1) d_Row_putText_1 (by decide) rfl ?_)
  refine g_lv (lv' := [(0, .ref x0), (1, .ref x1), (2, .int 0)]) F [1, 2, 0] rfl ?_
  obtain ⟨I1, ⟨n0, h⟩, hI1⟩ := h
  have lp4 : ∀ (n2 : Nat) (y5 : Int32) (c6 : cM), I1 n2 y5 c6 → Z (wd c6) 2 [(0, .ref x0), (1, .ref x1), (2, .int y5)] [] 0 0 := by
    intro n2
    induction n2 using Nat.strongRecOn with
    | _ n2 ih3 =>
      intro y5 c6 h
      replace h := hI1 n2 y5 c6 h
      refine g_iload_n F (pc := 2) d_Row_putText_2 2 rfl (g_aload_n F (pc := 3) d_Row_putText_3 1 rfl ?_)
      obtain ⟨o7, h⟩ := h
      refine go_callVI (As := []) (st := [.int y5]) F (pc := 4) d_Row_putText_4 cb_Row_19 iv_JStr_length np_JStr_length o7 rfl (c_JStr_length h) rfl (by decide) (Nat.le_refl _) (Nat.le_refl _) (Nat.le_of_ble_eq_true rfl) (fun v9 c8 h => ?_)
      refine g_icmp_ge (tgt := 25) F (pc := 7) d_Row_putText_7 (by decide) (fun b10 => ?_) (fun b10 => ?_)
      · replace h := h.1 b10
        exact g_vret T (pc := 25) d_Row_putText_25 rfl (Nat.le_refl _) (Nat.le_refl _) (poV h)
      · replace h := h.2 b10
        refine g_aload_n F (pc := 10) d_Row_putText_10 0 rfl (g_aload_n F (pc := 11) d_Row_putText_11 1 rfl (g_iload_n F (pc := 12) d_Row_putText_12 2 rfl ?_))
        refine go_callVI (As := [.int y5]) (st := [.ref x0]) F (pc := 13) d_Row_putText_13 cb_Row_24 iv_JStr_charAt np_JStr_charAt o7 rfl (c_JStr_charAt h) rfl (by decide) (Nat.le_refl _) (Nat.le_refl _) (Nat.le_of_ble_eq_true rfl) (fun v12 c11 h => ?_)
        obtain ⟨o13, h⟩ := h
        refine gc_callVV (As := [.int v12]) (st := []) F (pc := 16) d_Row_putText_16 cb_Row_28 iv_Row_put np_Row_put o13 vc_1 (c_Row_put h) rfl (by decide) (Nat.le_refl _) (Nat.le_refl _) (Nat.le_of_ble_eq_true rfl) (fun c14 h => ?_)
        refine g_iinc (v := (y5 + 1)) (lv' := [(2, .int (y5 + 1)), (0, .ref x0), (1, .ref x1)]) F (pc := 19) d_Row_putText_19 2 rfl (sk_inc (by decide)) (by decide) rfl (g_goto (tgt := 2) F (pc := 22) d_Row_putText_22 (by decide) ?_)
        refine g_lv (lv' := [(0, .ref x0), (1, .ref x1), (2, .int (y5 + 1))]) F [1, 2, 0] rfl ?_
        obtain ⟨m, hm, h⟩ := h
        exact ih3 m hm _ _ h
  exact lp4 n0 _ _ h
theorem d_Row_putPart_0 : decode M_Row_putPart.2.1 0 = .ok (.iload_n 2, 1) := by decide +kernel
theorem d_Row_putPart_1 : decode M_Row_putPart.2.1 1 = .ok (.ifCond .lt 31, 3) := by decide +kernel
theorem d_Row_putPart_4 : decode M_Row_putPart.2.1 4 = .ok (.iload_n 3, 1) := by decide +kernel
theorem d_Row_putPart_5 : decode M_Row_putPart.2.1 5 = .ok (.ifCond .lt 27, 3) := by decide +kernel
theorem d_Row_putPart_8 : decode M_Row_putPart.2.1 8 = .ok (.iload_n 2, 1) := by decide +kernel
theorem d_Row_putPart_9 : decode M_Row_putPart.2.1 9 = .ok (.iload_n 3, 1) := by decide +kernel
theorem d_Row_putPart_10 : decode M_Row_putPart.2.1 10 = .ok (.iadd, 1) := by decide +kernel
theorem d_Row_putPart_11 : decode M_Row_putPart.2.1 11 = .ok (.aload_n 1, 1) := by decide +kernel
theorem d_Row_putPart_12 : decode M_Row_putPart.2.1 12 = .ok (.getfield 15, 3) := by decide +kernel
theorem d_Row_putPart_15 : decode M_Row_putPart.2.1 15 = .ok (.if_icmp .gt 17, 3) := by decide +kernel
theorem d_Row_putPart_18 : decode M_Row_putPart.2.1 18 = .ok (.aload_n 0, 1) := by decide +kernel
theorem d_Row_putPart_19 : decode M_Row_putPart.2.1 19 = .ok (.getfield 15, 3) := by decide +kernel
theorem d_Row_putPart_22 : decode M_Row_putPart.2.1 22 = .ok (.iload_n 3, 1) := by decide +kernel
theorem d_Row_putPart_23 : decode M_Row_putPart.2.1 23 = .ok (.iadd, 1) := by decide +kernel
theorem d_Row_putPart_24 : decode M_Row_putPart.2.1 24 = .ok (.aload_n 0, 1) := by decide +kernel
theorem d_Row_putPart_25 : decode M_Row_putPart.2.1 25 = .ok (.getfield 9, 3) := by decide +kernel
theorem d_Row_putPart_28 : decode M_Row_putPart.2.1 28 = .ok (.arraylength, 1) := by decide +kernel
theorem d_Row_putPart_29 : decode M_Row_putPart.2.1 29 = .ok (.if_icmp .le 5, 3) := by decide +kernel
theorem d_Row_putPart_32 : decode M_Row_putPart.2.1 32 = .ok (.iconst 0, 1) := by decide +kernel
theorem d_Row_putPart_33 : decode M_Row_putPart.2.1 33 = .ok (.ireturn, 1) := by decide +kernel
theorem d_Row_putPart_34 : decode M_Row_putPart.2.1 34 = .ok (.aload_n 1, 1) := by decide +kernel
theorem d_Row_putPart_35 : decode M_Row_putPart.2.1 35 = .ok (.getfield 9, 3) := by decide +kernel
theorem d_Row_putPart_38 : decode M_Row_putPart.2.1 38 = .ok (.iload_n 2, 1) := by decide +kernel
theorem d_Row_putPart_39 : decode M_Row_putPart.2.1 39 = .ok (.aload_n 0, 1) := by decide +kernel
theorem d_Row_putPart_40 : decode M_Row_putPart.2.1 40 = .ok (.getfield 9, 3) := by decide +kernel
theorem d_Row_putPart_43 : decode M_Row_putPart.2.1 43 = .ok (.aload_n 0, 1) := by decide +kernel
theorem d_Row_putPart_44 : decode M_Row_putPart.2.1 44 = .ok (.getfield 15, 3) := by decide +kernel
theorem d_Row_putPart_47 : decode M_Row_putPart.2.1 47 = .ok (.iload_n 3, 1) := by decide +kernel
theorem d_Row_putPart_48 : decode M_Row_putPart.2.1 48 = .ok (.invokestatic 37, 3) := by decide +kernel
theorem d_Row_putPart_51 : decode M_Row_putPart.2.1 51 = .ok (.aload_n 0, 1) := by decide +kernel
theorem d_Row_putPart_52 : decode M_Row_putPart.2.1 52 = .ok (.dup, 1) := by decide +kernel
theorem d_Row_putPart_53 : decode M_Row_putPart.2.1 53 = .ok (.getfield 15, 3) := by decide +kernel
theorem d_Row_putPart_56 : decode M_Row_putPart.2.1 56 = .ok (.iload_n 3, 1) := by decide +kernel
theorem d_Row_putPart_57 : decode M_Row_putPart.2.1 57 = .ok (.iadd, 1) := by decide +kernel
theorem d_Row_putPart_58 : decode M_Row_putPart.2.1 58 = .ok (.putfield 15, 3) := by decide +kernel
theorem d_Row_putPart_61 : decode M_Row_putPart.2.1 61 = .ok (.iconst 1, 1) := by decide +kernel
theorem d_Row_putPart_62 : decode M_Row_putPart.2.1 62 = .ok (.ireturn, 1) := by decide +kernel
def f_Row_putPart (x0 : Nat) (x1 : Nat) (x2 : Int32) (x3 : Int32) (c : cM) (K : Int32 → cM → Prop) : Prop :=
  ((x2 < 0) → (K 0 c)) ∧ (¬ (x2 < 0) → (((x3 < 0) → (K 0 c)) ∧ (¬ (x3 < 0) → (kd x1 = 1 ∧ ((((c x1 1) < (x2 + x3)) → (K 0 c)) ∧ (¬ ((c x1 1) < (x2 + x3)) → (kd x0 = 1 ∧ (kd (rf x0 0) = 100 ∧ (((((c x0 1) + x3) ≤ (nI (ln (rf x0 0)))) → (¬ x2 < 0 ∧ (¬ (c x0 1) < 0 ∧ (¬ x3 < 0 ∧ ((Int32.toNatClampNeg x2) + (Int32.toNatClampNeg x3) ≤ ln (rf x1 0) ∧ ((Int32.toNatClampNeg (c x0 1)) + (Int32.toNatClampNeg x3) ≤ ln (rf x0 0) ∧ (kd (rf x1 0) = 100 ∧ (∀ c14 : cM, c14 = c_row c (rf x0 0) (c_cp (c (rf x1 0)) (c (rf x0 0)) (Int32.toNatClampNeg x2) (Int32.toNatClampNeg (c x0 1)) (Int32.toNatClampNeg x3)) → (∀ c15 : cM, c15 = c_up c14 x0 1 ((c14 x0 1) + x3) → (K 1 c15)))))))))) ∧ (¬ (((c x0 1) + x3) ≤ (nI (ln (rf x0 0)))) → (K 0 c)))))))))))
theorem c_Row_putPart {x0 : Nat} {x1 : Nat} {x2 : Int32} {x3 : Int32} {c : cM} {K : Int32 → cM → Prop} (h : f_Row_putPart x0 x1 x2 x3 c K) : Ct M_Row_putPart 1 0 0 (wd c) [.ref x0, .ref x1, .int x2, .int x3] (PoI K) := by
  refine Ct.of (by decide +kernel) (Nat.le_of_ble_eq_true rfl) (fun Z T => ?_)
  have F := T.F
  unfold f_Row_putPart at h
  show Z (wd c) 0 [(0, .ref x0), (1, .ref x1), (2, .int x2), (3, .int x3)] [] 0 0
  refine g_iload_n F (pc := 0) d_Row_putPart_0 2 rfl ?_
  refine g_if_lt (tgt := 32) F (pc := 1) d_Row_putPart_1 (by decide) (fun b1 => ?_) (fun b1 => ?_)
  · replace h := h.1 b1
    refine g_iconst (v := 0) F (pc := 32) d_Row_putPart_32 (by decide) ?_
    exact g_zret T (pc := 33) d_Row_putPart_33 rfl (by decide) (Nat.le_refl _) (Nat.le_refl _) (poI h)
  · replace h := h.2 b1
    refine g_iload_n F (pc := 4) d_Row_putPart_4 3 rfl ?_
    refine g_if_lt (tgt := 32) F (pc := 5) d_Row_putPart_5 (by decide) (fun b2 => ?_) (fun b2 => ?_)
    · replace h := h.1 b2
      refine g_iconst (v := 0) F (pc := 32) d_Row_putPart_32 (by decide) ?_
      exact g_zret T (pc := 33) d_Row_putPart_33 rfl (by decide) (Nat.le_refl _) (Nat.le_refl _) (poI h)
    · replace h := h.2 b2
      refine g_iload_n F (pc := 8) d_Row_putPart_8 2 rfl (g_iload_n F (pc := 9) d_Row_putPart_9 3 rfl (g_iadd F (pc := 10) d_Row_putPart_10 (g_aload_n F (pc := 11) d_Row_putPart_11 1 rfl ?_)))
      obtain ⟨o3, h⟩ := h
      refine gc_getI F (pc := 12) d_Row_putPart_12 fi_Row_15 o3 ?_
      refine g_icmp_gt (tgt := 32) F (pc := 15) d_Row_putPart_15 (by decide) (fun b4 => ?_) (fun b4 => ?_)
      · replace h := h.1 b4
        refine g_iconst (v := 0) F (pc := 32) d_Row_putPart_32 (by decide) ?_
        exact g_zret T (pc := 33) d_Row_putPart_33 rfl (by decide) (Nat.le_refl _) (Nat.le_refl _) (poI h)
      · replace h := h.2 b4
        refine g_aload_n F (pc := 18) d_Row_putPart_18 0 rfl ?_
        obtain ⟨o5, h⟩ := h
        refine gc_getI F (pc := 19) d_Row_putPart_19 fi_Row_15 o5 (g_iload_n F (pc := 22) d_Row_putPart_22 3 rfl (g_iadd F (pc := 23) d_Row_putPart_23 (g_aload_n F (pc := 24) d_Row_putPart_24 0 rfl (gc_getR F (pc := 25) d_Row_putPart_25 fi_Row_9 o5 ?_))))
        obtain ⟨o6, h⟩ := h
        refine gc_alen0 F (pc := 28) d_Row_putPart_28 o6 ?_
        refine g_icmp_le (tgt := 34) F (pc := 29) d_Row_putPart_29 (by decide) (fun b7 => ?_) (fun b7 => ?_)
        · replace h := h.1 b7
          refine g_aload_n F (pc := 34) d_Row_putPart_34 1 rfl (gc_getR F (pc := 35) d_Row_putPart_35 fi_Row_9 o3 (g_iload_n F (pc := 38) d_Row_putPart_38 2 rfl (g_aload_n F (pc := 39) d_Row_putPart_39 0 rfl (gc_getR F (pc := 40) d_Row_putPart_40 fi_Row_9 o5 (g_aload_n F (pc := 43) d_Row_putPart_43 0 rfl ?_)))))
          refine gc_getI F (pc := 44) d_Row_putPart_44 fi_Row_15 o5 (g_iload_n F (pc := 47) d_Row_putPart_47 3 rfl ?_)
          obtain ⟨o8, h⟩ := h
          obtain ⟨o9, h⟩ := h
          obtain ⟨o10, h⟩ := h
          obtain ⟨o11, h⟩ := h
          obtain ⟨o12, h⟩ := h
          obtain ⟨o13, h⟩ := h
          refine gc_copy F (pc := 48) d_Row_putPart_48 ml_Row_37 ac_2 ac_3 ac_4 o13 o6 o8 o9 o10 o11 o12 (by decide) (Nat.le_of_ble_eq_true rfl) ?_
          obtain ⟨c14, ec14⟩ : ∃ c14 : cM, c14 = c_row c (rf x0 0) (c_cp (c (rf x1 0)) (c (rf x0 0)) (Int32.toNatClampNeg x2) (Int32.toNatClampNeg (c x0 1)) (Int32.toNatClampNeg x3)) := ⟨_, rfl⟩
          rw [← ec14]
          replace h := h c14 ec14
          refine g_aload_n F (pc := 51) d_Row_putPart_51 0 rfl (g_dup F (pc := 52) d_Row_putPart_52 rfl (gc_getI F (pc := 53) d_Row_putPart_53 fi_Row_15 o5 (g_iload_n F (pc := 56) d_Row_putPart_56 3 rfl (g_iadd F (pc := 57) d_Row_putPart_57 (gc_putI F (pc := 58) d_Row_putPart_58 pi_Row_15 o5 ?_)))))
          obtain ⟨c15, ec15⟩ : ∃ c15 : cM, c15 = c_up c14 x0 1 ((c14 x0 1) + x3) := ⟨_, rfl⟩
          rw [← ec15]
          replace h := h c15 ec15
          refine g_iconst (v := 1) F (pc := 61) d_Row_putPart_61 (by decide) ?_
          exact g_zret T (pc := 62) d_Row_putPart_62 rfl (by decide) (Nat.le_refl _) (Nat.le_refl _) (poI h)
        · replace h := h.2 b7
          refine g_iconst (v := 0) F (pc := 32) d_Row_putPart_32 (by decide) ?_
          exact g_zret T (pc := 33) d_Row_putPart_33 rfl (by decide) (Nat.le_refl _) (Nat.le_refl _) (poI h)
theorem d_Row_putHighFirst_0 : decode M_Row_putHighFirst.2.1 0 = .ok (.iload_n 2, 1) := by decide +kernel
theorem d_Row_putHighFirst_1 : decode M_Row_putHighFirst.2.1 1 = .ok (.iconst 1, 1) := by decide +kernel
theorem d_Row_putHighFirst_2 : decode M_Row_putHighFirst.2.1 2 = .ok (.isub, 1) := by decide +kernel
theorem d_Row_putHighFirst_3 : decode M_Row_putHighFirst.2.1 3 = .ok (.istore_n 3, 1) := by decide +kernel
theorem d_Row_putHighFirst_4 : decode M_Row_putHighFirst.2.1 4 = .ok (.iload_n 3, 1) := by decide +kernel
theorem d_Row_putHighFirst_5 : decode M_Row_putHighFirst.2.1 5 = .ok (.ifCond .lt 23, 3) := by decide +kernel
theorem d_Row_putHighFirst_8 : decode M_Row_putHighFirst.2.1 8 = .ok (.aload_n 0, 1) := by decide +kernel
theorem d_Row_putHighFirst_9 : decode M_Row_putHighFirst.2.1 9 = .ok (.iload_n 1, 1) := by decide +kernel
theorem d_Row_putHighFirst_10 : decode M_Row_putHighFirst.2.1 10 = .ok (.bipush 8, 2) := by decide +kernel
theorem d_Row_putHighFirst_12 : decode M_Row_putHighFirst.2.1 12 = .ok (.iload_n 3, 1) := by decide +kernel
theorem d_Row_putHighFirst_13 : decode M_Row_putHighFirst.2.1 13 = .ok (.imul, 1) := by decide +kernel
theorem d_Row_putHighFirst_14 : decode M_Row_putHighFirst.2.1 14 = .ok (.iushr, 1) := by decide +kernel
theorem d_Row_putHighFirst_15 : decode M_Row_putHighFirst.2.1 15 = .ok (.sipush 255, 3) := by decide +kernel
theorem d_Row_putHighFirst_18 : decode M_Row_putHighFirst.2.1 18 = .ok (.iand, 1) := by decide +kernel
theorem d_Row_putHighFirst_19 : decode M_Row_putHighFirst.2.1 19 = .ok (.invokevirtual 28, 3) := by decide +kernel
theorem d_Row_putHighFirst_22 : decode M_Row_putHighFirst.2.1 22 = .ok (.iinc 3 (-1), 3) := by decide +kernel
theorem d_Row_putHighFirst_25 : decode M_Row_putHighFirst.2.1 25 = .ok (.goto (-21), 3) := by decide +kernel
theorem d_Row_putHighFirst_28 : decode M_Row_putHighFirst.2.1 28 = .ok (.return_, 1) := by decide +kernel
def f_Row_putHighFirst (x0 : Nat) (x1 : Int32) (x2 : Int32) (c : cM) (K : cM → Prop) : Prop :=
  ∃ I1 : Nat → Int32 → cM → Prop, (∃ n, I1 n (x2 - 1) c) ∧ ∀ (n2 : Nat) (y5 : Int32) (c6 : cM), I1 n2 y5 c6 → (((y5 < 0) → (K c6)) ∧ (¬ (y5 < 0) → (kd x0 = 1 ∧ (f_Row_put x0 ((c_ushr x1 (8 * y5)) &&& 255) c6 (fun c9 => ∃ m, m < n2 ∧ I1 m (y5 + (-1)) c9)))))
theorem c_Row_putHighFirst {x0 : Nat} {x1 : Int32} {x2 : Int32} {c : cM} {K : cM → Prop} (h : f_Row_putHighFirst x0 x1 x2 c K) : Ct M_Row_putHighFirst 1 0 0 (wd c) [.ref x0, .int x1, .int x2] (PoV K) := by
  refine Ct.of (by decide +kernel) (Nat.le_of_ble_eq_true rfl) (fun Z T => ?_)
  have F := T.F
  unfold f_Row_putHighFirst at h
  show Z (wd c) 0 [(0, .ref x0), (1, .int x1), (2, .int x2)] [] 0 0
  refine g_iload_n F (pc := 0) d_Row_putHighFirst_0 2 rfl (g_iconst (v := 1) F (pc := 1) d_Row_putHighFirst_1 (by decide) (g_isub F (pc := 2) d_Row_putHighFirst_2 (g_istore_n (lv' := [(3, .int (x2 - 1)), (0, .ref x0), (1, .int x1), (2, .int x2)]) F (pc := 3) d_Row_putHighFirst_3 (by decide) rfl ?_)))
  refine g_lv (lv' := [(0, .ref x0), (1, .int x1), (3, .int (x2 - 1))]) F [1, 2, 0] rfl ?_
  obtain ⟨I1, ⟨n0, h⟩, hI1⟩ := h
  have lp4 : ∀ (n2 : Nat) (y5 : Int32) (c6 : cM), I1 n2 y5 c6 → Z (wd c6) 4 [(0, .ref x0), (1, .int x1), (3, .int y5)] [] 0 0 := by
    intro n2
    induction n2 using Nat.strongRecOn with
    | _ n2 ih3 =>
      intro y5 c6 h
      replace h := hI1 n2 y5 c6 h
      refine g_iload_n F (pc := 4) d_Row_putHighFirst_4 2 rfl ?_
      refine g_if_lt (tgt := 28) F (pc := 5) d_Row_putHighFirst_5 (by decide) (fun b7 => ?_) (fun b7 => ?_)
      · replace h := h.1 b7
        exact g_vret T (pc := 28) d_Row_putHighFirst_28 rfl (Nat.le_refl _) (Nat.le_refl _) (poV h)
      · replace h := h.2 b7
        refine g_aload_n F (pc := 8) d_Row_putHighFirst_8 0 rfl (g_iload_n F (pc := 9) d_Row_putHighFirst_9 1 rfl (g_bipush (v := 8) F (pc := 10) d_Row_putHighFirst_10 (by decide) (g_iload_n F (pc := 12) d_Row_putHighFirst_12 2 rfl (g_imul F (pc := 13) d_Row_putHighFirst_13 (g_iushr F (pc := 14) d_Row_putHighFirst_14 ?_)))))
        refine g_sipush (v := 255) F (pc := 15) d_Row_putHighFirst_15 (by decide) (g_iand F (pc := 18) d_Row_putHighFirst_18 ?_)
        obtain ⟨o8, h⟩ := h
        refine gc_callVV (As := [.int ((c_ushr x1 (8 * y5)) &&& 255)]) (st := []) F (pc := 19) d_Row_putHighFirst_19 cb_Row_28 iv_Row_put np_Row_put o8 vc_1 (c_Row_put h) rfl (by decide) (Nat.le_refl _) (Nat.le_refl _) (Nat.le_of_ble_eq_true rfl) (fun c9 h => ?_)
        refine g_iinc (v := (y5 + (-1))) (lv' := [(3, .int (y5 + (-1))), (0, .ref x0), (1, .int x1)]) F (pc := 22) d_Row_putHighFirst_22 2 rfl (sk_inc (by decide)) (by decide) rfl (g_goto (tgt := 4) F (pc := 25) d_Row_putHighFirst_25 (by decide) ?_)
        refine g_lv (lv' := [(0, .ref x0), (1, .int x1), (3, .int (y5 + (-1)))]) F [1, 2, 0] rfl ?_
        obtain ⟨m, hm, h⟩ := h
        exact ih3 m hm _ _ h
  exact lp4 n0 _ _ h
theorem d_Row_putInts_0 : decode M_Row_putInts.2.1 0 = .ok (.iconst 0, 1) := by decide +kernel
theorem d_Row_putInts_1 : decode M_Row_putInts.2.1 1 = .ok (.istore_n 2, 1) := by decide +kernel
theorem d_Row_putInts_2 : decode M_Row_putInts.2.1 2 = .ok (.iload_n 2, 1) := by decide +kernel
theorem d_Row_putInts_3 : decode M_Row_putInts.2.1 3 = .ok (.aload_n 1, 1) := by decide +kernel
theorem d_Row_putInts_4 : decode M_Row_putInts.2.1 4 = .ok (.arraylength, 1) := by decide +kernel
theorem d_Row_putInts_5 : decode M_Row_putInts.2.1 5 = .ok (.if_icmp .ge 17, 3) := by decide +kernel
theorem d_Row_putInts_8 : decode M_Row_putInts.2.1 8 = .ok (.aload_n 0, 1) := by decide +kernel
theorem d_Row_putInts_9 : decode M_Row_putInts.2.1 9 = .ok (.aload_n 1, 1) := by decide +kernel
theorem d_Row_putInts_10 : decode M_Row_putInts.2.1 10 = .ok (.iload_n 2, 1) := by decide +kernel
theorem d_Row_putInts_11 : decode M_Row_putInts.2.1 11 = .ok (.iaload, 1) := by decide +kernel
theorem d_Row_putInts_12 : decode M_Row_putInts.2.1 12 = .ok (.iconst 4, 1) := by decide +kernel
theorem d_Row_putInts_13 : decode M_Row_putInts.2.1 13 = .ok (.invokevirtual 33, 3) := by decide +kernel
theorem d_Row_putInts_16 : decode M_Row_putInts.2.1 16 = .ok (.iinc 2 1, 3) := by decide +kernel
theorem d_Row_putInts_19 : decode M_Row_putInts.2.1 19 = .ok (.goto (-17), 3) := by decide +kernel
theorem d_Row_putInts_22 : decode M_Row_putInts.2.1 22 = .ok (.return_, 1) := by decide +kernel
def f_Row_putInts (x0 : Nat) (x1 : Nat) (c : cM) (K : cM → Prop) : Prop :=
  ∃ I1 : Nat → Int32 → cM → Prop, (∃ n, I1 n 0 c) ∧ ∀ (n2 : Nat) (y5 : Int32) (c6 : cM), I1 n2 y5 c6 → (kd x1 = 100 ∧ ((((nI (ln x1)) ≤ y5) → (K c6)) ∧ (¬ ((nI (ln x1)) ≤ y5) → (vp_in y5 (ln x1) ∧ (kd x0 = 1 ∧ (f_Row_putHighFirst x0 (c6 x1 (Int32.toNatClampNeg y5)) 4 c6 (fun c11 => ∃ m, m < n2 ∧ I1 m (y5 + 1) c11)))))))
theorem c_Row_putInts {x0 : Nat} {x1 : Nat} {c : cM} {K : cM → Prop} (h : f_Row_putInts x0 x1 c K) : Ct M_Row_putInts 2 0 0 (wd c) [.ref x0, .ref x1] (PoV K) := by
  refine Ct.of (by decide +kernel) (Nat.le_of_ble_eq_true rfl) (fun Z T => ?_)
  have F := T.F
  unfold f_Row_putInts at h
  show Z (wd c) 0 [(0, .ref x0), (1, .ref x1)] [] 0 0
  refine g_iconst (v := 0) F (pc := 0) d_Row_putInts_0 (by decide) (g_istore_n (lv' := [(2, .int 0), (0, .ref x0), (1, .ref x1)]) F (pc := 1) d_Row_putInts_1 (by decide) rfl ?_)
  refine g_lv (lv' := [(0, .ref x0), (1, .ref x1), (2, .int 0)]) F [1, 2, 0] rfl ?_
  obtain ⟨I1, ⟨n0, h⟩, hI1⟩ := h
  have lp4 : ∀ (n2 : Nat) (y5 : Int32) (c6 : cM), I1 n2 y5 c6 → Z (wd c6) 2 [(0, .ref x0), (1, .ref x1), (2, .int y5)] [] 0 0 := by
    intro n2
    induction n2 using Nat.strongRecOn with
    | _ n2 ih3 =>
      intro y5 c6 h
      replace h := hI1 n2 y5 c6 h
      refine g_iload_n F (pc := 2) d_Row_putInts_2 2 rfl (g_aload_n F (pc := 3) d_Row_putInts_3 1 rfl ?_)
      obtain ⟨o7, h⟩ := h
      refine gc_alen0 F (pc := 4) d_Row_putInts_4 o7 ?_
      refine g_icmp_ge (tgt := 22) F (pc := 5) d_Row_putInts_5 (by decide) (fun b8 => ?_) (fun b8 => ?_)
      · replace h := h.1 b8
        exact g_vret T (pc := 22) d_Row_putInts_22 rfl (Nat.le_refl _) (Nat.le_refl _) (poV h)
      · replace h := h.2 b8
        refine g_aload_n F (pc := 8) d_Row_putInts_8 0 rfl (g_aload_n F (pc := 9) d_Row_putInts_9 1 rfl (g_iload_n F (pc := 10) d_Row_putInts_10 2 rfl ?_))
        obtain ⟨o9, h⟩ := h
        refine gc_iald F (pc := 11) d_Row_putInts_11 o7 o9 (g_iconst (v := 4) F (pc := 12) d_Row_putInts_12 (by decide) ?_)
        obtain ⟨o10, h⟩ := h
        refine gc_callVV (As := [.int (c6 x1 (Int32.toNatClampNeg y5)), .int 4]) (st := []) F (pc := 13) d_Row_putInts_13 cb_Row_33 iv_Row_putHighFirst np_Row_putHighFirst o10 vc_1 (c_Row_putHighFirst h) rfl (by decide) (Nat.le_refl _) (Nat.le_refl _) (Nat.le_of_ble_eq_true rfl) (fun c11 h => ?_)
        refine g_iinc (v := (y5 + 1)) (lv' := [(2, .int (y5 + 1)), (0, .ref x0), (1, .ref x1)]) F (pc := 16) d_Row_putInts_16 2 rfl (sk_inc (by decide)) (by decide) rfl (g_goto (tgt := 2) F (pc := 19) d_Row_putInts_19 (by decide) ?_)
        refine g_lv (lv' := [(0, .ref x0), (1, .ref x1), (2, .int (y5 + 1))]) F [1, 2, 0] rfl ?_
        obtain ⟨m, hm, h⟩ := h
        exact ih3 m hm _ _ h
  exact lp4 n0 _ _ h
theorem d_Row_clear_0 : decode M_Row_clear.2.1 0 = .ok (.aload_n 0, 1) := by decide +kernel
theorem d_Row_clear_1 : decode M_Row_clear.2.1 1 = .ok (.iconst 0, 1) := by decide +kernel
theorem d_Row_clear_2 : decode M_Row_clear.2.1 2 = .ok (.putfield 15, 3) := by decide +kernel
theorem d_Row_clear_5 : decode M_Row_clear.2.1 5 = .ok (.return_, 1) := by decide +kernel
def f_Row_clear (x0 : Nat) (c : cM) (K : cM → Prop) : Prop :=
  kd x0 = 1 ∧ (∀ c2 : cM, c2 = c_up c x0 1 0 → (K c2))
theorem c_Row_clear {x0 : Nat} {c : cM} {K : cM → Prop} (h : f_Row_clear x0 c K) : Ct M_Row_clear 0 0 0 (wd c) [.ref x0] (PoV K) := by
  refine Ct.of (by decide +kernel) (Nat.le_of_ble_eq_true rfl) (fun Z T => ?_)
  have F := T.F
  unfold f_Row_clear at h
  show Z (wd c) 0 [(0, .ref x0)] [] 0 0
  refine g_aload_n F (pc := 0) d_Row_clear_0 0 rfl (g_iconst (v := 0) F (pc := 1) d_Row_clear_1 (by decide) ?_)
  obtain ⟨o1, h⟩ := h
  refine gc_putI F (pc := 2) d_Row_clear_2 pi_Row_15 o1 ?_
  obtain ⟨c2, ec2⟩ : ∃ c2 : cM, c2 = c_up c x0 1 0 := ⟨_, rfl⟩
  rw [← ec2]
  replace h := h c2 ec2
  exact g_vret T (pc := 5) d_Row_clear_5 rfl (Nat.le_refl _) (Nat.le_refl _) (poV h)
theorem d_Row_at_0 : decode M_Row_at.2.1 0 = .ok (.iload_n 1, 1) := by decide +kernel
theorem d_Row_at_1 : decode M_Row_at.2.1 1 = .ok (.ifCond .lt 20, 3) := by decide +kernel
theorem d_Row_at_4 : decode M_Row_at.2.1 4 = .ok (.iload_n 1, 1) := by decide +kernel
theorem d_Row_at_5 : decode M_Row_at.2.1 5 = .ok (.aload_n 0, 1) := by decide +kernel
theorem d_Row_at_6 : decode M_Row_at.2.1 6 = .ok (.getfield 15, 3) := by decide +kernel
theorem d_Row_at_9 : decode M_Row_at.2.1 9 = .ok (.if_icmp .ge 12, 3) := by decide +kernel
theorem d_Row_at_12 : decode M_Row_at.2.1 12 = .ok (.aload_n 0, 1) := by decide +kernel
theorem d_Row_at_13 : decode M_Row_at.2.1 13 = .ok (.getfield 9, 3) := by decide +kernel
theorem d_Row_at_16 : decode M_Row_at.2.1 16 = .ok (.iload_n 1, 1) := by decide +kernel
theorem d_Row_at_17 : decode M_Row_at.2.1 17 = .ok (.iaload, 1) := by decide +kernel
theorem d_Row_at_18 : decode M_Row_at.2.1 18 = .ok (.goto 4, 3) := by decide +kernel
theorem d_Row_at_21 : decode M_Row_at.2.1 21 = .ok (.iconst (-1), 1) := by decide +kernel
theorem d_Row_at_22 : decode M_Row_at.2.1 22 = .ok (.ireturn, 1) := by decide +kernel
def f_Row_at (x0 : Nat) (x1 : Int32) (c : cM) (K : Int32 → cM → Prop) : Prop :=
  ((x1 < 0) → (K (-1) c)) ∧ (¬ (x1 < 0) → (kd x0 = 1 ∧ ((((c x0 1) ≤ x1) → (K (-1) c)) ∧ (¬ ((c x0 1) ≤ x1) → (kd (rf x0 0) = 100 ∧ (vp_in x1 (ln (rf x0 0)) ∧ (K (c (rf x0 0) (Int32.toNatClampNeg x1)) c)))))))
theorem c_Row_at {x0 : Nat} {x1 : Int32} {c : cM} {K : Int32 → cM → Prop} (h : f_Row_at x0 x1 c K) : Ct M_Row_at 0 0 0 (wd c) [.ref x0, .int x1] (PoI K) := by
  refine Ct.of (by decide +kernel) (Nat.le_of_ble_eq_true rfl) (fun Z T => ?_)
  have F := T.F
  unfold f_Row_at at h
  show Z (wd c) 0 [(0, .ref x0), (1, .int x1)] [] 0 0
  refine g_iload_n F (pc := 0) d_Row_at_0 1 rfl ?_
  refine g_if_lt (tgt := 21) F (pc := 1) d_Row_at_1 (by decide) (fun b1 => ?_) (fun b1 => ?_)
  · replace h := h.1 b1
    refine g_iconst (v := (-1)) F (pc := 21) d_Row_at_21 (by decide) ?_
    exact g_iret T (pc := 22) d_Row_at_22 rfl (Nat.le_refl _) (Nat.le_refl _) (poI h)
  · replace h := h.2 b1
    refine g_iload_n F (pc := 4) d_Row_at_4 1 rfl (g_aload_n F (pc := 5) d_Row_at_5 0 rfl ?_)
    obtain ⟨o2, h⟩ := h
    refine gc_getI F (pc := 6) d_Row_at_6 fi_Row_15 o2 ?_
    refine g_icmp_ge (tgt := 21) F (pc := 9) d_Row_at_9 (by decide) (fun b3 => ?_) (fun b3 => ?_)
    · replace h := h.1 b3
      refine g_iconst (v := (-1)) F (pc := 21) d_Row_at_21 (by decide) ?_
      exact g_iret T (pc := 22) d_Row_at_22 rfl (Nat.le_refl _) (Nat.le_refl _) (poI h)
    · replace h := h.2 b3
      refine g_aload_n F (pc := 12) d_Row_at_12 0 rfl (gc_getR F (pc := 13) d_Row_at_13 fi_Row_9 o2 (g_iload_n F (pc := 16) d_Row_at_16 1 rfl ?_))
      obtain ⟨o4, h⟩ := h
      obtain ⟨o5, h⟩ := h
      refine gc_iald F (pc := 17) d_Row_at_17 o4 o5 (g_goto (tgt := 22) F (pc := 18) d_Row_at_18 (by decide) ?_)
      exact g_iret T (pc := 22) d_Row_at_22 rfl (Nat.le_refl _) (Nat.le_refl _) (poI h)
theorem d_Row_hasInts_0 : decode M_Row_hasInts.2.1 0 = .ok (.iload_n 1, 1) := by decide +kernel
theorem d_Row_hasInts_1 : decode M_Row_hasInts.2.1 1 = .ok (.ifCond .lt 16, 3) := by decide +kernel
theorem d_Row_hasInts_4 : decode M_Row_hasInts.2.1 4 = .ok (.iload_n 1, 1) := by decide +kernel
theorem d_Row_hasInts_5 : decode M_Row_hasInts.2.1 5 = .ok (.iconst 4, 1) := by decide +kernel
theorem d_Row_hasInts_6 : decode M_Row_hasInts.2.1 6 = .ok (.aload_n 2, 1) := by decide +kernel
theorem d_Row_hasInts_7 : decode M_Row_hasInts.2.1 7 = .ok (.arraylength, 1) := by decide +kernel
theorem d_Row_hasInts_8 : decode M_Row_hasInts.2.1 8 = .ok (.imul, 1) := by decide +kernel
theorem d_Row_hasInts_9 : decode M_Row_hasInts.2.1 9 = .ok (.iadd, 1) := by decide +kernel
theorem d_Row_hasInts_10 : decode M_Row_hasInts.2.1 10 = .ok (.aload_n 0, 1) := by decide +kernel
theorem d_Row_hasInts_11 : decode M_Row_hasInts.2.1 11 = .ok (.getfield 15, 3) := by decide +kernel
theorem d_Row_hasInts_14 : decode M_Row_hasInts.2.1 14 = .ok (.if_icmp .le 5, 3) := by decide +kernel
theorem d_Row_hasInts_17 : decode M_Row_hasInts.2.1 17 = .ok (.iconst 0, 1) := by decide +kernel
theorem d_Row_hasInts_18 : decode M_Row_hasInts.2.1 18 = .ok (.ireturn, 1) := by decide +kernel
theorem d_Row_hasInts_19 : decode M_Row_hasInts.2.1 19 = .ok (.iconst 0, 1) := by decide +kernel
theorem d_Row_hasInts_20 : decode M_Row_hasInts.2.1 20 = .ok (.istore_n 3, 1) := by decide +kernel
theorem d_Row_hasInts_21 : decode M_Row_hasInts.2.1 21 = .ok (.iload_n 3, 1) := by decide +kernel
theorem d_Row_hasInts_22 : decode M_Row_hasInts.2.1 22 = .ok (.aload_n 2, 1) := by decide +kernel
theorem d_Row_hasInts_23 : decode M_Row_hasInts.2.1 23 = .ok (.arraylength, 1) := by decide +kernel
theorem d_Row_hasInts_24 : decode M_Row_hasInts.2.1 24 = .ok (.if_icmp .ge 26, 3) := by decide +kernel
theorem d_Row_hasInts_27 : decode M_Row_hasInts.2.1 27 = .ok (.aload_n 0, 1) := by decide +kernel
theorem d_Row_hasInts_28 : decode M_Row_hasInts.2.1 28 = .ok (.iload_n 1, 1) := by decide +kernel
theorem d_Row_hasInts_29 : decode M_Row_hasInts.2.1 29 = .ok (.iconst 4, 1) := by decide +kernel
theorem d_Row_hasInts_30 : decode M_Row_hasInts.2.1 30 = .ok (.iload_n 3, 1) := by decide +kernel
theorem d_Row_hasInts_31 : decode M_Row_hasInts.2.1 31 = .ok (.imul, 1) := by decide +kernel
theorem d_Row_hasInts_32 : decode M_Row_hasInts.2.1 32 = .ok (.iadd, 1) := by decide +kernel
theorem d_Row_hasInts_33 : decode M_Row_hasInts.2.1 33 = .ok (.invokevirtual 43, 3) := by decide +kernel
theorem d_Row_hasInts_36 : decode M_Row_hasInts.2.1 36 = .ok (.aload_n 2, 1) := by decide +kernel
theorem d_Row_hasInts_37 : decode M_Row_hasInts.2.1 37 = .ok (.iload_n 3, 1) := by decide +kernel
theorem d_Row_hasInts_38 : decode M_Row_hasInts.2.1 38 = .ok (.iaload, 1) := by decide +kernel
theorem d_Row_hasInts_39 : decode M_Row_hasInts.2.1 39 = .ok (.if_icmp .eq 5, 3) := by decide +kernel
theorem d_Row_hasInts_42 : decode M_Row_hasInts.2.1 42 = .ok (.iconst 0, 1) := by decide +kernel
theorem d_Row_hasInts_43 : decode M_Row_hasInts.2.1 43 = .ok (.ireturn, 1) := by decide +kernel
theorem d_Row_hasInts_44 : decode M_Row_hasInts.2.1 44 = .ok (.iinc 3 1, 3) := by decide +kernel
theorem d_Row_hasInts_47 : decode M_Row_hasInts.2.1 47 = .ok (.goto (-26), 3) := by decide +kernel
theorem d_Row_hasInts_50 : decode M_Row_hasInts.2.1 50 = .ok (.iconst 1, 1) := by decide +kernel
theorem d_Row_hasInts_51 : decode M_Row_hasInts.2.1 51 = .ok (.ireturn, 1) := by decide +kernel
def f_Row_hasInts (x0 : Nat) (x1 : Int32) (x2 : Nat) (c : cM) (K : Int32 → cM → Prop) : Prop :=
  ((x1 < 0) → (K 0 c)) ∧ (¬ (x1 < 0) → (kd x2 = 100 ∧ (kd x0 = 1 ∧ ((((x1 + (4 * (nI (ln x2)))) ≤ (c x0 1)) → (∃ I5 : Nat → Int32 → cM → Prop, (∃ n, I5 n 0 c) ∧ ∀ (n6 : Nat) (y9 : Int32) (c10 : cM), I5 n6 y9 c10 → ((((nI (ln x2)) ≤ y9) → (K 1 c10)) ∧ (¬ ((nI (ln x2)) ≤ y9) → (f_Row_intAt x0 (x1 + (4 * y9)) c10 (fun v13 c12 => vp_in y9 (ln x2) ∧ (((v13 = (c12 x2 (Int32.toNatClampNeg y9))) → (∃ m, m < n6 ∧ I5 m (y9 + 1) c12)) ∧ (¬ (v13 = (c12 x2 (Int32.toNatClampNeg y9))) → (K 0 c12))))))))) ∧ (¬ ((x1 + (4 * (nI (ln x2)))) ≤ (c x0 1)) → (K 0 c))))))
theorem c_Row_hasInts {x0 : Nat} {x1 : Int32} {x2 : Nat} {c : cM} {K : Int32 → cM → Prop} (h : f_Row_hasInts x0 x1 x2 c K) : Ct M_Row_hasInts 1 0 0 (wd c) [.ref x0, .int x1, .ref x2] (PoI K) := by
  refine Ct.of (by decide +kernel) (Nat.le_of_ble_eq_true rfl) (fun Z T => ?_)
  have F := T.F
  unfold f_Row_hasInts at h
  show Z (wd c) 0 [(0, .ref x0), (1, .int x1), (2, .ref x2)] [] 0 0
  refine g_iload_n F (pc := 0) d_Row_hasInts_0 1 rfl ?_
  refine g_if_lt (tgt := 17) F (pc := 1) d_Row_hasInts_1 (by decide) (fun b1 => ?_) (fun b1 => ?_)
  · replace h := h.1 b1
    refine g_iconst (v := 0) F (pc := 17) d_Row_hasInts_17 (by decide) ?_
    exact g_zret T (pc := 18) d_Row_hasInts_18 rfl (by decide) (Nat.le_refl _) (Nat.le_refl _) (poI h)
  · replace h := h.2 b1
    refine g_iload_n F (pc := 4) d_Row_hasInts_4 1 rfl (g_iconst (v := 4) F (pc := 5) d_Row_hasInts_5 (by decide) (g_aload_n F (pc := 6) d_Row_hasInts_6 2 rfl ?_))
    obtain ⟨o2, h⟩ := h
    refine gc_alen0 F (pc := 7) d_Row_hasInts_7 o2 (g_imul F (pc := 8) d_Row_hasInts_8 (g_iadd F (pc := 9) d_Row_hasInts_9 (g_aload_n F (pc := 10) d_Row_hasInts_10 0 rfl ?_)))
    obtain ⟨o3, h⟩ := h
    refine gc_getI F (pc := 11) d_Row_hasInts_11 fi_Row_15 o3 ?_
    refine g_icmp_le (tgt := 19) F (pc := 14) d_Row_hasInts_14 (by decide) (fun b4 => ?_) (fun b4 => ?_)
    · replace h := h.1 b4
      refine g_iconst (v := 0) F (pc := 19) d_Row_hasInts_19 (by decide) (g_istore_n (lv' := [(3, .int 0), (0, .ref x0), (1, .int x1), (2, .ref x2)]) F (pc := 20) d_Row_hasInts_20 (by decide) rfl ?_)
      refine g_lv (lv' := [(0, .ref x0), (1, .int x1), (2, .ref x2), (3, .int 0)]) F [1, 2, 3, 0] rfl ?_
      obtain ⟨I5, ⟨n0, h⟩, hI5⟩ := h
      have lp8 : ∀ (n6 : Nat) (y9 : Int32) (c10 : cM), I5 n6 y9 c10 → Z (wd c10) 21 [(0, .ref x0), (1, .int x1), (2, .ref x2), (3, .int y9)] [] 0 0 := by
        intro n6
        induction n6 using Nat.strongRecOn with
        | _ n6 ih7 =>
          intro y9 c10 h
          replace h := hI5 n6 y9 c10 h
          refine g_iload_n F (pc := 21) d_Row_hasInts_21 3 rfl (g_aload_n F (pc := 22) d_Row_hasInts_22 2 rfl (gc_alen0 F (pc := 23) d_Row_hasInts_23 o2 ?_))
          refine g_icmp_ge (tgt := 50) F (pc := 24) d_Row_hasInts_24 (by decide) (fun b11 => ?_) (fun b11 => ?_)
          · replace h := h.1 b11
            refine g_iconst (v := 1) F (pc := 50) d_Row_hasInts_50 (by decide) ?_
            exact g_zret T (pc := 51) d_Row_hasInts_51 rfl (by decide) (Nat.le_refl _) (Nat.le_refl _) (poI h)
          · replace h := h.2 b11
            refine g_aload_n F (pc := 27) d_Row_hasInts_27 0 rfl (g_iload_n F (pc := 28) d_Row_hasInts_28 1 rfl (g_iconst (v := 4) F (pc := 29) d_Row_hasInts_29 (by decide) (g_iload_n F (pc := 30) d_Row_hasInts_30 3 rfl (g_imul F (pc := 31) d_Row_hasInts_31 (g_iadd F (pc := 32) d_Row_hasInts_32 ?_)))))
            refine gc_callVI (As := [.int (x1 + (4 * y9))]) (st := []) F (pc := 33) d_Row_hasInts_33 cb_Row_43 iv_Row_intAt np_Row_intAt o3 vc_1 (c_Row_intAt h) rfl (by decide) (Nat.le_refl _) (Nat.le_refl _) (Nat.le_of_ble_eq_true rfl) (fun v13 c12 h => ?_)
            refine g_aload_n F (pc := 36) d_Row_hasInts_36 2 rfl (g_iload_n F (pc := 37) d_Row_hasInts_37 3 rfl ?_)
            obtain ⟨o14, h⟩ := h
            refine gc_iald F (pc := 38) d_Row_hasInts_38 o2 o14 ?_
            refine g_icmp_eq (tgt := 44) F (pc := 39) d_Row_hasInts_39 (by decide) (fun b15 => ?_) (fun b15 => ?_)
            · replace h := h.1 b15
              refine g_iinc (v := (y9 + 1)) (lv' := [(3, .int (y9 + 1)), (0, .ref x0), (1, .int x1), (2, .ref x2)]) F (pc := 44) d_Row_hasInts_44 3 rfl (sk_inc (by decide)) (by decide) rfl (g_goto (tgt := 21) F (pc := 47) d_Row_hasInts_47 (by decide) ?_)
              refine g_lv (lv' := [(0, .ref x0), (1, .int x1), (2, .ref x2), (3, .int (y9 + 1))]) F [1, 2, 3, 0] rfl ?_
              obtain ⟨m, hm, h⟩ := h
              exact ih7 m hm _ _ h
            · replace h := h.2 b15
              refine g_iconst (v := 0) F (pc := 42) d_Row_hasInts_42 (by decide) ?_
              exact g_zret T (pc := 43) d_Row_hasInts_43 rfl (by decide) (Nat.le_refl _) (Nat.le_refl _) (poI h)
      exact lp8 n0 _ _ h
    · replace h := h.2 b4
      refine g_iconst (v := 0) F (pc := 17) d_Row_hasInts_17 (by decide) ?_
      exact g_zret T (pc := 18) d_Row_hasInts_18 rfl (by decide) (Nat.le_refl _) (Nat.le_refl _) (poI h)
theorem d_Row_hasIntsAnywhere_0 : decode M_Row_hasIntsAnywhere.2.1 0 = .ok (.iconst 0, 1) := by decide +kernel
theorem d_Row_hasIntsAnywhere_1 : decode M_Row_hasIntsAnywhere.2.1 1 = .ok (.istore_n 2, 1) := by decide +kernel
theorem d_Row_hasIntsAnywhere_2 : decode M_Row_hasIntsAnywhere.2.1 2 = .ok (.iload_n 2, 1) := by decide +kernel
theorem d_Row_hasIntsAnywhere_3 : decode M_Row_hasIntsAnywhere.2.1 3 = .ok (.iconst 4, 1) := by decide +kernel
theorem d_Row_hasIntsAnywhere_4 : decode M_Row_hasIntsAnywhere.2.1 4 = .ok (.aload_n 1, 1) := by decide +kernel
theorem d_Row_hasIntsAnywhere_5 : decode M_Row_hasIntsAnywhere.2.1 5 = .ok (.arraylength, 1) := by decide +kernel
theorem d_Row_hasIntsAnywhere_6 : decode M_Row_hasIntsAnywhere.2.1 6 = .ok (.imul, 1) := by decide +kernel
theorem d_Row_hasIntsAnywhere_7 : decode M_Row_hasIntsAnywhere.2.1 7 = .ok (.iadd, 1) := by decide +kernel
theorem d_Row_hasIntsAnywhere_8 : decode M_Row_hasIntsAnywhere.2.1 8 = .ok (.aload_n 0, 1) := by decide +kernel
theorem d_Row_hasIntsAnywhere_9 : decode M_Row_hasIntsAnywhere.2.1 9 = .ok (.getfield 15, 3) := by decide +kernel
theorem d_Row_hasIntsAnywhere_12 : decode M_Row_hasIntsAnywhere.2.1 12 = .ok (.if_icmp .gt 20, 3) := by decide +kernel
theorem d_Row_hasIntsAnywhere_15 : decode M_Row_hasIntsAnywhere.2.1 15 = .ok (.aload_n 0, 1) := by decide +kernel
theorem d_Row_hasIntsAnywhere_16 : decode M_Row_hasIntsAnywhere.2.1 16 = .ok (.iload_n 2, 1) := by decide +kernel
theorem d_Row_hasIntsAnywhere_17 : decode M_Row_hasIntsAnywhere.2.1 17 = .ok (.aload_n 1, 1) := by decide +kernel
theorem d_Row_hasIntsAnywhere_18 : decode M_Row_hasIntsAnywhere.2.1 18 = .ok (.invokevirtual 47, 3) := by decide +kernel
theorem d_Row_hasIntsAnywhere_21 : decode M_Row_hasIntsAnywhere.2.1 21 = .ok (.ifCond .eq 5, 3) := by decide +kernel
theorem d_Row_hasIntsAnywhere_24 : decode M_Row_hasIntsAnywhere.2.1 24 = .ok (.iconst 1, 1) := by decide +kernel
theorem d_Row_hasIntsAnywhere_25 : decode M_Row_hasIntsAnywhere.2.1 25 = .ok (.ireturn, 1) := by decide +kernel
theorem d_Row_hasIntsAnywhere_26 : decode M_Row_hasIntsAnywhere.2.1 26 = .ok (.iinc 2 1, 3) := by decide +kernel
theorem d_Row_hasIntsAnywhere_29 : decode M_Row_hasIntsAnywhere.2.1 29 = .ok (.goto (-27), 3) := by decide +kernel
theorem d_Row_hasIntsAnywhere_32 : decode M_Row_hasIntsAnywhere.2.1 32 = .ok (.iconst 0, 1) := by decide +kernel
theorem d_Row_hasIntsAnywhere_33 : decode M_Row_hasIntsAnywhere.2.1 33 = .ok (.ireturn, 1) := by decide +kernel
def f_Row_hasIntsAnywhere (x0 : Nat) (x1 : Nat) (c : cM) (K : Int32 → cM → Prop) : Prop :=
  ∃ I1 : Nat → Int32 → cM → Prop, (∃ n, I1 n 0 c) ∧ ∀ (n2 : Nat) (y5 : Int32) (c6 : cM), I1 n2 y5 c6 → (kd x1 = 100 ∧ (kd x0 = 1 ∧ ((((c6 x0 1) < (y5 + (4 * (nI (ln x1))))) → (K 0 c6)) ∧ (¬ ((c6 x0 1) < (y5 + (4 * (nI (ln x1))))) → (f_Row_hasInts x0 y5 x1 c6 (fun v11 c10 => ((v11 = 0) → (∃ m, m < n2 ∧ I1 m (y5 + 1) c10)) ∧ (¬ (v11 = 0) → (K 1 c10))))))))
theorem c_Row_hasIntsAnywhere {x0 : Nat} {x1 : Nat} {c : cM} {K : Int32 → cM → Prop} (h : f_Row_hasIntsAnywhere x0 x1 c K) : Ct M_Row_hasIntsAnywhere 2 0 0 (wd c) [.ref x0, .ref x1] (PoI K) := by
  refine Ct.of (by decide +kernel) (Nat.le_of_ble_eq_true rfl) (fun Z T => ?_)
  have F := T.F
  unfold f_Row_hasIntsAnywhere at h
  show Z (wd c) 0 [(0, .ref x0), (1, .ref x1)] [] 0 0
  refine g_iconst (v := 0) F (pc := 0) d_Row_hasIntsAnywhere_0 (by decide) (g_istore_n (lv' := [(2, .int 0), (0, .ref x0), (1, .ref x1)]) F (pc := 1) d_Row_hasIntsAnywhere_1 (by decide) rfl ?_)
  refine g_lv (lv' := [(0, .ref x0), (1, .ref x1), (2, .int 0)]) F [1, 2, 0] rfl ?_
  obtain ⟨I1, ⟨n0, h⟩, hI1⟩ := h
  have lp4 : ∀ (n2 : Nat) (y5 : Int32) (c6 : cM), I1 n2 y5 c6 → Z (wd c6) 2 [(0, .ref x0), (1, .ref x1), (2, .int y5)] [] 0 0 := by
    intro n2
    induction n2 using Nat.strongRecOn with
    | _ n2 ih3 =>
      intro y5 c6 h
      replace h := hI1 n2 y5 c6 h
      refine g_iload_n F (pc := 2) d_Row_hasIntsAnywhere_2 2 rfl (g_iconst (v := 4) F (pc := 3) d_Row_hasIntsAnywhere_3 (by decide) (g_aload_n F (pc := 4) d_Row_hasIntsAnywhere_4 1 rfl ?_))
      obtain ⟨o7, h⟩ := h
      refine gc_alen0 F (pc := 5) d_Row_hasIntsAnywhere_5 o7 (g_imul F (pc := 6) d_Row_hasIntsAnywhere_6 (g_iadd F (pc := 7) d_Row_hasIntsAnywhere_7 (g_aload_n F (pc := 8) d_Row_hasIntsAnywhere_8 0 rfl ?_)))
      obtain ⟨o8, h⟩ := h
      refine gc_getI F (pc := 9) d_Row_hasIntsAnywhere_9 fi_Row_15 o8 ?_
      refine g_icmp_gt (tgt := 32) F (pc := 12) d_Row_hasIntsAnywhere_12 (by decide) (fun b9 => ?_) (fun b9 => ?_)
      · replace h := h.1 b9
        refine g_iconst (v := 0) F (pc := 32) d_Row_hasIntsAnywhere_32 (by decide) ?_
        exact g_zret T (pc := 33) d_Row_hasIntsAnywhere_33 rfl (by decide) (Nat.le_refl _) (Nat.le_refl _) (poI h)
      · replace h := h.2 b9
        refine g_aload_n F (pc := 15) d_Row_hasIntsAnywhere_15 0 rfl (g_iload_n F (pc := 16) d_Row_hasIntsAnywhere_16 2 rfl (g_aload_n F (pc := 17) d_Row_hasIntsAnywhere_17 1 rfl ?_))
        refine gc_callVI (As := [.int y5, .ref x1]) (st := []) F (pc := 18) d_Row_hasIntsAnywhere_18 cb_Row_47 iv_Row_hasInts np_Row_hasInts o8 vc_1 (c_Row_hasInts h) rfl (by decide) (Nat.le_refl _) (Nat.le_refl _) (Nat.le_of_ble_eq_true rfl) (fun v11 c10 h => ?_)
        refine g_if_eq (tgt := 26) F (pc := 21) d_Row_hasIntsAnywhere_21 (by decide) (fun b12 => ?_) (fun b12 => ?_)
        · replace h := h.1 b12
          refine g_iinc (v := (y5 + 1)) (lv' := [(2, .int (y5 + 1)), (0, .ref x0), (1, .ref x1)]) F (pc := 26) d_Row_hasIntsAnywhere_26 2 rfl (sk_inc (by decide)) (by decide) rfl (g_goto (tgt := 2) F (pc := 29) d_Row_hasIntsAnywhere_29 (by decide) ?_)
          refine g_lv (lv' := [(0, .ref x0), (1, .ref x1), (2, .int (y5 + 1))]) F [1, 2, 0] rfl ?_
          obtain ⟨m, hm, h⟩ := h
          exact ih3 m hm _ _ h
        · replace h := h.2 b12
          refine g_iconst (v := 1) F (pc := 24) d_Row_hasIntsAnywhere_24 (by decide) ?_
          exact g_zret T (pc := 25) d_Row_hasIntsAnywhere_25 rfl (by decide) (Nat.le_refl _) (Nat.le_refl _) (poI h)
  exact lp4 n0 _ _ h
theorem d_Row_putDecimal_0 : decode M_Row_putDecimal.2.1 0 = .ok (.ldc 32, 2) := by decide +kernel
theorem d_Row_putDecimal_2 : decode M_Row_putDecimal.2.1 2 = .ok (.istore_n 2, 1) := by decide +kernel
theorem d_Row_putDecimal_3 : decode M_Row_putDecimal.2.1 3 = .ok (.iload_n 2, 1) := by decide +kernel
theorem d_Row_putDecimal_4 : decode M_Row_putDecimal.2.1 4 = .ok (.ifCond .le 34, 3) := by decide +kernel
theorem d_Row_putDecimal_7 : decode M_Row_putDecimal.2.1 7 = .ok (.iload_n 1, 1) := by decide +kernel
theorem d_Row_putDecimal_8 : decode M_Row_putDecimal.2.1 8 = .ok (.iload_n 2, 1) := by decide +kernel
theorem d_Row_putDecimal_9 : decode M_Row_putDecimal.2.1 9 = .ok (.if_icmp .ge 8, 3) := by decide +kernel
theorem d_Row_putDecimal_12 : decode M_Row_putDecimal.2.1 12 = .ok (.iload_n 2, 1) := by decide +kernel
theorem d_Row_putDecimal_13 : decode M_Row_putDecimal.2.1 13 = .ok (.iconst 1, 1) := by decide +kernel
theorem d_Row_putDecimal_14 : decode M_Row_putDecimal.2.1 14 = .ok (.if_icmp .ne 16, 3) := by decide +kernel
theorem d_Row_putDecimal_17 : decode M_Row_putDecimal.2.1 17 = .ok (.aload_n 0, 1) := by decide +kernel
theorem d_Row_putDecimal_18 : decode M_Row_putDecimal.2.1 18 = .ok (.bipush 48, 2) := by decide +kernel
theorem d_Row_putDecimal_20 : decode M_Row_putDecimal.2.1 20 = .ok (.iload_n 1, 1) := by decide +kernel
theorem d_Row_putDecimal_21 : decode M_Row_putDecimal.2.1 21 = .ok (.iload_n 2, 1) := by decide +kernel
theorem d_Row_putDecimal_22 : decode M_Row_putDecimal.2.1 22 = .ok (.idiv, 1) := by decide +kernel
theorem d_Row_putDecimal_23 : decode M_Row_putDecimal.2.1 23 = .ok (.bipush 10, 2) := by decide +kernel
theorem d_Row_putDecimal_25 : decode M_Row_putDecimal.2.1 25 = .ok (.irem, 1) := by decide +kernel
theorem d_Row_putDecimal_26 : decode M_Row_putDecimal.2.1 26 = .ok (.iadd, 1) := by decide +kernel
theorem d_Row_putDecimal_27 : decode M_Row_putDecimal.2.1 27 = .ok (.invokevirtual 28, 3) := by decide +kernel
theorem d_Row_putDecimal_30 : decode M_Row_putDecimal.2.1 30 = .ok (.iload_n 2, 1) := by decide +kernel
theorem d_Row_putDecimal_31 : decode M_Row_putDecimal.2.1 31 = .ok (.bipush 10, 2) := by decide +kernel
theorem d_Row_putDecimal_33 : decode M_Row_putDecimal.2.1 33 = .ok (.idiv, 1) := by decide +kernel
theorem d_Row_putDecimal_34 : decode M_Row_putDecimal.2.1 34 = .ok (.istore_n 2, 1) := by decide +kernel
theorem d_Row_putDecimal_35 : decode M_Row_putDecimal.2.1 35 = .ok (.goto (-32), 3) := by decide +kernel
theorem d_Row_putDecimal_38 : decode M_Row_putDecimal.2.1 38 = .ok (.return_, 1) := by decide +kernel
def f_Row_putDecimal (x0 : Nat) (x1 : Int32) (c : cM) (K : cM → Prop) : Prop :=
  ∃ I1 : Nat → Int32 → cM → Prop, (∃ n, I1 n 1000000000 c) ∧ ∀ (n2 : Nat) (y5 : Int32) (c6 : cM), I1 n2 y5 c6 → (((y5 ≤ 0) → (K c6)) ∧ (¬ (y5 ≤ 0) → (∃ J17 : cM → Prop, (∀ (c16 : cM), J17 c16 → (∃ m, m < n2 ∧ I1 m (y5 / 10) c16)) ∧ (∃ J20 : Prop, (J20  → (¬ y5 = 0 ∧ (kd x0 = 1 ∧ (f_Row_put x0 (48 + (c_rem (x1 / y5) 10)) c6 (fun c24 => J17 c24))))) ∧ (((y5 ≤ x1) → (J20)) ∧ (¬ (y5 ≤ x1) → (((¬ y5 = 1) → (J17 c6)) ∧ (y5 = 1 → (J20)))))))))
theorem c_Row_putDecimal {x0 : Nat} {x1 : Int32} {c : cM} {K : cM → Prop} (h : f_Row_putDecimal x0 x1 c K) : Ct M_Row_putDecimal 1 0 0 (wd c) [.ref x0, .int x1] (PoV K) := by
  refine Ct.of (by decide +kernel) (Nat.le_of_ble_eq_true rfl) (fun Z T => ?_)
  have F := T.F
  unfold f_Row_putDecimal at h
  show Z (wd c) 0 [(0, .ref x0), (1, .int x1)] [] 0 0
  refine g_ldc F (pc := 0) d_Row_putDecimal_0 kc_Row_32 (g_istore_n (lv' := [(2, .int 1000000000), (0, .ref x0), (1, .int x1)]) F (pc := 2) d_Row_putDecimal_2 (by decide) rfl ?_)
  refine g_lv (lv' := [(0, .ref x0), (1, .int x1), (2, .int 1000000000)]) F [1, 2, 0] rfl ?_
  obtain ⟨I1, ⟨n0, h⟩, hI1⟩ := h
  have lp4 : ∀ (n2 : Nat) (y5 : Int32) (c6 : cM), I1 n2 y5 c6 → Z (wd c6) 3 [(0, .ref x0), (1, .int x1), (2, .int y5)] [] 0 0 := by
    intro n2
    induction n2 using Nat.strongRecOn with
    | _ n2 ih3 =>
      intro y5 c6 h
      replace h := hI1 n2 y5 c6 h
      refine g_iload_n F (pc := 3) d_Row_putDecimal_3 2 rfl ?_
      refine g_if_le (tgt := 38) F (pc := 4) d_Row_putDecimal_4 (by decide) (fun b7 => ?_) (fun b7 => ?_)
      · replace h := h.1 b7
        exact g_vret T (pc := 38) d_Row_putDecimal_38 rfl (Nat.le_refl _) (Nat.le_refl _) (poV h)
      · replace h := h.2 b7
        refine g_iload_n F (pc := 7) d_Row_putDecimal_7 1 rfl (g_iload_n F (pc := 8) d_Row_putDecimal_8 2 rfl ?_)
        obtain ⟨J17, hJ17, h⟩ := h
        have jn18 : ∀ (c16 : cM), J17 c16 → Z (wd c16) 30 [(0, .ref x0), (1, .int x1), (2, .int y5)] [] 0 0 := by
          intro c16 h
          replace h := hJ17 c16 h
          refine g_iload_n F (pc := 30) d_Row_putDecimal_30 2 rfl (g_bipush (v := 10) F (pc := 31) d_Row_putDecimal_31 (by decide) (g_idiv F (pc := 33) d_Row_putDecimal_33 (by decide) (g_istore_n (lv' := [(2, .int (y5 / 10)), (0, .ref x0), (1, .int x1)]) F (pc := 34) d_Row_putDecimal_34 (by decide) rfl (g_goto (tgt := 3) F (pc := 35) d_Row_putDecimal_35 (by decide) ?_))))
          refine g_lv (lv' := [(0, .ref x0), (1, .int x1), (2, .int (y5 / 10))]) F [1, 2, 0] rfl ?_
          obtain ⟨m, hm, h⟩ := h
          exact ih3 m hm _ _ h
        obtain ⟨J20, hJ20, h⟩ := h
        have jn21 : J20  → Z (wd c6) 17 [(0, .ref x0), (1, .int x1), (2, .int y5)] [] 0 0 := by
          intro  h
          replace h := hJ20  h
          refine g_aload_n F (pc := 17) d_Row_putDecimal_17 0 rfl (g_bipush (v := 48) F (pc := 18) d_Row_putDecimal_18 (by decide) (g_iload_n F (pc := 20) d_Row_putDecimal_20 1 rfl (g_iload_n F (pc := 21) d_Row_putDecimal_21 2 rfl ?_)))
          obtain ⟨o22, h⟩ := h
          refine g_idiv F (pc := 22) d_Row_putDecimal_22 o22 (g_bipush (v := 10) F (pc := 23) d_Row_putDecimal_23 (by decide) (g_irem F (pc := 25) d_Row_putDecimal_25 (by decide) (g_iadd F (pc := 26) d_Row_putDecimal_26 ?_)))
          obtain ⟨o23, h⟩ := h
          refine gc_callVV (As := [.int (48 + (c_rem (x1 / y5) 10))]) (st := []) F (pc := 27) d_Row_putDecimal_27 cb_Row_28 iv_Row_put np_Row_put o23 vc_1 (c_Row_put h) rfl (by decide) (Nat.le_refl _) (Nat.le_refl _) (Nat.le_of_ble_eq_true rfl) (fun c24 h => ?_)
          exact jn18 _ h
        refine g_icmp_ge (tgt := 17) F (pc := 9) d_Row_putDecimal_9 (by decide) (fun b8 => ?_) (fun b8 => ?_)
        · replace h := h.1 b8
          exact jn21  h
        · replace h := h.2 b8
          refine g_iload_n F (pc := 12) d_Row_putDecimal_12 2 rfl (g_iconst (v := 1) F (pc := 13) d_Row_putDecimal_13 (by decide) ?_)
          refine g_icmp_ne (tgt := 30) F (pc := 14) d_Row_putDecimal_14 (by decide) (fun b25 => ?_) (fun b25 => ?_)
          · replace h := h.1 b25
            exact jn18 _ h
          · replace h := h.2 b25
            exact jn21  h
  exact lp4 n0 _ _ h
theorem d_Row_putLowFirst_0 : decode M_Row_putLowFirst.2.1 0 = .ok (.iconst 0, 1) := by decide +kernel
theorem d_Row_putLowFirst_1 : decode M_Row_putLowFirst.2.1 1 = .ok (.istore_n 3, 1) := by decide +kernel
theorem d_Row_putLowFirst_2 : decode M_Row_putLowFirst.2.1 2 = .ok (.iload_n 3, 1) := by decide +kernel
theorem d_Row_putLowFirst_3 : decode M_Row_putLowFirst.2.1 3 = .ok (.iload_n 2, 1) := by decide +kernel
theorem d_Row_putLowFirst_4 : decode M_Row_putLowFirst.2.1 4 = .ok (.if_icmp .ge 23, 3) := by decide +kernel
theorem d_Row_putLowFirst_7 : decode M_Row_putLowFirst.2.1 7 = .ok (.aload_n 0, 1) := by decide +kernel
theorem d_Row_putLowFirst_8 : decode M_Row_putLowFirst.2.1 8 = .ok (.iload_n 1, 1) := by decide +kernel
theorem d_Row_putLowFirst_9 : decode M_Row_putLowFirst.2.1 9 = .ok (.bipush 8, 2) := by decide +kernel
theorem d_Row_putLowFirst_11 : decode M_Row_putLowFirst.2.1 11 = .ok (.iload_n 3, 1) := by decide +kernel
theorem d_Row_putLowFirst_12 : decode M_Row_putLowFirst.2.1 12 = .ok (.imul, 1) := by decide +kernel
theorem d_Row_putLowFirst_13 : decode M_Row_putLowFirst.2.1 13 = .ok (.iushr, 1) := by decide +kernel
theorem d_Row_putLowFirst_14 : decode M_Row_putLowFirst.2.1 14 = .ok (.sipush 255, 3) := by decide +kernel
theorem d_Row_putLowFirst_17 : decode M_Row_putLowFirst.2.1 17 = .ok (.iand, 1) := by decide +kernel
theorem d_Row_putLowFirst_18 : decode M_Row_putLowFirst.2.1 18 = .ok (.invokevirtual 28, 3) := by decide +kernel
theorem d_Row_putLowFirst_21 : decode M_Row_putLowFirst.2.1 21 = .ok (.iinc 3 1, 3) := by decide +kernel
theorem d_Row_putLowFirst_24 : decode M_Row_putLowFirst.2.1 24 = .ok (.goto (-22), 3) := by decide +kernel
theorem d_Row_putLowFirst_27 : decode M_Row_putLowFirst.2.1 27 = .ok (.return_, 1) := by decide +kernel
def f_Row_putLowFirst (x0 : Nat) (x1 : Int32) (x2 : Int32) (c : cM) (K : cM → Prop) : Prop :=
  ∃ I1 : Nat → Int32 → cM → Prop, (∃ n, I1 n 0 c) ∧ ∀ (n2 : Nat) (y5 : Int32) (c6 : cM), I1 n2 y5 c6 → (((x2 ≤ y5) → (K c6)) ∧ (¬ (x2 ≤ y5) → (kd x0 = 1 ∧ (f_Row_put x0 ((c_ushr x1 (8 * y5)) &&& 255) c6 (fun c9 => ∃ m, m < n2 ∧ I1 m (y5 + 1) c9)))))
theorem c_Row_putLowFirst {x0 : Nat} {x1 : Int32} {x2 : Int32} {c : cM} {K : cM → Prop} (h : f_Row_putLowFirst x0 x1 x2 c K) : Ct M_Row_putLowFirst 1 0 0 (wd c) [.ref x0, .int x1, .int x2] (PoV K) := by
  refine Ct.of (by decide +kernel) (Nat.le_of_ble_eq_true rfl) (fun Z T => ?_)
  have F := T.F
  unfold f_Row_putLowFirst at h
  show Z (wd c) 0 [(0, .ref x0), (1, .int x1), (2, .int x2)] [] 0 0
  refine g_iconst (v := 0) F (pc := 0) d_Row_putLowFirst_0 (by decide) (g_istore_n (lv' := [(3, .int 0), (0, .ref x0), (1, .int x1), (2, .int x2)]) F (pc := 1) d_Row_putLowFirst_1 (by decide) rfl ?_)
  refine g_lv (lv' := [(0, .ref x0), (1, .int x1), (2, .int x2), (3, .int 0)]) F [1, 2, 3, 0] rfl ?_
  obtain ⟨I1, ⟨n0, h⟩, hI1⟩ := h
  have lp4 : ∀ (n2 : Nat) (y5 : Int32) (c6 : cM), I1 n2 y5 c6 → Z (wd c6) 2 [(0, .ref x0), (1, .int x1), (2, .int x2), (3, .int y5)] [] 0 0 := by
    intro n2
    induction n2 using Nat.strongRecOn with
    | _ n2 ih3 =>
      intro y5 c6 h
      replace h := hI1 n2 y5 c6 h
      refine g_iload_n F (pc := 2) d_Row_putLowFirst_2 3 rfl (g_iload_n F (pc := 3) d_Row_putLowFirst_3 2 rfl ?_)
      refine g_icmp_ge (tgt := 27) F (pc := 4) d_Row_putLowFirst_4 (by decide) (fun b7 => ?_) (fun b7 => ?_)
      · replace h := h.1 b7
        exact g_vret T (pc := 27) d_Row_putLowFirst_27 rfl (Nat.le_refl _) (Nat.le_refl _) (poV h)
      · replace h := h.2 b7
        refine g_aload_n F (pc := 7) d_Row_putLowFirst_7 0 rfl (g_iload_n F (pc := 8) d_Row_putLowFirst_8 1 rfl (g_bipush (v := 8) F (pc := 9) d_Row_putLowFirst_9 (by decide) (g_iload_n F (pc := 11) d_Row_putLowFirst_11 3 rfl (g_imul F (pc := 12) d_Row_putLowFirst_12 (g_iushr F (pc := 13) d_Row_putLowFirst_13 ?_)))))
        refine g_sipush (v := 255) F (pc := 14) d_Row_putLowFirst_14 (by decide) (g_iand F (pc := 17) d_Row_putLowFirst_17 ?_)
        obtain ⟨o8, h⟩ := h
        refine gc_callVV (As := [.int ((c_ushr x1 (8 * y5)) &&& 255)]) (st := []) F (pc := 18) d_Row_putLowFirst_18 cb_Row_28 iv_Row_put np_Row_put o8 vc_1 (c_Row_put h) rfl (by decide) (Nat.le_refl _) (Nat.le_refl _) (Nat.le_of_ble_eq_true rfl) (fun c9 h => ?_)
        refine g_iinc (v := (y5 + 1)) (lv' := [(3, .int (y5 + 1)), (0, .ref x0), (1, .int x1), (2, .int x2)]) F (pc := 21) d_Row_putLowFirst_21 3 rfl (sk_inc (by decide)) (by decide) rfl (g_goto (tgt := 2) F (pc := 24) d_Row_putLowFirst_24 (by decide) ?_)
        refine g_lv (lv' := [(0, .ref x0), (1, .int x1), (2, .int x2), (3, .int (y5 + 1))]) F [1, 2, 3, 0] rfl ?_
        obtain ⟨m, hm, h⟩ := h
        exact ih3 m hm _ _ h
  exact lp4 n0 _ _ h
